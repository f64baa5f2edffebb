theorem dX2_reaches_84 : decode cX2_reaches 84 = .ok (.lcmp, 1) := by decide +kernel
theorem dX2_reaches_85 : decode cX2_reaches 85 = .ok (.ifCond .eq 5, 3) := by decide +kernel
theorem dX2_reaches_88 : decode cX2_reaches 88 = .ok (.iconst 0, 1) := by decide +kernel
theorem dX2_reaches_89 : decode cX2_reaches 89 = .ok (.ireturn, 1) := by decide +kernel
theorem dX2_reaches_90 : decode cX2_reaches 90 = .ok (.iinc 2 1, 3) := by decide +kernel
theorem dX2_reaches_93 : decode cX2_reaches 93 = .ok (.goto (-91), 3) := by decide +kernel
theorem dX2_reaches_96 : decode cX2_reaches 96 = .ok (.iconst 1, 1) := by decide +kernel
theorem dX2_reaches_97 : decode cX2_reaches 97 = .ok (.ireturn, 1) := by decide +kernel
set_option maxRecDepth 20000 in
theorem ggX2_measure_X2_cellAt : GoodIn wsX2_measure wsX2_cellAt := goodIn_r _ [7, 8] (by decide +kernel) (by decide +kernel)
set_option maxRecDepth 20000 in
theorem gX2_measure_X2_cellAt : GoodIn wsX2_measure (va_wsS RX2 71 yX2_cellAt wsX2_cellAt) := goodIn_app (goodIn_of _ (by decide +kernel)) ggX2_measure_X2_cellAt
theorem dX2_measure_0 : decode cX2_measure 0 = .ok (.lconst 0, 1) := by decide +kernel
theorem dX2_measure_1 : decode cX2_measure 1 = .ok (.lstore_n 3, 1) := by decide +kernel
theorem dX2_measure_2 : decode cX2_measure 2 = .ok (.iconst 0, 1) := by decide +kernel
theorem dX2_measure_3 : decode cX2_measure 3 = .ok (.istore 5, 2) := by decide +kernel
theorem dX2_measure_5 : decode cX2_measure 5 = .ok (.iload 5, 2) := by decide +kernel
theorem dX2_measure_7 : decode cX2_measure 7 = .ok (.aload_n 0, 1) := by decide +kernel
theorem dX2_measure_8 : decode cX2_measure 8 = .ok (.getfield 19, 3) := by decide +kernel
theorem dX2_measure_11 : decode cX2_measure 11 = .ok (.if_icmp .ge 72, 3) := by decide +kernel
theorem dX2_measure_14 : decode cX2_measure 14 = .ok (.iconst 0, 1) := by decide +kernel
theorem dX2_measure_15 : decode cX2_measure 15 = .ok (.istore 6, 2) := by decide +kernel
theorem dX2_measure_17 : decode cX2_measure 17 = .ok (.iload 6, 2) := by decide +kernel
theorem dX2_measure_19 : decode cX2_measure 19 = .ok (.aload_n 0, 1) := by decide +kernel
theorem dX2_measure_20 : decode cX2_measure 20 = .ok (.getfield 19, 3) := by decide +kernel
theorem dX2_measure_23 : decode cX2_measure 23 = .ok (.if_icmp .ge 54, 3) := by decide +kernel
theorem dX2_measure_26 : decode cX2_measure 26 = .ok (.aload_n 0, 1) := by decide +kernel
theorem dX2_measure_27 : decode cX2_measure 27 = .ok (.getfield 15, 3) := by decide +kernel
theorem dX2_measure_30 : decode cX2_measure 30 = .ok (.iload 5, 2) := by decide +kernel
theorem dX2_measure_32 : decode cX2_measure 32 = .ok (.baload, 1) := by decide +kernel
theorem dX2_measure_33 : decode cX2_measure 33 = .ok (.ifCond .eq 38, 3) := by decide +kernel
theorem dX2_measure_36 : decode cX2_measure 36 = .ok (.aload_n 0, 1) := by decide +kernel
theorem dX2_measure_37 : decode cX2_measure 37 = .ok (.getfield 15, 3) := by decide +kernel
theorem dX2_measure_40 : decode cX2_measure 40 = .ok (.iload 6, 2) := by decide +kernel
theorem dX2_measure_42 : decode cX2_measure 42 = .ok (.baload, 1) := by decide +kernel
theorem dX2_measure_43 : decode cX2_measure 43 = .ok (.ifCond .eq 28, 3) := by decide +kernel
theorem dX2_measure_46 : decode cX2_measure 46 = .ok (.lload_n 3, 1) := by decide +kernel
theorem dX2_measure_47 : decode cX2_measure 47 = .ok (.aload_n 1, 1) := by decide +kernel
theorem dX2_measure_48 : decode cX2_measure 48 = .ok (.iload 5, 2) := by decide +kernel
theorem dX2_measure_50 : decode cX2_measure 50 = .ok (.laload, 1) := by decide +kernel
theorem dX2_measure_51 : decode cX2_measure 51 = .ok (.aload_n 0, 1) := by decide +kernel
theorem dX2_measure_52 : decode cX2_measure 52 = .ok (.getfield 9, 3) := by decide +kernel
theorem dX2_measure_55 : decode cX2_measure 55 = .ok (.iload 5, 2) := by decide +kernel
theorem dX2_measure_57 : decode cX2_measure 57 = .ok (.iload 6, 2) := by decide +kernel
theorem dX2_measure_59 : decode cX2_measure 59 = .ok (.invokestatic 71, 3) := by decide +kernel
theorem dX2_measure_62 : decode cX2_measure 62 = .ok (.laload, 1) := by decide +kernel
theorem dX2_measure_63 : decode cX2_measure 63 = .ok (.lmul, 1) := by decide +kernel
theorem dX2_measure_64 : decode cX2_measure 64 = .ok (.aload_n 2, 1) := by decide +kernel
theorem dX2_measure_65 : decode cX2_measure 65 = .ok (.iload 6, 2) := by decide +kernel
theorem dX2_measure_67 : decode cX2_measure 67 = .ok (.laload, 1) := by decide +kernel
theorem dX2_measure_68 : decode cX2_measure 68 = .ok (.lmul, 1) := by decide +kernel
theorem dX2_measure_69 : decode cX2_measure 69 = .ok (.lsub, 1) := by decide +kernel
theorem dX2_measure_70 : decode cX2_measure 70 = .ok (.lstore_n 3, 1) := by decide +kernel
theorem dX2_measure_71 : decode cX2_measure 71 = .ok (.iinc 6 1, 3) := by decide +kernel
theorem dX2_measure_74 : decode cX2_measure 74 = .ok (.goto (-57), 3) := by decide +kernel
theorem dX2_measure_77 : decode cX2_measure 77 = .ok (.iinc 5 1, 3) := by decide +kernel
theorem dX2_measure_80 : decode cX2_measure 80 = .ok (.goto (-75), 3) := by decide +kernel
theorem dX2_measure_83 : decode cX2_measure 83 = .ok (.lload_n 3, 1) := by decide +kernel
theorem dX2_measure_84 : decode cX2_measure 84 = .ok (.lreturn, 1) := by decide +kernel
set_option maxRecDepth 20000 in
theorem ggX3_init_X1_init : GoodIn wsX3_init wsX1_init := goodIn_r _ [10, 11, 2, 3, 12, 13, 14, 15, 16, 17, 18, 19, 20, 24, 25, 26, 27, 28, 29, 30, 31, 32, 33, 34] (by decide +kernel) (by decide +kernel)
set_option maxRecDepth 20000 in
theorem gX3_init_X1_init : GoodIn wsX3_init (wsX1_init) := ggX3_init_X1_init
theorem dX3_init_0 : decode cX3_init 0 = .ok (.aload_n 0, 1) := by decide +kernel
theorem dX3_init_1 : decode cX3_init 1 = .ok (.invokespecial 3, 3) := by decide +kernel
theorem dX3_init_4 : decode cX3_init 4 = .ok (.aload_n 0, 1) := by decide +kernel
theorem dX3_init_5 : decode cX3_init 5 = .ok (.bipush 8, 2) := by decide +kernel
theorem dX3_init_7 : decode cX3_init 7 = .ok (.anewarray 9, 3) := by decide +kernel
theorem dX3_init_10 : decode cX3_init 10 = .ok (.putfield 11, 3) := by decide +kernel
theorem dX3_init_13 : decode cX3_init 13 = .ok (.iconst 0, 1) := by decide +kernel
theorem dX3_init_14 : decode cX3_init 14 = .ok (.istore_n 1, 1) := by decide +kernel
theorem dX3_init_15 : decode cX3_init 15 = .ok (.iload_n 1, 1) := by decide +kernel
theorem dX3_init_16 : decode cX3_init 16 = .ok (.bipush 8, 2) := by decide +kernel
theorem dX3_init_18 : decode cX3_init 18 = .ok (.if_icmp .ge 22, 3) := by decide +kernel
theorem dX3_init_21 : decode cX3_init 21 = .ok (.aload_n 0, 1) := by decide +kernel
theorem dX3_init_22 : decode cX3_init 22 = .ok (.getfield 11, 3) := by decide +kernel
theorem dX3_init_25 : decode cX3_init 25 = .ok (.iload_n 1, 1) := by decide +kernel
theorem dX3_init_26 : decode cX3_init 26 = .ok (.new 9, 3) := by decide +kernel
theorem dX3_init_29 : decode cX3_init 29 = .ok (.dup, 1) := by decide +kernel
theorem dX3_init_30 : decode cX3_init 30 = .ok (.invokespecial 17, 3) := by decide +kernel
theorem dX3_init_33 : decode cX3_init 33 = .ok (.aastore, 1) := by decide +kernel
theorem dX3_init_34 : decode cX3_init 34 = .ok (.iinc 1 1, 3) := by decide +kernel
theorem dX3_init_37 : decode cX3_init 37 = .ok (.goto (-22), 3) := by decide +kernel
theorem dX3_init_40 : decode cX3_init 40 = .ok (.return_, 1) := by decide +kernel
set_option maxRecDepth 20000 in
theorem ggX3_keep_X1_copyFrom : GoodIn wsX3_keep wsX1_copyFrom := goodIn_r _ [12, 13, 14, 15, 16, 17, 18, 19, 20, 21, 22, 23, 24, 25, 26, 27, 31, 32, 33, 34, 35, 36, 37, 38, 39, 40, 41] (by decide +kernel) (by decide +kernel)
set_option maxRecDepth 20000 in
theorem gX3_keep_X1_copyFrom : GoodIn wsX3_keep (wsV RX3 22 RX1 yX1_copyFrom wsX1_copyFrom) := goodIn_app (goodIn_of _ (by decide +kernel)) ggX3_keep_X1_copyFrom
theorem dX3_keep_0 : decode cX3_keep 0 = .ok (.aload_n 0, 1) := by decide +kernel
theorem dX3_keep_1 : decode cX3_keep 1 = .ok (.getfield 11, 3) := by decide +kernel
theorem dX3_keep_4 : decode cX3_keep 4 = .ok (.aload_n 0, 1) := by decide +kernel
theorem dX3_keep_5 : decode cX3_keep 5 = .ok (.getfield 18, 3) := by decide +kernel
theorem dX3_keep_8 : decode cX3_keep 8 = .ok (.aaload, 1) := by decide +kernel
theorem dX3_keep_9 : decode cX3_keep 9 = .ok (.aload_n 1, 1) := by decide +kernel
theorem dX3_keep_10 : decode cX3_keep 10 = .ok (.invokevirtual 22, 3) := by decide +kernel
theorem dX3_keep_13 : decode cX3_keep 13 = .ok (.aload_n 0, 1) := by decide +kernel
theorem dX3_keep_14 : decode cX3_keep 14 = .ok (.aload_n 0, 1) := by decide +kernel
theorem dX3_keep_15 : decode cX3_keep 15 = .ok (.getfield 18, 3) := by decide +kernel
theorem dX3_keep_18 : decode cX3_keep 18 = .ok (.iconst 1, 1) := by decide +kernel
theorem dX3_keep_19 : decode cX3_keep 19 = .ok (.iadd, 1) := by decide +kernel
theorem dX3_keep_20 : decode cX3_keep 20 = .ok (.bipush 8, 2) := by decide +kernel
theorem dX3_keep_22 : decode cX3_keep 22 = .ok (.irem, 1) := by decide +kernel
theorem dX3_keep_23 : decode cX3_keep 23 = .ok (.putfield 18, 3) := by decide +kernel
theorem dX3_keep_26 : decode cX3_keep 26 = .ok (.aload_n 0, 1) := by decide +kernel
theorem dX3_keep_27 : decode cX3_keep 27 = .ok (.aload_n 0, 1) := by decide +kernel
theorem dX3_keep_28 : decode cX3_keep 28 = .ok (.getfield 26, 3) := by decide +kernel
theorem dX3_keep_31 : decode cX3_keep 31 = .ok (.iconst 1, 1) := by decide +kernel
theorem dX3_keep_32 : decode cX3_keep 32 = .ok (.iadd, 1) := by decide +kernel
theorem dX3_keep_33 : decode cX3_keep 33 = .ok (.bipush 8, 2) := by decide +kernel
theorem dX3_keep_35 : decode cX3_keep 35 = .ok (.invokestatic 29, 3) := by decide +kernel
theorem dX3_keep_38 : decode cX3_keep 38 = .ok (.putfield 26, 3) := by decide +kernel
theorem dX3_keep_41 : decode cX3_keep 41 = .ok (.return_, 1) := by decide +kernel
set_option maxRecDepth 20000 in
theorem ggX3_takeBack_X1_copyFrom : GoodIn wsX3_takeBack wsX1_copyFrom := goodIn_r _ [8, 9, 10, 11, 12, 13, 14, 15, 16, 17, 18, 19, 20, 21, 22, 23, 27, 28, 29, 30, 31, 32, 33, 34, 35, 36, 37] (by decide +kernel) (by decide +kernel)
set_option maxRecDepth 20000 in
theorem gX3_takeBack_X1_copyFrom : GoodIn wsX3_takeBack (wsV RX3 22 RX1 yX1_copyFrom wsX1_copyFrom) := goodIn_app (goodIn_of _ (by decide +kernel)) ggX3_takeBack_X1_copyFrom
theorem dX3_takeBack_0 : decode cX3_takeBack 0 = .ok (.aload_n 0, 1) := by decide +kernel
theorem dX3_takeBack_1 : decode cX3_takeBack 1 = .ok (.getfield 26, 3) := by decide +kernel
theorem dX3_takeBack_4 : decode cX3_takeBack 4 = .ok (.ifCond .ne 5, 3) := by decide +kernel
theorem dX3_takeBack_7 : decode cX3_takeBack 7 = .ok (.iconst 0, 1) := by decide +kernel
theorem dX3_takeBack_8 : decode cX3_takeBack 8 = .ok (.ireturn, 1) := by decide +kernel
theorem dX3_takeBack_9 : decode cX3_takeBack 9 = .ok (.aload_n 0, 1) := by decide +kernel
theorem dX3_takeBack_10 : decode cX3_takeBack 10 = .ok (.aload_n 0, 1) := by decide +kernel
theorem dX3_takeBack_11 : decode cX3_takeBack 11 = .ok (.getfield 18, 3) := by decide +kernel
theorem dX3_takeBack_14 : decode cX3_takeBack 14 = .ok (.bipush 8, 2) := by decide +kernel
theorem dX3_takeBack_16 : decode cX3_takeBack 16 = .ok (.iadd, 1) := by decide +kernel
theorem dX3_takeBack_17 : decode cX3_takeBack 17 = .ok (.iconst 1, 1) := by decide +kernel
theorem dX3_takeBack_18 : decode cX3_takeBack 18 = .ok (.isub, 1) := by decide +kernel
theorem dX3_takeBack_19 : decode cX3_takeBack 19 = .ok (.bipush 8, 2) := by decide +kernel
theorem dX3_takeBack_21 : decode cX3_takeBack 21 = .ok (.irem, 1) := by decide +kernel
theorem dX3_takeBack_22 : decode cX3_takeBack 22 = .ok (.putfield 18, 3) := by decide +kernel
theorem dX3_takeBack_25 : decode cX3_takeBack 25 = .ok (.aload_n 0, 1) := by decide +kernel
theorem dX3_takeBack_26 : decode cX3_takeBack 26 = .ok (.dup, 1) := by decide +kernel
theorem dX3_takeBack_27 : decode cX3_takeBack 27 = .ok (.getfield 26, 3) := by decide +kernel
theorem dX3_takeBack_30 : decode cX3_takeBack 30 = .ok (.iconst 1, 1) := by decide +kernel
theorem dX3_takeBack_31 : decode cX3_takeBack 31 = .ok (.isub, 1) := by decide +kernel
theorem dX3_takeBack_32 : decode cX3_takeBack 32 = .ok (.putfield 26, 3) := by decide +kernel
theorem dX3_takeBack_35 : decode cX3_takeBack 35 = .ok (.aload_n 1, 1) := by decide +kernel
theorem dX3_takeBack_36 : decode cX3_takeBack 36 = .ok (.aload_n 0, 1) := by decide +kernel
theorem dX3_takeBack_37 : decode cX3_takeBack 37 = .ok (.getfield 11, 3) := by decide +kernel
theorem dX3_takeBack_40 : decode cX3_takeBack 40 = .ok (.aload_n 0, 1) := by decide +kernel
theorem dX3_takeBack_41 : decode cX3_takeBack 41 = .ok (.getfield 18, 3) := by decide +kernel
theorem dX3_takeBack_44 : decode cX3_takeBack 44 = .ok (.aaload, 1) := by decide +kernel
theorem dX3_takeBack_45 : decode cX3_takeBack 45 = .ok (.invokevirtual 22, 3) := by decide +kernel
theorem dX3_takeBack_48 : decode cX3_takeBack 48 = .ok (.iconst 1, 1) := by decide +kernel
theorem dX3_takeBack_49 : decode cX3_takeBack 49 = .ok (.ireturn, 1) := by decide +kernel
theorem dX4_init_0 : decode cX4_init 0 = .ok (.aload_n 0, 1) := by decide +kernel
theorem dX4_init_1 : decode cX4_init 1 = .ok (.invokespecial 5, 3) := by decide +kernel
theorem dX4_init_4 : decode cX4_init 4 = .ok (.aload_n 0, 1) := by decide +kernel
theorem dX4_init_5 : decode cX4_init 5 = .ok (.iconst 4, 1) := by decide +kernel
theorem dX4_init_6 : decode cX4_init 6 = .ok (.newarray .int, 2) := by decide +kernel
theorem dX4_init_8 : decode cX4_init 8 = .ok (.putfield 11, 3) := by decide +kernel
theorem dX4_init_11 : decode cX4_init 11 = .ok (.aload_n 0, 1) := by decide +kernel
theorem dX4_init_12 : decode cX4_init 12 = .ok (.bipush 16, 2) := by decide +kernel
theorem dX4_init_14 : decode cX4_init 14 = .ok (.newarray .int, 2) := by decide +kernel
theorem dX4_init_16 : decode cX4_init 16 = .ok (.putfield 15, 3) := by decide +kernel
theorem dX4_init_19 : decode cX4_init 19 = .ok (.aload_n 0, 1) := by decide +kernel
theorem dX4_init_20 : decode cX4_init 20 = .ok (.iconst 4, 1) := by decide +kernel
theorem dX4_init_21 : decode cX4_init 21 = .ok (.newarray .int, 2) := by decide +kernel
theorem dX4_init_23 : decode cX4_init 23 = .ok (.putfield 18, 3) := by decide +kernel
theorem dX4_init_26 : decode cX4_init 26 = .ok (.return_, 1) := by decide +kernel
set_option maxRecDepth 20000 in
theorem ggX4_find_X4_extend : GoodIn wsX4_find wsX4_extend := goodIn_r _ [10, 2, 11, 12, 13, 14, 1, 15, 16, 17, 18, 9, 19, 4, 20, 21, 22, 23, 24, 25, 26, 27, 28, 29, 30, 31, 5, 32, 33, 34, 35, 36, 37, 38, 6, 7, 8, 39, 40, 41, 42, 43, 44] (by decide +kernel) (by decide +kernel)
set_option maxRecDepth 20000 in
theorem gX4_find_X4_extend : GoodIn wsX4_find (wsV RX4 32 RX4 yX4_extend wsX4_extend) := goodIn_app (goodIn_of _ (by decide +kernel)) ggX4_find_X4_extend
theorem dX4_find_0 : decode cX4_find 0 = .ok (.aload_n 0, 1) := by decide +kernel
theorem dX4_find_1 : decode cX4_find 1 = .ok (.iload_n 1, 1) := by decide +kernel
theorem dX4_find_2 : decode cX4_find 2 = .ok (.putfield 21, 3) := by decide +kernel
theorem dX4_find_5 : decode cX4_find 5 = .ok (.aload_n 0, 1) := by decide +kernel
theorem dX4_find_6 : decode cX4_find 6 = .ok (.iload_n 2, 1) := by decide +kernel
theorem dX4_find_7 : decode cX4_find 7 = .ok (.putfield 25, 3) := by decide +kernel
theorem dX4_find_10 : decode cX4_find 10 = .ok (.aload_n 0, 1) := by decide +kernel
theorem dX4_find_11 : decode cX4_find 11 = .ok (.ldc 28, 2) := by decide +kernel
theorem dX4_find_13 : decode cX4_find 13 = .ok (.putfield 29, 3) := by decide +kernel
theorem dX4_find_16 : decode cX4_find 16 = .ok (.aload_n 0, 1) := by decide +kernel
theorem dX4_find_17 : decode cX4_find 17 = .ok (.getfield 15, 3) := by decide +kernel
theorem dX4_find_20 : decode cX4_find 20 = .ok (.iconst 0, 1) := by decide +kernel
theorem dX4_find_21 : decode cX4_find 21 = .ok (.iconst 0, 1) := by decide +kernel
theorem dX4_find_22 : decode cX4_find 22 = .ok (.iastore, 1) := by decide +kernel
theorem dX4_find_23 : decode cX4_find 23 = .ok (.aload_n 0, 1) := by decide +kernel
theorem dX4_find_24 : decode cX4_find 24 = .ok (.iconst 0, 1) := by decide +kernel
theorem dX4_find_25 : decode cX4_find 25 = .ok (.iconst 0, 1) := by decide +kernel
theorem dX4_find_26 : decode cX4_find 26 = .ok (.iconst 0, 1) := by decide +kernel
theorem dX4_find_27 : decode cX4_find 27 = .ok (.invokevirtual 32, 3) := by decide +kernel
theorem dX4_find_30 : decode cX4_find 30 = .ok (.return_, 1) := by decide +kernel
set_option maxRecDepth 20000 in
theorem ggX4_extend_X4_judge : GoodIn wsX4_extend wsX4_judge := goodIn_r _ [12, 13, 7, 14, 15, 16, 17, 18, 37, 38, 39, 40, 41, 42] (by decide +kernel) (by decide +kernel)
set_option maxRecDepth 20000 in
theorem gX4_extend_X4_judge : GoodIn wsX4_extend (wsV RX4 36 RX4 yX4_judge wsX4_judge) := goodIn_app (goodIn_of _ (by decide +kernel)) ggX4_extend_X4_judge
set_option maxRecDepth 20000 in
theorem ggX4_extend_X4_greatestFactor : GoodIn wsX4_extend wsX4_greatestFactor := goodIn_r _ [21] (by decide +kernel) (by decide +kernel)
set_option maxRecDepth 20000 in
theorem gX4_extend_X4_greatestFactor : GoodIn wsX4_extend (va_wsS RX4 40 yX4_greatestFactor wsX4_greatestFactor) := goodIn_app (goodIn_of _ (by decide +kernel)) ggX4_extend_X4_greatestFactor
set_option maxRecDepth 20000 in
theorem ggX4_extend_X4_multiply : GoodIn wsX4_extend wsX4_multiply := goodIn_r _ [25, 26, 27, 28, 29, 30, 31, 32, 33, 37, 38, 39, 40, 41, 42] (by decide +kernel) (by decide +kernel)
set_option maxRecDepth 20000 in
theorem gX4_extend_X4_multiply : GoodIn wsX4_extend (wsV RX4 50 RX4 yX4_multiply wsX4_multiply) := goodIn_app (goodIn_of _ (by decide +kernel)) ggX4_extend_X4_multiply
set_option maxRecDepth 20000 in
theorem ggX4_extend_X4_extend : GoodIn wsX4_extend wsX4_extend := goodIn_r _ [0, 1, 2, 3, 4, 5, 6, 7, 8, 9, 10, 11, 12, 13, 14, 15, 16, 17, 18, 19, 20, 21, 22, 23, 24, 25, 26, 27, 28, 29, 30, 31, 32, 33, 34, 35, 36, 37, 38, 39, 40, 41, 42] (by decide +kernel) (by decide +kernel)
set_option maxRecDepth 20000 in
theorem gX4_extend_X4_extend : GoodIn wsX4_extend (wsV RX4 32 RX4 yX4_extend wsX4_extend) := goodIn_app (goodIn_of _ (by decide +kernel)) ggX4_extend_X4_extend
theorem dX4_extend_0 : decode cX4_extend 0 = .ok (.iload_n 1, 1) := by decide +kernel
theorem dX4_extend_1 : decode cX4_extend 1 = .ok (.aload_n 0, 1) := by decide +kernel
theorem dX4_extend_2 : decode cX4_extend 2 = .ok (.getfield 25, 3) := by decide +kernel
theorem dX4_extend_5 : decode cX4_extend 5 = .ok (.if_icmp .ge 8, 3) := by decide +kernel
theorem dX4_extend_8 : decode cX4_extend 8 = .ok (.iload_n 1, 1) := by decide +kernel
theorem dX4_extend_9 : decode cX4_extend 9 = .ok (.iconst 4, 1) := by decide +kernel
theorem dX4_extend_10 : decode cX4_extend 10 = .ok (.if_icmp .lt 9, 3) := by decide +kernel
theorem dX4_extend_13 : decode cX4_extend 13 = .ok (.aload_n 0, 1) := by decide +kernel
theorem dX4_extend_14 : decode cX4_extend 14 = .ok (.iload_n 2, 1) := by decide +kernel
theorem dX4_extend_15 : decode cX4_extend 15 = .ok (.invokevirtual 36, 3) := by decide +kernel
theorem dX4_extend_18 : decode cX4_extend 18 = .ok (.return_, 1) := by decide +kernel
theorem dX4_extend_19 : decode cX4_extend 19 = .ok (.iconst 1, 1) := by decide +kernel
theorem dX4_extend_20 : decode cX4_extend 20 = .ok (.iload_n 3, 1) := by decide +kernel
theorem dX4_extend_21 : decode cX4_extend 21 = .ok (.invokestatic 40, 3) := by decide +kernel
theorem dX4_extend_24 : decode cX4_extend 24 = .ok (.iconst 1, 1) := by decide +kernel
theorem dX4_extend_25 : decode cX4_extend 25 = .ok (.ishl, 1) := by decide +kernel
theorem dX4_extend_26 : decode cX4_extend 26 = .ok (.invokestatic 44, 3) := by decide +kernel
theorem dX4_extend_29 : decode cX4_extend 29 = .ok (.istore 4, 2) := by decide +kernel
theorem dX4_extend_31 : decode cX4_extend 31 = .ok (.iload 4, 2) := by decide +kernel
theorem dX4_extend_33 : decode cX4_extend 33 = .ok (.istore 5, 2) := by decide +kernel
theorem dX4_extend_35 : decode cX4_extend 35 = .ok (.iload 5, 2) := by decide +kernel
theorem dX4_extend_37 : decode cX4_extend 37 = .ok (.aload_n 0, 1) := by decide +kernel
theorem dX4_extend_38 : decode cX4_extend 38 = .ok (.getfield 21, 3) := by decide +kernel
theorem dX4_extend_41 : decode cX4_extend 41 = .ok (.if_icmp .ge 47, 3) := by decide +kernel
theorem dX4_extend_44 : decode cX4_extend 44 = .ok (.iload 5, 2) := by decide +kernel
theorem dX4_extend_46 : decode cX4_extend 46 = .ok (.iload_n 3, 1) := by decide +kernel
theorem dX4_extend_47 : decode cX4_extend 47 = .ok (.iand, 1) := by decide +kernel
theorem dX4_extend_48 : decode cX4_extend 48 = .ok (.ifCond .ne 34, 3) := by decide +kernel
theorem dX4_extend_51 : decode cX4_extend 51 = .ok (.aload_n 0, 1) := by decide +kernel
theorem dX4_extend_52 : decode cX4_extend 52 = .ok (.getfield 11, 3) := by decide +kernel
theorem dX4_extend_55 : decode cX4_extend 55 = .ok (.iload_n 1, 1) := by decide +kernel
theorem dX4_extend_56 : decode cX4_extend 56 = .ok (.iload 5, 2) := by decide +kernel
theorem dX4_extend_58 : decode cX4_extend 58 = .ok (.iastore, 1) := by decide +kernel
theorem dX4_extend_59 : decode cX4_extend 59 = .ok (.aload_n 0, 1) := by decide +kernel
theorem dX4_extend_60 : decode cX4_extend 60 = .ok (.iload_n 1, 1) := by decide +kernel
theorem dX4_extend_61 : decode cX4_extend 61 = .ok (.iconst 1, 1) := by decide +kernel
theorem dX4_extend_62 : decode cX4_extend 62 = .ok (.iadd, 1) := by decide +kernel
theorem dX4_extend_63 : decode cX4_extend 63 = .ok (.iload_n 2, 1) := by decide +kernel
theorem dX4_extend_64 : decode cX4_extend 64 = .ok (.aload_n 0, 1) := by decide +kernel
theorem dX4_extend_65 : decode cX4_extend 65 = .ok (.iload_n 1, 1) := by decide +kernel
theorem dX4_extend_66 : decode cX4_extend 66 = .ok (.iload 5, 2) := by decide +kernel
theorem dX4_extend_68 : decode cX4_extend 68 = .ok (.invokevirtual 50, 3) := by decide +kernel
theorem dX4_extend_71 : decode cX4_extend 71 = .ok (.iadd, 1) := by decide +kernel
theorem dX4_extend_72 : decode cX4_extend 72 = .ok (.iload_n 3, 1) := by decide +kernel
theorem dX4_extend_73 : decode cX4_extend 73 = .ok (.iload 5, 2) := by decide +kernel
theorem dX4_extend_75 : decode cX4_extend 75 = .ok (.invokestatic 40, 3) := by decide +kernel
theorem dX4_extend_78 : decode cX4_extend 78 = .ok (.ior, 1) := by decide +kernel
theorem dX4_extend_79 : decode cX4_extend 79 = .ok (.invokevirtual 32, 3) := by decide +kernel
theorem dX4_extend_82 : decode cX4_extend 82 = .ok (.iinc 5 1, 3) := by decide +kernel
theorem dX4_extend_85 : decode cX4_extend 85 = .ok (.goto (-50), 3) := by decide +kernel
theorem dX4_extend_88 : decode cX4_extend 88 = .ok (.return_, 1) := by decide +kernel
theorem dX4_greatestFactor_0 : decode cX4_greatestFactor 0 = .ok (.iconst 0, 1) := by decide +kernel
theorem dX4_greatestFactor_1 : decode cX4_greatestFactor 1 = .ok (.istore_n 1, 1) := by decide +kernel
theorem dX4_greatestFactor_2 : decode cX4_greatestFactor 2 = .ok (.iconst 0, 1) := by decide +kernel
theorem dX4_greatestFactor_3 : decode cX4_greatestFactor 3 = .ok (.istore_n 2, 1) := by decide +kernel
theorem dX4_greatestFactor_4 : decode cX4_greatestFactor 4 = .ok (.iload_n 2, 1) := by decide +kernel
theorem dX4_greatestFactor_5 : decode cX4_greatestFactor 5 = .ok (.bipush 6, 2) := by decide +kernel
theorem dX4_greatestFactor_7 : decode cX4_greatestFactor 7 = .ok (.if_icmp .ge 25, 3) := by decide +kernel
theorem dX4_greatestFactor_10 : decode cX4_greatestFactor 10 = .ok (.iload_n 0, 1) := by decide +kernel
theorem dX4_greatestFactor_11 : decode cX4_greatestFactor 11 = .ok (.iload_n 2, 1) := by decide +kernel
theorem dX4_greatestFactor_12 : decode cX4_greatestFactor 12 = .ok (.ishr, 1) := by decide +kernel
theorem dX4_greatestFactor_13 : decode cX4_greatestFactor 13 = .ok (.iconst 1, 1) := by decide +kernel
theorem dX4_greatestFactor_14 : decode cX4_greatestFactor 14 = .ok (.iand, 1) := by decide +kernel
theorem dX4_greatestFactor_15 : decode cX4_greatestFactor 15 = .ok (.ifCond .ne 7, 3) := by decide +kernel
theorem dX4_greatestFactor_18 : decode cX4_greatestFactor 18 = .ok (.iload_n 1, 1) := by decide +kernel
theorem dX4_greatestFactor_19 : decode cX4_greatestFactor 19 = .ok (.goto 6, 3) := by decide +kernel
theorem dX4_greatestFactor_22 : decode cX4_greatestFactor 22 = .ok (.iconst 1, 1) := by decide +kernel
theorem dX4_greatestFactor_23 : decode cX4_greatestFactor 23 = .ok (.iload_n 2, 1) := by decide +kernel
theorem dX4_greatestFactor_24 : decode cX4_greatestFactor 24 = .ok (.ishl, 1) := by decide +kernel
theorem dX4_greatestFactor_25 : decode cX4_greatestFactor 25 = .ok (.istore_n 1, 1) := by decide +kernel
theorem dX4_greatestFactor_26 : decode cX4_greatestFactor 26 = .ok (.iinc 2 1, 3) := by decide +kernel
theorem dX4_greatestFactor_29 : decode cX4_greatestFactor 29 = .ok (.goto (-25), 3) := by decide +kernel
theorem dX4_greatestFactor_32 : decode cX4_greatestFactor 32 = .ok (.iload_n 1, 1) := by decide +kernel
theorem dX4_greatestFactor_33 : decode cX4_greatestFactor 33 = .ok (.ireturn, 1) := by decide +kernel
set_option maxRecDepth 20000 in
theorem ggX4_multiply_J6_bitCount_0f7a4 : GoodIn wsX4_multiply wsJ6_bitCount_0f7a4 := goodIn_r _ [5, 6, 7, 8] (by decide +kernel) (by decide +kernel)
set_option maxRecDepth 20000 in
theorem gX4_multiply_J6_bitCount_0f7a4 : GoodIn wsX4_multiply (va_wsS RX4 53 yJ6_bitCount_0f7a4 wsJ6_bitCount_0f7a4) := goodIn_app (goodIn_of _ (by decide +kernel)) ggX4_multiply_J6_bitCount_0f7a4
theorem dX4_multiply_0 : decode cX4_multiply 0 = .ok (.iconst 1, 1) := by decide +kernel
theorem dX4_multiply_1 : decode cX4_multiply 1 = .ok (.iload_n 1, 1) := by decide +kernel
theorem dX4_multiply_2 : decode cX4_multiply 2 = .ok (.ishl, 1) := by decide +kernel
theorem dX4_multiply_3 : decode cX4_multiply 3 = .ok (.istore_n 3, 1) := by decide +kernel
theorem dX4_multiply_4 : decode cX4_multiply 4 = .ok (.iconst 0, 1) := by decide +kernel
theorem dX4_multiply_5 : decode cX4_multiply 5 = .ok (.istore 4, 2) := by decide +kernel
theorem dX4_multiply_7 : decode cX4_multiply 7 = .ok (.iconst 0, 1) := by decide +kernel
theorem dX4_multiply_8 : decode cX4_multiply 8 = .ok (.istore 5, 2) := by decide +kernel
theorem dX4_multiply_10 : decode cX4_multiply 10 = .ok (.iload 5, 2) := by decide +kernel
theorem dX4_multiply_12 : decode cX4_multiply 12 = .ok (.iload_n 3, 1) := by decide +kernel
theorem dX4_multiply_13 : decode cX4_multiply 13 = .ok (.if_icmp .ge 57, 3) := by decide +kernel
theorem dX4_multiply_16 : decode cX4_multiply 16 = .ok (.iload_n 3, 1) := by decide +kernel
theorem dX4_multiply_17 : decode cX4_multiply 17 = .ok (.iload 5, 2) := by decide +kernel
theorem dX4_multiply_19 : decode cX4_multiply 19 = .ok (.iadd, 1) := by decide +kernel
theorem dX4_multiply_20 : decode cX4_multiply 20 = .ok (.bipush 16, 2) := by decide +kernel
theorem dX4_multiply_22 : decode cX4_multiply 22 = .ok (.if_icmp .ge 48, 3) := by decide +kernel
theorem dX4_multiply_25 : decode cX4_multiply 25 = .ok (.aload_n 0, 1) := by decide +kernel
theorem dX4_multiply_26 : decode cX4_multiply 26 = .ok (.getfield 15, 3) := by decide +kernel
theorem dX4_multiply_29 : decode cX4_multiply 29 = .ok (.iload 5, 2) := by decide +kernel
theorem dX4_multiply_31 : decode cX4_multiply 31 = .ok (.iaload, 1) := by decide +kernel
theorem dX4_multiply_32 : decode cX4_multiply 32 = .ok (.iload_n 2, 1) := by decide +kernel
theorem dX4_multiply_33 : decode cX4_multiply 33 = .ok (.ixor, 1) := by decide +kernel
theorem dX4_multiply_34 : decode cX4_multiply 34 = .ok (.istore 6, 2) := by decide +kernel
theorem dX4_multiply_36 : decode cX4_multiply 36 = .ok (.aload_n 0, 1) := by decide +kernel
theorem dX4_multiply_37 : decode cX4_multiply 37 = .ok (.getfield 15, 3) := by decide +kernel
theorem dX4_multiply_40 : decode cX4_multiply 40 = .ok (.iload_n 3, 1) := by decide +kernel
theorem dX4_multiply_41 : decode cX4_multiply 41 = .ok (.iload 5, 2) := by decide +kernel
theorem dX4_multiply_43 : decode cX4_multiply 43 = .ok (.iadd, 1) := by decide +kernel
theorem dX4_multiply_44 : decode cX4_multiply 44 = .ok (.iload 6, 2) := by decide +kernel
theorem dX4_multiply_46 : decode cX4_multiply 46 = .ok (.iastore, 1) := by decide +kernel
theorem dX4_multiply_47 : decode cX4_multiply 47 = .ok (.iload 4, 2) := by decide +kernel
theorem dX4_multiply_49 : decode cX4_multiply 49 = .ok (.iconst 1, 1) := by decide +kernel
theorem dX4_multiply_50 : decode cX4_multiply 50 = .ok (.iconst 4, 1) := by decide +kernel
theorem dX4_multiply_51 : decode cX4_multiply 51 = .ok (.bipush 6, 2) := by decide +kernel
theorem dX4_multiply_53 : decode cX4_multiply 53 = .ok (.iload 6, 2) := by decide +kernel
theorem dX4_multiply_55 : decode cX4_multiply 55 = .ok (.invokestatic 53, 3) := by decide +kernel
theorem dX4_multiply_58 : decode cX4_multiply 58 = .ok (.isub, 1) := by decide +kernel
theorem dX4_multiply_59 : decode cX4_multiply 59 = .ok (.imul, 1) := by decide +kernel
theorem dX4_multiply_60 : decode cX4_multiply 60 = .ok (.ishl, 1) := by decide +kernel
theorem dX4_multiply_61 : decode cX4_multiply 61 = .ok (.iadd, 1) := by decide +kernel
theorem dX4_multiply_62 : decode cX4_multiply 62 = .ok (.istore 4, 2) := by decide +kernel
theorem dX4_multiply_64 : decode cX4_multiply 64 = .ok (.iinc 5 1, 3) := by decide +kernel
theorem dX4_multiply_67 : decode cX4_multiply 67 = .ok (.goto (-57), 3) := by decide +kernel
theorem dX4_multiply_70 : decode cX4_multiply 70 = .ok (.iload 4, 2) := by decide +kernel
theorem dX4_multiply_72 : decode cX4_multiply 72 = .ok (.ireturn, 1) := by decide +kernel
theorem dX4_judge_0 : decode cX4_judge 0 = .ok (.iload_n 1, 1) := by decide +kernel
theorem dX4_judge_1 : decode cX4_judge 1 = .ok (.aload_n 0, 1) := by decide +kernel
theorem dX4_judge_2 : decode cX4_judge 2 = .ok (.getfield 29, 3) := by decide +kernel
theorem dX4_judge_5 : decode cX4_judge 5 = .ok (.if_icmp .ge 22, 3) := by decide +kernel
theorem dX4_judge_8 : decode cX4_judge 8 = .ok (.aload_n 0, 1) := by decide +kernel
theorem dX4_judge_9 : decode cX4_judge 9 = .ok (.iload_n 1, 1) := by decide +kernel
theorem dX4_judge_10 : decode cX4_judge 10 = .ok (.putfield 29, 3) := by decide +kernel
theorem dX4_judge_13 : decode cX4_judge 13 = .ok (.aload_n 0, 1) := by decide +kernel
theorem dX4_judge_14 : decode cX4_judge 14 = .ok (.getfield 11, 3) := by decide +kernel
theorem dX4_judge_17 : decode cX4_judge 17 = .ok (.iconst 0, 1) := by decide +kernel
theorem dX4_judge_18 : decode cX4_judge 18 = .ok (.aload_n 0, 1) := by decide +kernel
theorem dX4_judge_19 : decode cX4_judge 19 = .ok (.getfield 18, 3) := by decide +kernel
theorem dX4_judge_22 : decode cX4_judge 22 = .ok (.iconst 0, 1) := by decide +kernel
theorem dX4_judge_23 : decode cX4_judge 23 = .ok (.iconst 4, 1) := by decide +kernel
theorem dX4_judge_24 : decode cX4_judge 24 = .ok (.invokestatic 58, 3) := by decide +kernel
theorem dX4_judge_27 : decode cX4_judge 27 = .ok (.return_, 1) := by decide +kernel
set_option maxRecDepth 20000 in
theorem ggX5_init_X2_init : GoodIn wsX5_init wsX2_init := goodIn_r _ [19, 20, 2, 3, 21, 22, 23, 24, 25, 26, 41, 42, 43, 44, 45] (by decide +kernel) (by decide +kernel)
set_option maxRecDepth 20000 in
theorem gX5_init_X2_init : GoodIn wsX5_init (wsX2_init) := ggX5_init_X2_init
theorem dX5_init_0 : decode cX5_init 0 = .ok (.aload_n 0, 1) := by decide +kernel
theorem dX5_init_1 : decode cX5_init 1 = .ok (.invokespecial 3, 3) := by decide +kernel
theorem dX5_init_4 : decode cX5_init 4 = .ok (.aload_n 0, 1) := by decide +kernel
theorem dX5_init_5 : decode cX5_init 5 = .ok (.iconst 5, 1) := by decide +kernel
theorem dX5_init_6 : decode cX5_init 6 = .ok (.newarray .int, 2) := by decide +kernel
theorem dX5_init_8 : decode cX5_init 8 = .ok (.putfield 9, 3) := by decide +kernel
theorem dX5_init_11 : decode cX5_init 11 = .ok (.aload_n 0, 1) := by decide +kernel
theorem dX5_init_12 : decode cX5_init 12 = .ok (.bipush 64, 2) := by decide +kernel
theorem dX5_init_14 : decode cX5_init 14 = .ok (.newarray .int, 2) := by decide +kernel
theorem dX5_init_16 : decode cX5_init 16 = .ok (.putfield 15, 3) := by decide +kernel
theorem dX5_init_19 : decode cX5_init 19 = .ok (.aload_n 0, 1) := by decide +kernel
theorem dX5_init_20 : decode cX5_init 20 = .ok (.bipush 64, 2) := by decide +kernel
theorem dX5_init_22 : decode cX5_init 22 = .ok (.newarray .int, 2) := by decide +kernel
theorem dX5_init_24 : decode cX5_init 24 = .ok (.putfield 18, 3) := by decide +kernel
theorem dX5_init_27 : decode cX5_init 27 = .ok (.aload_n 0, 1) := by decide +kernel
theorem dX5_init_28 : decode cX5_init 28 = .ok (.bipush 41, 2) := by decide +kernel
theorem dX5_init_30 : decode cX5_init 30 = .ok (.newarray .int, 2) := by decide +kernel
theorem dX5_init_32 : decode cX5_init 32 = .ok (.putfield 21, 3) := by decide +kernel
theorem dX5_init_35 : decode cX5_init 35 = .ok (.aload_n 0, 1) := by decide +kernel
theorem dX5_init_36 : decode cX5_init 36 = .ok (.bipush 65, 2) := by decide +kernel
theorem dX5_init_38 : decode cX5_init 38 = .ok (.newarray .int, 2) := by decide +kernel
theorem dX5_init_40 : decode cX5_init 40 = .ok (.putfield 24, 3) := by decide +kernel
theorem dX5_init_43 : decode cX5_init 43 = .ok (.aload_n 0, 1) := by decide +kernel
theorem dX5_init_44 : decode cX5_init 44 = .ok (.new 27, 3) := by decide +kernel
theorem dX5_init_47 : decode cX5_init 47 = .ok (.dup, 1) := by decide +kernel
theorem dX5_init_48 : decode cX5_init 48 = .ok (.invokespecial 29, 3) := by decide +kernel
theorem dX5_init_51 : decode cX5_init 51 = .ok (.putfield 30, 3) := by decide +kernel
theorem dX5_init_54 : decode cX5_init 54 = .ok (.aload_n 0, 1) := by decide +kernel
theorem dX5_init_55 : decode cX5_init 55 = .ok (.new 27, 3) := by decide +kernel
theorem dX5_init_58 : decode cX5_init 58 = .ok (.dup, 1) := by decide +kernel
theorem dX5_init_59 : decode cX5_init 59 = .ok (.invokespecial 29, 3) := by decide +kernel
theorem dX5_init_62 : decode cX5_init 62 = .ok (.putfield 34, 3) := by decide +kernel
theorem dX5_init_65 : decode cX5_init 65 = .ok (.aload_n 0, 1) := by decide +kernel
theorem dX5_init_66 : decode cX5_init 66 = .ok (.bipush 64, 2) := by decide +kernel
theorem dX5_init_68 : decode cX5_init 68 = .ok (.newarray .int, 2) := by decide +kernel
theorem dX5_init_70 : decode cX5_init 70 = .ok (.putfield 37, 3) := by decide +kernel
theorem dX5_init_73 : decode cX5_init 73 = .ok (.aload_n 0, 1) := by decide +kernel
theorem dX5_init_74 : decode cX5_init 74 = .ok (.iconst (-1), 1) := by decide +kernel
theorem dX5_init_75 : decode cX5_init 75 = .ok (.putfield 40, 3) := by decide +kernel
theorem dX5_init_78 : decode cX5_init 78 = .ok (.return_, 1) := by decide +kernel
set_option maxRecDepth 20000 in
theorem ggX5_find_X5_isAnswered : GoodIn wsX5_find wsX5_isAnswered := goodIn_r _ [12, 13, 14, 15, 5, 16, 17, 18, 99, 100, 101, 102, 103, 104, 105, 106, 107, 108, 109, 110, 111, 112, 113, 114, 115, 116, 117, 118, 119, 120, 121, 122, 123] (by decide +kernel) (by decide +kernel)
set_option maxRecDepth 20000 in
theorem gX5_find_X5_isAnswered : GoodIn wsX5_find (wsV RX5 44 RX5 yX5_isAnswered wsX5_isAnswered) := goodIn_app (goodIn_of _ (by decide +kernel)) ggX5_find_X5_isAnswered
set_option maxRecDepth 20000 in
theorem ggX5_find_X5_noteAsked : GoodIn wsX5_find wsX5_noteAsked := goodIn_r _ [22, 13, 14, 15, 5, 16, 18, 17, 23, 24, 25, 26, 27, 28, 29, 30, 31, 32, 33, 34, 35, 36, 37, 38, 39, 40, 41, 42, 43, 44, 45, 46, 47, 99, 100, 101, 102, 103, 104, 105, 106, 107, 108, 109, 110, 111, 112, 113, 114, 115, 116, 117, 118, 119, 120, 121, 122, 123] (by decide +kernel) (by decide +kernel)
set_option maxRecDepth 20000 in
theorem gX5_find_X5_noteAsked : GoodIn wsX5_find (wsV RX5 48 RX5 yX5_noteAsked wsX5_noteAsked) := goodIn_app (goodIn_of _ (by decide +kernel)) ggX5_find_X5_noteAsked
set_option maxRecDepth 20000 in
theorem ggX5_find_X5_countPlans : GoodIn wsX5_find wsX5_countPlans := goodIn_r _ [51, 52, 27, 13, 53, 54, 55, 56, 57, 58, 59, 60, 99, 100, 101, 102, 103, 104, 105, 106, 107, 108, 109, 110, 111, 112] (by decide +kernel) (by decide +kernel)
set_option maxRecDepth 20000 in
theorem gX5_find_X5_countPlans : GoodIn wsX5_find (wsV RX5 52 RX5 yX5_countPlans wsX5_countPlans) := goodIn_app (goodIn_of _ (by decide +kernel)) ggX5_find_X5_countPlans
set_option maxRecDepth 20000 in
theorem ggX5_find_J7_fill_53178 : GoodIn wsX5_find wsJ7_fill_53178 := goodIn_r _ [60] (by decide +kernel) (by decide +kernel)
set_option maxRecDepth 20000 in
theorem gX5_find_J7_fill_53178 : GoodIn wsX5_find (va_wsS RX5 59 yJ7_fill_53178 wsJ7_fill_53178) := goodIn_app (goodIn_of _ (by decide +kernel)) ggX5_find_J7_fill_53178
set_option maxRecDepth 20000 in
theorem ggX5_find_X2_empty : GoodIn wsX5_find wsX2_empty := goodIn_r _ [65, 66, 67, 68, 69, 59, 70, 124, 125, 126, 127, 128] (by decide +kernel) (by decide +kernel)
set_option maxRecDepth 20000 in
theorem gX5_find_X2_empty : GoodIn wsX5_find (wsV RX5 70 RX2 yX2_empty wsX2_empty) := goodIn_app (goodIn_of _ (by decide +kernel)) ggX5_find_X2_empty
set_option maxRecDepth 20000 in
theorem ggX5_find_X5_judge : GoodIn wsX5_find wsX5_judge := goodIn_r _ [74, 7, 3, 2, 75, 23, 24, 25, 26, 27, 57, 58, 59, 60, 99, 100, 101, 102, 103, 104, 105, 106, 107, 108, 109, 110, 111, 112] (by decide +kernel) (by decide +kernel)
set_option maxRecDepth 20000 in
theorem gX5_find_X5_judge : GoodIn wsX5_find (wsV RX5 80 RX5 yX5_judge wsX5_judge) := goodIn_app (goodIn_of _ (by decide +kernel)) ggX5_find_X5_judge
set_option maxRecDepth 20000 in
theorem ggX5_find_X5_place : GoodIn wsX5_find wsX5_place := goodIn_r _ [79, 13, 27, 2, 80, 4, 28, 81, 82, 83, 64, 84, 66, 67, 85, 24, 25, 26, 86, 87, 88, 89, 90, 91, 92, 93, 94, 71, 72, 73, 11, 74, 7, 3, 75, 23, 57, 58, 59, 60, 76, 77, 78, 99, 100, 101, 102, 103, 104, 105, 106, 107, 108, 109, 110, 111, 112, 124, 125, 126, 127, 128] (by decide +kernel) (by decide +kernel)
set_option maxRecDepth 20000 in
theorem gX5_find_X5_place : GoodIn wsX5_find (wsV RX5 84 RX5 yX5_place wsX5_place) := goodIn_app (goodIn_of _ (by decide +kernel)) ggX5_find_X5_place
set_option maxRecDepth 20000 in
theorem ggX5_find_X5_countBests : GoodIn wsX5_find wsX5_countBests := goodIn_r _ [98, 27, 3, 99, 100, 101, 102, 103, 104, 105, 106, 107, 108, 109, 110, 111, 112] (by decide +kernel) (by decide +kernel)
set_option maxRecDepth 20000 in
theorem gX5_find_X5_countBests : GoodIn wsX5_find (wsV RX5 88 RX5 yX5_countBests wsX5_countBests) := goodIn_app (goodIn_of _ (by decide +kernel)) ggX5_find_X5_countBests
theorem dX5_find_0 : decode cX5_find 0 = .ok (.iload_n 2, 1) := by decide +kernel
theorem dX5_find_1 : decode cX5_find 1 = .ok (.ifCond .lt 18, 3) := by decide +kernel
theorem dX5_find_4 : decode cX5_find 4 = .ok (.iload_n 2, 1) := by decide +kernel
theorem dX5_find_5 : decode cX5_find 5 = .ok (.bipush 40, 2) := by decide +kernel
theorem dX5_find_7 : decode cX5_find 7 = .ok (.if_icmp .gt 12, 3) := by decide +kernel
theorem dX5_find_10 : decode cX5_find 10 = .ok (.aload_n 0, 1) := by decide +kernel
theorem dX5_find_11 : decode cX5_find 11 = .ok (.aload_n 1, 1) := by decide +kernel
theorem dX5_find_12 : decode cX5_find 12 = .ok (.iload_n 2, 1) := by decide +kernel
theorem dX5_find_13 : decode cX5_find 13 = .ok (.invokevirtual 44, 3) := by decide +kernel
theorem dX5_find_16 : decode cX5_find 16 = .ok (.ifCond .eq 4, 3) := by decide +kernel
theorem dX5_find_19 : decode cX5_find 19 = .ok (.return_, 1) := by decide +kernel
theorem dX5_find_20 : decode cX5_find 20 = .ok (.aload_n 0, 1) := by decide +kernel
theorem dX5_find_21 : decode cX5_find 21 = .ok (.aload_n 1, 1) := by decide +kernel
theorem dX5_find_22 : decode cX5_find 22 = .ok (.iload_n 2, 1) := by decide +kernel
theorem dX5_find_23 : decode cX5_find 23 = .ok (.invokevirtual 48, 3) := by decide +kernel
theorem dX5_find_26 : decode cX5_find 26 = .ok (.aload_n 0, 1) := by decide +kernel
theorem dX5_find_27 : decode cX5_find 27 = .ok (.invokevirtual 52, 3) := by decide +kernel
theorem dX5_find_30 : decode cX5_find 30 = .ok (.istore_n 3, 1) := by decide +kernel
theorem dX5_find_31 : decode cX5_find 31 = .ok (.iload_n 3, 1) := by decide +kernel
theorem dX5_find_32 : decode cX5_find 32 = .ok (.ifCond .eq 10, 3) := by decide +kernel
theorem dX5_find_35 : decode cX5_find 35 = .ok (.iload_n 3, 1) := by decide +kernel
theorem dX5_find_36 : decode cX5_find 36 = .ok (.sipush 20000, 3) := by decide +kernel
theorem dX5_find_39 : decode cX5_find 39 = .ok (.if_icmp .le 17, 3) := by decide +kernel
theorem dX5_find_42 : decode cX5_find 42 = .ok (.aload_n 0, 1) := by decide +kernel
theorem dX5_find_43 : decode cX5_find 43 = .ok (.iload_n 3, 1) := by decide +kernel
theorem dX5_find_44 : decode cX5_find 44 = .ok (.ifCond .ne 7, 3) := by decide +kernel
theorem dX5_find_47 : decode cX5_find 47 = .ok (.iconst 0, 1) := by decide +kernel
theorem dX5_find_48 : decode cX5_find 48 = .ok (.goto 4, 3) := by decide +kernel
theorem dX5_find_51 : decode cX5_find 51 = .ok (.iconst (-1), 1) := by decide +kernel
theorem dX5_find_52 : decode cX5_find 52 = .ok (.putfield 56, 3) := by decide +kernel
theorem dX5_find_55 : decode cX5_find 55 = .ok (.return_, 1) := by decide +kernel
theorem dX5_find_56 : decode cX5_find 56 = .ok (.aload_n 0, 1) := by decide +kernel
theorem dX5_find_57 : decode cX5_find 57 = .ok (.getfield 18, 3) := by decide +kernel
theorem dX5_find_60 : decode cX5_find 60 = .ok (.iconst 0, 1) := by decide +kernel
theorem dX5_find_61 : decode cX5_find 61 = .ok (.invokestatic 59, 3) := by decide +kernel
theorem dX5_find_64 : decode cX5_find 64 = .ok (.aload_n 0, 1) := by decide +kernel
theorem dX5_find_65 : decode cX5_find 65 = .ok (.getfield 24, 3) := by decide +kernel
theorem dX5_find_68 : decode cX5_find 68 = .ok (.iconst 0, 1) := by decide +kernel
theorem dX5_find_69 : decode cX5_find 69 = .ok (.invokestatic 59, 3) := by decide +kernel
theorem dX5_find_72 : decode cX5_find 72 = .ok (.aload_n 0, 1) := by decide +kernel
theorem dX5_find_73 : decode cX5_find 73 = .ok (.getfield 30, 3) := by decide +kernel
theorem dX5_find_76 : decode cX5_find 76 = .ok (.aload_n 1, 1) := by decide +kernel
theorem dX5_find_77 : decode cX5_find 77 = .ok (.getfield 65, 3) := by decide +kernel
theorem dX5_find_80 : decode cX5_find 80 = .ok (.invokevirtual 70, 3) := by decide +kernel
theorem dX5_find_83 : decode cX5_find 83 = .ok (.aload_n 0, 1) := by decide +kernel
theorem dX5_find_84 : decode cX5_find 84 = .ok (.ldc2_w 74, 3) := by decide +kernel
theorem dX5_find_87 : decode cX5_find 87 = .ok (.putfield 76, 3) := by decide +kernel
theorem dX5_find_90 : decode cX5_find 90 = .ok (.iload_n 2, 1) := by decide +kernel
theorem dX5_find_91 : decode cX5_find 91 = .ok (.ifCond .ne 11, 3) := by decide +kernel
theorem dX5_find_94 : decode cX5_find 94 = .ok (.aload_n 0, 1) := by decide +kernel
theorem dX5_find_95 : decode cX5_find 95 = .ok (.lconst 0, 1) := by decide +kernel
theorem dX5_find_96 : decode cX5_find 96 = .ok (.invokevirtual 80, 3) := by decide +kernel
theorem dX5_find_99 : decode cX5_find 99 = .ok (.goto 9, 3) := by decide +kernel
theorem dX5_find_102 : decode cX5_find 102 = .ok (.aload_n 0, 1) := by decide +kernel
theorem dX5_find_103 : decode cX5_find 103 = .ok (.iconst 0, 1) := by decide +kernel
theorem dX5_find_104 : decode cX5_find 104 = .ok (.iconst 0, 1) := by decide +kernel
theorem dX5_find_105 : decode cX5_find 105 = .ok (.invokevirtual 84, 3) := by decide +kernel
theorem dX5_find_108 : decode cX5_find 108 = .ok (.aload_n 0, 1) := by decide +kernel
theorem dX5_find_109 : decode cX5_find 109 = .ok (.aload_n 0, 1) := by decide +kernel
theorem dX5_find_110 : decode cX5_find 110 = .ok (.invokevirtual 88, 3) := by decide +kernel
theorem dX5_find_113 : decode cX5_find 113 = .ok (.putfield 56, 3) := by decide +kernel
theorem dX5_find_116 : decode cX5_find 116 = .ok (.return_, 1) := by decide +kernel
theorem dX5_isAnswered_0 : decode cX5_isAnswered 0 = .ok (.iload_n 2, 1) := by decide +kernel
theorem dX5_isAnswered_1 : decode cX5_isAnswered 1 = .ok (.aload_n 0, 1) := by decide +kernel
theorem dX5_isAnswered_2 : decode cX5_isAnswered 2 = .ok (.getfield 40, 3) := by decide +kernel
theorem dX5_isAnswered_5 : decode cX5_isAnswered 5 = .ok (.if_icmp .ne 25, 3) := by decide +kernel
theorem dX5_isAnswered_8 : decode cX5_isAnswered 8 = .ok (.aload_n 1, 1) := by decide +kernel
theorem dX5_isAnswered_9 : decode cX5_isAnswered 9 = .ok (.getfield 91, 3) := by decide +kernel
theorem dX5_isAnswered_12 : decode cX5_isAnswered 12 = .ok (.aload_n 0, 1) := by decide +kernel
theorem dX5_isAnswered_13 : decode cX5_isAnswered 13 = .ok (.getfield 94, 3) := by decide +kernel
theorem dX5_isAnswered_16 : decode cX5_isAnswered 16 = .ok (.if_icmp .ne 14, 3) := by decide +kernel
theorem dX5_isAnswered_19 : decode cX5_isAnswered 19 = .ok (.aload_n 1, 1) := by decide +kernel
theorem dX5_isAnswered_20 : decode cX5_isAnswered 20 = .ok (.getfield 65, 3) := by decide +kernel
theorem dX5_isAnswered_23 : decode cX5_isAnswered 23 = .ok (.aload_n 0, 1) := by decide +kernel
theorem dX5_isAnswered_24 : decode cX5_isAnswered 24 = .ok (.getfield 97, 3) := by decide +kernel
theorem dX5_isAnswered_27 : decode cX5_isAnswered 27 = .ok (.if_icmp .eq 5, 3) := by decide +kernel
theorem dX5_isAnswered_30 : decode cX5_isAnswered 30 = .ok (.iconst 0, 1) := by decide +kernel
theorem dX5_isAnswered_31 : decode cX5_isAnswered 31 = .ok (.ireturn, 1) := by decide +kernel
theorem dX5_isAnswered_32 : decode cX5_isAnswered 32 = .ok (.iconst 0, 1) := by decide +kernel
theorem dX5_isAnswered_33 : decode cX5_isAnswered 33 = .ok (.istore_n 3, 1) := by decide +kernel
theorem dX5_isAnswered_34 : decode cX5_isAnswered 34 = .ok (.iload_n 3, 1) := by decide +kernel
theorem dX5_isAnswered_35 : decode cX5_isAnswered 35 = .ok (.aload_n 0, 1) := by decide +kernel
theorem dX5_isAnswered_36 : decode cX5_isAnswered 36 = .ok (.getfield 97, 3) := by decide +kernel
theorem dX5_isAnswered_39 : decode cX5_isAnswered 39 = .ok (.if_icmp .ge 26, 3) := by decide +kernel
theorem dX5_isAnswered_42 : decode cX5_isAnswered 42 = .ok (.aload_n 0, 1) := by decide +kernel
theorem dX5_isAnswered_43 : decode cX5_isAnswered 43 = .ok (.getfield 9, 3) := by decide +kernel
theorem dX5_isAnswered_46 : decode cX5_isAnswered 46 = .ok (.iload_n 3, 1) := by decide +kernel
theorem dX5_isAnswered_47 : decode cX5_isAnswered 47 = .ok (.iaload, 1) := by decide +kernel
theorem dX5_isAnswered_48 : decode cX5_isAnswered 48 = .ok (.aload_n 1, 1) := by decide +kernel
theorem dX5_isAnswered_49 : decode cX5_isAnswered 49 = .ok (.getfield 100, 3) := by decide +kernel
theorem dX5_isAnswered_52 : decode cX5_isAnswered 52 = .ok (.iload_n 3, 1) := by decide +kernel
theorem dX5_isAnswered_53 : decode cX5_isAnswered 53 = .ok (.iaload, 1) := by decide +kernel
theorem dX5_isAnswered_54 : decode cX5_isAnswered 54 = .ok (.if_icmp .eq 5, 3) := by decide +kernel
theorem dX5_isAnswered_57 : decode cX5_isAnswered 57 = .ok (.iconst 0, 1) := by decide +kernel
theorem dX5_isAnswered_58 : decode cX5_isAnswered 58 = .ok (.ireturn, 1) := by decide +kernel
theorem dX5_isAnswered_59 : decode cX5_isAnswered 59 = .ok (.iinc 3 1, 3) := by decide +kernel
theorem dX5_isAnswered_62 : decode cX5_isAnswered 62 = .ok (.goto (-28), 3) := by decide +kernel
theorem dX5_isAnswered_65 : decode cX5_isAnswered 65 = .ok (.iconst 1, 1) := by decide +kernel
theorem dX5_isAnswered_66 : decode cX5_isAnswered 66 = .ok (.ireturn, 1) := by decide +kernel
set_option maxRecDepth 20000 in
theorem ggX5_noteAsked_X1_settingCount : GoodIn wsX5_noteAsked wsX1_settingCount := goodIn_r _ [18, 19, 47, 48, 49, 50, 51, 52, 53, 54, 55, 56, 57] (by decide +kernel) (by decide +kernel)
set_option maxRecDepth 20000 in
theorem gX5_noteAsked_X1_settingCount : GoodIn wsX5_noteAsked (wsV RX5 109 RX1 yX1_settingCount wsX1_settingCount) := goodIn_app (goodIn_of _ (by decide +kernel)) ggX5_noteAsked_X1_settingCount
set_option maxRecDepth 20000 in
theorem ggX5_noteAsked_X1_signsAt : GoodIn wsX5_noteAsked wsX1_signsAt := goodIn_r _ [23, 24, 25, 26, 27, 28, 29, 30, 31, 32, 47, 48, 49, 50, 51, 52, 53, 54, 55, 56, 57] (by decide +kernel) (by decide +kernel)
set_option maxRecDepth 20000 in
theorem gX5_noteAsked_X1_signsAt : GoodIn wsX5_noteAsked (wsV RX5 115 RX1 yX1_signsAt wsX1_signsAt) := goodIn_app (goodIn_of _ (by decide +kernel)) ggX5_noteAsked_X1_signsAt
theorem dX5_noteAsked_0 : decode cX5_noteAsked 0 = .ok (.aload_n 0, 1) := by decide +kernel
theorem dX5_noteAsked_1 : decode cX5_noteAsked 1 = .ok (.iload_n 2, 1) := by decide +kernel
theorem dX5_noteAsked_2 : decode cX5_noteAsked 2 = .ok (.putfield 40, 3) := by decide +kernel
theorem dX5_noteAsked_5 : decode cX5_noteAsked 5 = .ok (.aload_n 0, 1) := by decide +kernel
theorem dX5_noteAsked_6 : decode cX5_noteAsked 6 = .ok (.aload_n 1, 1) := by decide +kernel
theorem dX5_noteAsked_7 : decode cX5_noteAsked 7 = .ok (.getfield 91, 3) := by decide +kernel
theorem dX5_noteAsked_10 : decode cX5_noteAsked 10 = .ok (.putfield 94, 3) := by decide +kernel
theorem dX5_noteAsked_13 : decode cX5_noteAsked 13 = .ok (.aload_n 0, 1) := by decide +kernel
theorem dX5_noteAsked_14 : decode cX5_noteAsked 14 = .ok (.aload_n 1, 1) := by decide +kernel
theorem dX5_noteAsked_15 : decode cX5_noteAsked 15 = .ok (.getfield 65, 3) := by decide +kernel
theorem dX5_noteAsked_18 : decode cX5_noteAsked 18 = .ok (.putfield 97, 3) := by decide +kernel
theorem dX5_noteAsked_21 : decode cX5_noteAsked 21 = .ok (.aload_n 1, 1) := by decide +kernel
theorem dX5_noteAsked_22 : decode cX5_noteAsked 22 = .ok (.getfield 100, 3) := by decide +kernel
theorem dX5_noteAsked_25 : decode cX5_noteAsked 25 = .ok (.iconst 0, 1) := by decide +kernel
theorem dX5_noteAsked_26 : decode cX5_noteAsked 26 = .ok (.aload_n 0, 1) := by decide +kernel
theorem dX5_noteAsked_27 : decode cX5_noteAsked 27 = .ok (.getfield 9, 3) := by decide +kernel
theorem dX5_noteAsked_30 : decode cX5_noteAsked 30 = .ok (.iconst 0, 1) := by decide +kernel
theorem dX5_noteAsked_31 : decode cX5_noteAsked 31 = .ok (.iconst 5, 1) := by decide +kernel
theorem dX5_noteAsked_32 : decode cX5_noteAsked 32 = .ok (.invokestatic 103, 3) := by decide +kernel
theorem dX5_noteAsked_35 : decode cX5_noteAsked 35 = .ok (.aload_n 0, 1) := by decide +kernel
theorem dX5_noteAsked_36 : decode cX5_noteAsked 36 = .ok (.aload_n 1, 1) := by decide +kernel
theorem dX5_noteAsked_37 : decode cX5_noteAsked 37 = .ok (.invokevirtual 109, 3) := by decide +kernel
theorem dX5_noteAsked_40 : decode cX5_noteAsked 40 = .ok (.putfield 112, 3) := by decide +kernel
theorem dX5_noteAsked_43 : decode cX5_noteAsked 43 = .ok (.iconst 0, 1) := by decide +kernel
theorem dX5_noteAsked_44 : decode cX5_noteAsked 44 = .ok (.istore_n 3, 1) := by decide +kernel
theorem dX5_noteAsked_45 : decode cX5_noteAsked 45 = .ok (.iload_n 3, 1) := by decide +kernel
theorem dX5_noteAsked_46 : decode cX5_noteAsked 46 = .ok (.aload_n 0, 1) := by decide +kernel
theorem dX5_noteAsked_47 : decode cX5_noteAsked 47 = .ok (.getfield 112, 3) := by decide +kernel
theorem dX5_noteAsked_50 : decode cX5_noteAsked 50 = .ok (.if_icmp .ge 20, 3) := by decide +kernel
theorem dX5_noteAsked_53 : decode cX5_noteAsked 53 = .ok (.aload_n 0, 1) := by decide +kernel
theorem dX5_noteAsked_54 : decode cX5_noteAsked 54 = .ok (.getfield 15, 3) := by decide +kernel
theorem dX5_noteAsked_57 : decode cX5_noteAsked 57 = .ok (.iload_n 3, 1) := by decide +kernel
theorem dX5_noteAsked_58 : decode cX5_noteAsked 58 = .ok (.aload_n 1, 1) := by decide +kernel
theorem dX5_noteAsked_59 : decode cX5_noteAsked 59 = .ok (.iload_n 3, 1) := by decide +kernel
theorem dX5_noteAsked_60 : decode cX5_noteAsked 60 = .ok (.invokevirtual 115, 3) := by decide +kernel
theorem dX5_noteAsked_63 : decode cX5_noteAsked 63 = .ok (.iastore, 1) := by decide +kernel
theorem dX5_noteAsked_64 : decode cX5_noteAsked 64 = .ok (.iinc 3 1, 3) := by decide +kernel
theorem dX5_noteAsked_67 : decode cX5_noteAsked 67 = .ok (.goto (-22), 3) := by decide +kernel
theorem dX5_noteAsked_70 : decode cX5_noteAsked 70 = .ok (.return_, 1) := by decide +kernel
set_option maxRecDepth 20000 in
theorem ggX5_countPlans_J7_fill_53178 : GoodIn wsX5_countPlans wsJ7_fill_53178 := goodIn_r _ [11] (by decide +kernel) (by decide +kernel)
set_option maxRecDepth 20000 in
theorem gX5_countPlans_J7_fill_53178 : GoodIn wsX5_countPlans (va_wsS RX5 59 yJ7_fill_53178 wsJ7_fill_53178) := goodIn_app (goodIn_of _ (by decide +kernel)) ggX5_countPlans_J7_fill_53178
theorem dX5_countPlans_0 : decode cX5_countPlans 0 = .ok (.aload_n 0, 1) := by decide +kernel
theorem dX5_countPlans_1 : decode cX5_countPlans 1 = .ok (.getfield 21, 3) := by decide +kernel
theorem dX5_countPlans_4 : decode cX5_countPlans 4 = .ok (.iconst 0, 1) := by decide +kernel
theorem dX5_countPlans_5 : decode cX5_countPlans 5 = .ok (.invokestatic 59, 3) := by decide +kernel
theorem dX5_countPlans_8 : decode cX5_countPlans 8 = .ok (.aload_n 0, 1) := by decide +kernel
theorem dX5_countPlans_9 : decode cX5_countPlans 9 = .ok (.getfield 21, 3) := by decide +kernel
theorem dX5_countPlans_12 : decode cX5_countPlans 12 = .ok (.iconst 0, 1) := by decide +kernel
theorem dX5_countPlans_13 : decode cX5_countPlans 13 = .ok (.iconst 1, 1) := by decide +kernel
theorem dX5_countPlans_14 : decode cX5_countPlans 14 = .ok (.iastore, 1) := by decide +kernel
theorem dX5_countPlans_15 : decode cX5_countPlans 15 = .ok (.iconst 0, 1) := by decide +kernel
theorem dX5_countPlans_16 : decode cX5_countPlans 16 = .ok (.istore_n 1, 1) := by decide +kernel
theorem dX5_countPlans_17 : decode cX5_countPlans 17 = .ok (.iload_n 1, 1) := by decide +kernel
theorem dX5_countPlans_18 : decode cX5_countPlans 18 = .ok (.aload_n 0, 1) := by decide +kernel
theorem dX5_countPlans_19 : decode cX5_countPlans 19 = .ok (.getfield 112, 3) := by decide +kernel
theorem dX5_countPlans_22 : decode cX5_countPlans 22 = .ok (.if_icmp .ge 88, 3) := by decide +kernel
theorem dX5_countPlans_25 : decode cX5_countPlans 25 = .ok (.aload_n 0, 1) := by decide +kernel
theorem dX5_countPlans_26 : decode cX5_countPlans 26 = .ok (.getfield 21, 3) := by decide +kernel
theorem dX5_countPlans_29 : decode cX5_countPlans 29 = .ok (.aload_n 0, 1) := by decide +kernel
theorem dX5_countPlans_30 : decode cX5_countPlans 30 = .ok (.getfield 40, 3) := by decide +kernel
theorem dX5_countPlans_33 : decode cX5_countPlans 33 = .ok (.iaload, 1) := by decide +kernel
theorem dX5_countPlans_34 : decode cX5_countPlans 34 = .ok (.sipush 20000, 3) := by decide +kernel
theorem dX5_countPlans_37 : decode cX5_countPlans 37 = .ok (.if_icmp .gt 73, 3) := by decide +kernel
theorem dX5_countPlans_40 : decode cX5_countPlans 40 = .ok (.aload_n 0, 1) := by decide +kernel
theorem dX5_countPlans_41 : decode cX5_countPlans 41 = .ok (.getfield 40, 3) := by decide +kernel
theorem dX5_countPlans_44 : decode cX5_countPlans 44 = .ok (.istore_n 2, 1) := by decide +kernel
theorem dX5_countPlans_45 : decode cX5_countPlans 45 = .ok (.iload_n 2, 1) := by decide +kernel
theorem dX5_countPlans_46 : decode cX5_countPlans 46 = .ok (.ifCond .le 58, 3) := by decide +kernel
theorem dX5_countPlans_49 : decode cX5_countPlans 49 = .ok (.iconst 0, 1) := by decide +kernel
theorem dX5_countPlans_50 : decode cX5_countPlans 50 = .ok (.istore_n 3, 1) := by decide +kernel
theorem dX5_countPlans_51 : decode cX5_countPlans 51 = .ok (.iconst 0, 1) := by decide +kernel
theorem dX5_countPlans_52 : decode cX5_countPlans 52 = .ok (.istore 4, 2) := by decide +kernel
theorem dX5_countPlans_54 : decode cX5_countPlans 54 = .ok (.iload 4, 2) := by decide +kernel
theorem dX5_countPlans_56 : decode cX5_countPlans 56 = .ok (.bipush 9, 2) := by decide +kernel
theorem dX5_countPlans_58 : decode cX5_countPlans 58 = .ok (.if_icmp .gt 27, 3) := by decide +kernel
theorem dX5_countPlans_61 : decode cX5_countPlans 61 = .ok (.iload 4, 2) := by decide +kernel
theorem dX5_countPlans_63 : decode cX5_countPlans 63 = .ok (.iload_n 2, 1) := by decide +kernel
theorem dX5_countPlans_64 : decode cX5_countPlans 64 = .ok (.if_icmp .gt 21, 3) := by decide +kernel
theorem dX5_countPlans_67 : decode cX5_countPlans 67 = .ok (.iload_n 3, 1) := by decide +kernel
theorem dX5_countPlans_68 : decode cX5_countPlans 68 = .ok (.aload_n 0, 1) := by decide +kernel
theorem dX5_countPlans_69 : decode cX5_countPlans 69 = .ok (.getfield 21, 3) := by decide +kernel
theorem dX5_countPlans_72 : decode cX5_countPlans 72 = .ok (.iload_n 2, 1) := by decide +kernel
theorem dX5_countPlans_73 : decode cX5_countPlans 73 = .ok (.iload 4, 2) := by decide +kernel
theorem dX5_countPlans_75 : decode cX5_countPlans 75 = .ok (.isub, 1) := by decide +kernel
theorem dX5_countPlans_76 : decode cX5_countPlans 76 = .ok (.iaload, 1) := by decide +kernel
theorem dX5_countPlans_77 : decode cX5_countPlans 77 = .ok (.iadd, 1) := by decide +kernel
theorem dX5_countPlans_78 : decode cX5_countPlans 78 = .ok (.istore_n 3, 1) := by decide +kernel
theorem dX5_countPlans_79 : decode cX5_countPlans 79 = .ok (.iinc 4 1, 3) := by decide +kernel
theorem dX5_countPlans_82 : decode cX5_countPlans 82 = .ok (.goto (-28), 3) := by decide +kernel
theorem dX5_countPlans_85 : decode cX5_countPlans 85 = .ok (.aload_n 0, 1) := by decide +kernel
theorem dX5_countPlans_86 : decode cX5_countPlans 86 = .ok (.getfield 21, 3) := by decide +kernel
theorem dX5_countPlans_89 : decode cX5_countPlans 89 = .ok (.iload_n 2, 1) := by decide +kernel
theorem dX5_countPlans_90 : decode cX5_countPlans 90 = .ok (.iload_n 3, 1) := by decide +kernel
theorem dX5_countPlans_91 : decode cX5_countPlans 91 = .ok (.sipush 20001, 3) := by decide +kernel
theorem dX5_countPlans_94 : decode cX5_countPlans 94 = .ok (.invokestatic 119, 3) := by decide +kernel
theorem dX5_countPlans_97 : decode cX5_countPlans 97 = .ok (.iastore, 1) := by decide +kernel
theorem dX5_countPlans_98 : decode cX5_countPlans 98 = .ok (.iinc 2 (-1), 3) := by decide +kernel
theorem dX5_countPlans_101 : decode cX5_countPlans 101 = .ok (.goto (-56), 3) := by decide +kernel
theorem dX5_countPlans_104 : decode cX5_countPlans 104 = .ok (.iinc 1 1, 3) := by decide +kernel
theorem dX5_countPlans_107 : decode cX5_countPlans 107 = .ok (.goto (-90), 3) := by decide +kernel
theorem dX5_countPlans_110 : decode cX5_countPlans 110 = .ok (.aload_n 0, 1) := by decide +kernel
theorem dX5_countPlans_111 : decode cX5_countPlans 111 = .ok (.getfield 21, 3) := by decide +kernel
theorem dX5_countPlans_114 : decode cX5_countPlans 114 = .ok (.aload_n 0, 1) := by decide +kernel
theorem dX5_countPlans_115 : decode cX5_countPlans 115 = .ok (.getfield 40, 3) := by decide +kernel
theorem dX5_countPlans_118 : decode cX5_countPlans 118 = .ok (.iaload, 1) := by decide +kernel
theorem dX5_countPlans_119 : decode cX5_countPlans 119 = .ok (.ireturn, 1) := by decide +kernel
set_option maxRecDepth 20000 in
theorem ggX5_place_X2_copyFrom : GoodIn wsX5_place wsX2_copyFrom := goodIn_r _ [11, 12, 13, 14, 15, 16, 17, 57, 58, 59, 60, 61] (by decide +kernel) (by decide +kernel)
set_option maxRecDepth 20000 in
theorem gX5_place_X2_copyFrom : GoodIn wsX5_place (wsV RX5 125 RX2 yX2_copyFrom wsX2_copyFrom) := goodIn_app (goodIn_of _ (by decide +kernel)) ggX5_place_X2_copyFrom
set_option maxRecDepth 20000 in
theorem ggX5_place_X2_shift : GoodIn wsX5_place wsX2_shift := goodIn_r _ [21, 12, 22, 13, 57, 58, 59, 60, 61] (by decide +kernel) (by decide +kernel)
set_option maxRecDepth 20000 in
theorem gX5_place_X2_shift : GoodIn wsX5_place (wsV RX5 129 RX2 yX2_shift wsX2_shift) := goodIn_app (goodIn_of _ (by decide +kernel)) ggX5_place_X2_shift
set_option maxRecDepth 20000 in
theorem ggX5_place_X2_determinant : GoodIn wsX5_place wsX2_determinant := goodIn_r _ [26, 12, 13, 22, 57, 58, 59, 60, 61] (by decide +kernel) (by decide +kernel)
set_option maxRecDepth 20000 in
theorem gX5_place_X2_determinant : GoodIn wsX5_place (wsV RX5 132 RX2 yX2_determinant wsX2_determinant) := goodIn_app (goodIn_of _ (by decide +kernel)) ggX5_place_X2_determinant
set_option maxRecDepth 20000 in
theorem ggX5_place_X5_judge : GoodIn wsX5_place wsX5_judge := goodIn_r _ [31, 32, 33, 3, 34, 35, 15, 16, 17, 2, 36, 37, 38, 39, 43, 44, 45, 46, 47, 48, 49, 50, 51, 52, 53, 54, 55, 56] (by decide +kernel) (by decide +kernel)
set_option maxRecDepth 20000 in
theorem gX5_place_X5_judge : GoodIn wsX5_place (wsV RX5 80 RX5 yX5_judge wsX5_judge) := goodIn_app (goodIn_of _ (by decide +kernel)) ggX5_place_X5_judge
set_option maxRecDepth 20000 in
theorem ggX5_place_X5_place : GoodIn wsX5_place wsX5_place := goodIn_r _ [0, 1, 2, 3, 4, 5, 6, 7, 8, 9, 10, 11, 12, 13, 14, 15, 16, 17, 18, 19, 20, 21, 22, 23, 24, 25, 26, 27, 28, 29, 30, 31, 32, 33, 34, 35, 36, 37, 38, 39, 40, 41, 42, 43, 44, 45, 46, 47, 48, 49, 50, 51, 52, 53, 54, 55, 56, 57, 58, 59, 60, 61] (by decide +kernel) (by decide +kernel)
set_option maxRecDepth 20000 in
theorem gX5_place_X5_place : GoodIn wsX5_place (wsV RX5 84 RX5 yX5_place wsX5_place) := goodIn_app (goodIn_of _ (by decide +kernel)) ggX5_place_X5_place
theorem dX5_place_0 : decode cX5_place 0 = .ok (.iload_n 1, 1) := by decide +kernel
theorem dX5_place_1 : decode cX5_place 1 = .ok (.aload_n 0, 1) := by decide +kernel
theorem dX5_place_2 : decode cX5_place 2 = .ok (.getfield 40, 3) := by decide +kernel
theorem dX5_place_5 : decode cX5_place 5 = .ok (.if_icmp .lt 4, 3) := by decide +kernel
theorem dX5_place_8 : decode cX5_place 8 = .ok (.return_, 1) := by decide +kernel
theorem dX5_place_9 : decode cX5_place 9 = .ok (.iload_n 2, 1) := by decide +kernel
theorem dX5_place_10 : decode cX5_place 10 = .ok (.istore_n 3, 1) := by decide +kernel
theorem dX5_place_11 : decode cX5_place 11 = .ok (.iload_n 3, 1) := by decide +kernel
theorem dX5_place_12 : decode cX5_place 12 = .ok (.aload_n 0, 1) := by decide +kernel
theorem dX5_place_13 : decode cX5_place 13 = .ok (.getfield 112, 3) := by decide +kernel
theorem dX5_place_16 : decode cX5_place 16 = .ok (.if_icmp .ge 145, 3) := by decide +kernel
theorem dX5_place_19 : decode cX5_place 19 = .ok (.iload_n 3, 1) := by decide +kernel
theorem dX5_place_20 : decode cX5_place 20 = .ok (.ifCond .ne 8, 3) := by decide +kernel
theorem dX5_place_23 : decode cX5_place 23 = .ok (.bipush 9, 2) := by decide +kernel
theorem dX5_place_25 : decode cX5_place 25 = .ok (.goto 9, 3) := by decide +kernel
theorem dX5_place_28 : decode cX5_place 28 = .ok (.aload_n 0, 1) := by decide +kernel
theorem dX5_place_29 : decode cX5_place 29 = .ok (.getfield 18, 3) := by decide +kernel
theorem dX5_place_32 : decode cX5_place 32 = .ok (.iconst 0, 1) := by decide +kernel
theorem dX5_place_33 : decode cX5_place 33 = .ok (.iaload, 1) := by decide +kernel
theorem dX5_place_34 : decode cX5_place 34 = .ok (.istore 4, 2) := by decide +kernel
theorem dX5_place_36 : decode cX5_place 36 = .ok (.aload_n 0, 1) := by decide +kernel
theorem dX5_place_37 : decode cX5_place 37 = .ok (.getfield 18, 3) := by decide +kernel
theorem dX5_place_40 : decode cX5_place 40 = .ok (.iload_n 3, 1) := by decide +kernel
theorem dX5_place_41 : decode cX5_place 41 = .ok (.iaload, 1) := by decide +kernel
theorem dX5_place_42 : decode cX5_place 42 = .ok (.iload 4, 2) := by decide +kernel
theorem dX5_place_44 : decode cX5_place 44 = .ok (.if_icmp .lt 6, 3) := by decide +kernel
theorem dX5_place_47 : decode cX5_place 47 = .ok (.goto 108, 3) := by decide +kernel
theorem dX5_place_50 : decode cX5_place 50 = .ok (.aload_n 0, 1) := by decide +kernel
theorem dX5_place_51 : decode cX5_place 51 = .ok (.getfield 18, 3) := by decide +kernel
theorem dX5_place_54 : decode cX5_place 54 = .ok (.iload_n 3, 1) := by decide +kernel
theorem dX5_place_55 : decode cX5_place 55 = .ok (.dup2, 1) := by decide +kernel
theorem dX5_place_56 : decode cX5_place 56 = .ok (.iaload, 1) := by decide +kernel
theorem dX5_place_57 : decode cX5_place 57 = .ok (.iconst 1, 1) := by decide +kernel
theorem dX5_place_58 : decode cX5_place 58 = .ok (.iadd, 1) := by decide +kernel
theorem dX5_place_59 : decode cX5_place 59 = .ok (.iastore, 1) := by decide +kernel
theorem dX5_place_60 : decode cX5_place 60 = .ok (.iload_n 1, 1) := by decide +kernel
theorem dX5_place_61 : decode cX5_place 61 = .ok (.iconst 1, 1) := by decide +kernel
theorem dX5_place_62 : decode cX5_place 62 = .ok (.iadd, 1) := by decide +kernel
theorem dX5_place_63 : decode cX5_place 63 = .ok (.aload_n 0, 1) := by decide +kernel
theorem dX5_place_64 : decode cX5_place 64 = .ok (.getfield 40, 3) := by decide +kernel
theorem dX5_place_67 : decode cX5_place 67 = .ok (.if_icmp .ne 42, 3) := by decide +kernel
theorem dX5_place_70 : decode cX5_place 70 = .ok (.aload_n 0, 1) := by decide +kernel
theorem dX5_place_71 : decode cX5_place 71 = .ok (.getfield 34, 3) := by decide +kernel
theorem dX5_place_74 : decode cX5_place 74 = .ok (.aload_n 0, 1) := by decide +kernel
theorem dX5_place_75 : decode cX5_place 75 = .ok (.getfield 30, 3) := by decide +kernel
theorem dX5_place_78 : decode cX5_place 78 = .ok (.invokevirtual 125, 3) := by decide +kernel
theorem dX5_place_81 : decode cX5_place 81 = .ok (.aload_n 0, 1) := by decide +kernel
theorem dX5_place_82 : decode cX5_place 82 = .ok (.getfield 34, 3) := by decide +kernel
theorem dX5_place_85 : decode cX5_place 85 = .ok (.aload_n 0, 1) := by decide +kernel
theorem dX5_place_86 : decode cX5_place 86 = .ok (.getfield 15, 3) := by decide +kernel
theorem dX5_place_89 : decode cX5_place 89 = .ok (.iload_n 3, 1) := by decide +kernel
theorem dX5_place_90 : decode cX5_place 90 = .ok (.iaload, 1) := by decide +kernel
theorem dX5_place_91 : decode cX5_place 91 = .ok (.iconst 1, 1) := by decide +kernel
theorem dX5_place_92 : decode cX5_place 92 = .ok (.invokevirtual 129, 3) := by decide +kernel
theorem dX5_place_95 : decode cX5_place 95 = .ok (.aload_n 0, 1) := by decide +kernel
theorem dX5_place_96 : decode cX5_place 96 = .ok (.aload_n 0, 1) := by decide +kernel
theorem dX5_place_97 : decode cX5_place 97 = .ok (.getfield 34, 3) := by decide +kernel
theorem dX5_place_100 : decode cX5_place 100 = .ok (.invokevirtual 132, 3) := by decide +kernel
theorem dX5_place_103 : decode cX5_place 103 = .ok (.invokevirtual 80, 3) := by decide +kernel
theorem dX5_place_106 : decode cX5_place 106 = .ok (.goto 39, 3) := by decide +kernel
theorem dX5_place_109 : decode cX5_place 109 = .ok (.aload_n 0, 1) := by decide +kernel
theorem dX5_place_110 : decode cX5_place 110 = .ok (.getfield 30, 3) := by decide +kernel
theorem dX5_place_113 : decode cX5_place 113 = .ok (.aload_n 0, 1) := by decide +kernel
theorem dX5_place_114 : decode cX5_place 114 = .ok (.getfield 15, 3) := by decide +kernel
theorem dX5_place_117 : decode cX5_place 117 = .ok (.iload_n 3, 1) := by decide +kernel
theorem dX5_place_118 : decode cX5_place 118 = .ok (.iaload, 1) := by decide +kernel
theorem dX5_place_119 : decode cX5_place 119 = .ok (.iconst 1, 1) := by decide +kernel
theorem dX5_place_120 : decode cX5_place 120 = .ok (.invokevirtual 129, 3) := by decide +kernel
theorem dX5_place_123 : decode cX5_place 123 = .ok (.aload_n 0, 1) := by decide +kernel
theorem dX5_place_124 : decode cX5_place 124 = .ok (.iload_n 1, 1) := by decide +kernel
theorem dX5_place_125 : decode cX5_place 125 = .ok (.iconst 1, 1) := by decide +kernel
theorem dX5_place_126 : decode cX5_place 126 = .ok (.iadd, 1) := by decide +kernel
theorem dX5_place_127 : decode cX5_place 127 = .ok (.iload_n 3, 1) := by decide +kernel
theorem dX5_place_128 : decode cX5_place 128 = .ok (.invokevirtual 84, 3) := by decide +kernel
theorem dX5_place_131 : decode cX5_place 131 = .ok (.aload_n 0, 1) := by decide +kernel
theorem dX5_place_132 : decode cX5_place 132 = .ok (.getfield 30, 3) := by decide +kernel
theorem dX5_place_135 : decode cX5_place 135 = .ok (.aload_n 0, 1) := by decide +kernel
theorem dX5_place_136 : decode cX5_place 136 = .ok (.getfield 15, 3) := by decide +kernel
theorem dX5_place_139 : decode cX5_place 139 = .ok (.iload_n 3, 1) := by decide +kernel
theorem dX5_place_140 : decode cX5_place 140 = .ok (.iaload, 1) := by decide +kernel
theorem dX5_place_141 : decode cX5_place 141 = .ok (.iconst (-1), 1) := by decide +kernel
theorem dX5_place_142 : decode cX5_place 142 = .ok (.invokevirtual 129, 3) := by decide +kernel
theorem dX5_place_145 : decode cX5_place 145 = .ok (.aload_n 0, 1) := by decide +kernel
theorem dX5_place_146 : decode cX5_place 146 = .ok (.getfield 18, 3) := by decide +kernel
theorem dX5_place_149 : decode cX5_place 149 = .ok (.iload_n 3, 1) := by decide +kernel
theorem dX5_place_150 : decode cX5_place 150 = .ok (.dup2, 1) := by decide +kernel
theorem dX5_place_151 : decode cX5_place 151 = .ok (.iaload, 1) := by decide +kernel
theorem dX5_place_152 : decode cX5_place 152 = .ok (.iconst 1, 1) := by decide +kernel
theorem dX5_place_153 : decode cX5_place 153 = .ok (.isub, 1) := by decide +kernel
theorem dX5_place_154 : decode cX5_place 154 = .ok (.iastore, 1) := by decide +kernel
theorem dX5_place_155 : decode cX5_place 155 = .ok (.iinc 3 1, 3) := by decide +kernel
theorem dX5_place_158 : decode cX5_place 158 = .ok (.goto (-147), 3) := by decide +kernel
theorem dX5_place_161 : decode cX5_place 161 = .ok (.return_, 1) := by decide +kernel
set_option maxRecDepth 20000 in
theorem ggX5_judge_J7_fill_53178 : GoodIn wsX5_judge wsJ7_fill_53178 := goodIn_r _ [13] (by decide +kernel) (by decide +kernel)
set_option maxRecDepth 20000 in
theorem gX5_judge_J7_fill_53178 : GoodIn wsX5_judge (va_wsS RX5 59 yJ7_fill_53178 wsJ7_fill_53178) := goodIn_app (goodIn_of _ (by decide +kernel)) ggX5_judge_J7_fill_53178
theorem dX5_judge_0 : decode cX5_judge 0 = .ok (.lload_n 1, 1) := by decide +kernel
theorem dX5_judge_1 : decode cX5_judge 1 = .ok (.aload_n 0, 1) := by decide +kernel
theorem dX5_judge_2 : decode cX5_judge 2 = .ok (.getfield 76, 3) := by decide +kernel
theorem dX5_judge_5 : decode cX5_judge 5 = .ok (.lcmp, 1) := by decide +kernel
theorem dX5_judge_6 : decode cX5_judge 6 = .ok (.ifCond .ge 4, 3) := by decide +kernel
theorem dX5_judge_9 : decode cX5_judge 9 = .ok (.return_, 1) := by decide +kernel
theorem dX5_judge_10 : decode cX5_judge 10 = .ok (.lload_n 1, 1) := by decide +kernel
theorem dX5_judge_11 : decode cX5_judge 11 = .ok (.aload_n 0, 1) := by decide +kernel
theorem dX5_judge_12 : decode cX5_judge 12 = .ok (.getfield 76, 3) := by decide +kernel
theorem dX5_judge_15 : decode cX5_judge 15 = .ok (.lcmp, 1) := by decide +kernel
theorem dX5_judge_16 : decode cX5_judge 16 = .ok (.ifCond .le 31, 3) := by decide +kernel
theorem dX5_judge_19 : decode cX5_judge 19 = .ok (.aload_n 0, 1) := by decide +kernel
theorem dX5_judge_20 : decode cX5_judge 20 = .ok (.lload_n 1, 1) := by decide +kernel
theorem dX5_judge_21 : decode cX5_judge 21 = .ok (.putfield 76, 3) := by decide +kernel
theorem dX5_judge_24 : decode cX5_judge 24 = .ok (.aload_n 0, 1) := by decide +kernel
theorem dX5_judge_25 : decode cX5_judge 25 = .ok (.getfield 24, 3) := by decide +kernel
theorem dX5_judge_28 : decode cX5_judge 28 = .ok (.iconst 0, 1) := by decide +kernel
theorem dX5_judge_29 : decode cX5_judge 29 = .ok (.invokestatic 59, 3) := by decide +kernel
theorem dX5_judge_32 : decode cX5_judge 32 = .ok (.aload_n 0, 1) := by decide +kernel
theorem dX5_judge_33 : decode cX5_judge 33 = .ok (.getfield 18, 3) := by decide +kernel
theorem dX5_judge_36 : decode cX5_judge 36 = .ok (.iconst 0, 1) := by decide +kernel
theorem dX5_judge_37 : decode cX5_judge 37 = .ok (.aload_n 0, 1) := by decide +kernel
theorem dX5_judge_38 : decode cX5_judge 38 = .ok (.getfield 37, 3) := by decide +kernel
theorem dX5_judge_41 : decode cX5_judge 41 = .ok (.iconst 0, 1) := by decide +kernel
theorem dX5_judge_42 : decode cX5_judge 42 = .ok (.bipush 64, 2) := by decide +kernel
theorem dX5_judge_44 : decode cX5_judge 44 = .ok (.invokestatic 103, 3) := by decide +kernel
theorem dX5_judge_47 : decode cX5_judge 47 = .ok (.iconst 0, 1) := by decide +kernel
theorem dX5_judge_48 : decode cX5_judge 48 = .ok (.istore_n 3, 1) := by decide +kernel
theorem dX5_judge_49 : decode cX5_judge 49 = .ok (.iconst 0, 1) := by decide +kernel
theorem dX5_judge_50 : decode cX5_judge 50 = .ok (.istore 4, 2) := by decide +kernel
theorem dX5_judge_52 : decode cX5_judge 52 = .ok (.iload 4, 2) := by decide +kernel
theorem dX5_judge_54 : decode cX5_judge 54 = .ok (.aload_n 0, 1) := by decide +kernel
theorem dX5_judge_55 : decode cX5_judge 55 = .ok (.getfield 112, 3) := by decide +kernel
theorem dX5_judge_58 : decode cX5_judge 58 = .ok (.if_icmp .ge 33, 3) := by decide +kernel
theorem dX5_judge_61 : decode cX5_judge 61 = .ok (.iload_n 3, 1) := by decide +kernel
theorem dX5_judge_62 : decode cX5_judge 62 = .ok (.aload_n 0, 1) := by decide +kernel
theorem dX5_judge_63 : decode cX5_judge 63 = .ok (.getfield 18, 3) := by decide +kernel
theorem dX5_judge_66 : decode cX5_judge 66 = .ok (.iload 4, 2) := by decide +kernel
theorem dX5_judge_68 : decode cX5_judge 68 = .ok (.iaload, 1) := by decide +kernel
theorem dX5_judge_69 : decode cX5_judge 69 = .ok (.aload_n 0, 1) := by decide +kernel
theorem dX5_judge_70 : decode cX5_judge 70 = .ok (.getfield 18, 3) := by decide +kernel
theorem dX5_judge_73 : decode cX5_judge 73 = .ok (.iconst 0, 1) := by decide +kernel
theorem dX5_judge_74 : decode cX5_judge 74 = .ok (.iaload, 1) := by decide +kernel
theorem dX5_judge_75 : decode cX5_judge 75 = .ok (.if_icmp .ne 7, 3) := by decide +kernel
theorem dX5_judge_78 : decode cX5_judge 78 = .ok (.iconst 1, 1) := by decide +kernel
theorem dX5_judge_79 : decode cX5_judge 79 = .ok (.goto 4, 3) := by decide +kernel
theorem dX5_judge_82 : decode cX5_judge 82 = .ok (.iconst 0, 1) := by decide +kernel
theorem dX5_judge_83 : decode cX5_judge 83 = .ok (.iadd, 1) := by decide +kernel
theorem dX5_judge_84 : decode cX5_judge 84 = .ok (.istore_n 3, 1) := by decide +kernel
theorem dX5_judge_85 : decode cX5_judge 85 = .ok (.iinc 4 1, 3) := by decide +kernel
theorem dX5_judge_88 : decode cX5_judge 88 = .ok (.goto (-36), 3) := by decide +kernel
theorem dX5_judge_91 : decode cX5_judge 91 = .ok (.aload_n 0, 1) := by decide +kernel
theorem dX5_judge_92 : decode cX5_judge 92 = .ok (.getfield 24, 3) := by decide +kernel
theorem dX5_judge_95 : decode cX5_judge 95 = .ok (.iload_n 3, 1) := by decide +kernel
theorem dX5_judge_96 : decode cX5_judge 96 = .ok (.dup2, 1) := by decide +kernel
theorem dX5_judge_97 : decode cX5_judge 97 = .ok (.iaload, 1) := by decide +kernel
theorem dX5_judge_98 : decode cX5_judge 98 = .ok (.iconst 1, 1) := by decide +kernel
theorem dX5_judge_99 : decode cX5_judge 99 = .ok (.iadd, 1) := by decide +kernel
theorem dX5_judge_100 : decode cX5_judge 100 = .ok (.iastore, 1) := by decide +kernel
theorem dX5_judge_101 : decode cX5_judge 101 = .ok (.return_, 1) := by decide +kernel
theorem dX5_countBests_0 : decode cX5_countBests 0 = .ok (.iconst 0, 1) := by decide +kernel
theorem dX5_countBests_1 : decode cX5_countBests 1 = .ok (.istore_n 1, 1) := by decide +kernel
theorem dX5_countBests_2 : decode cX5_countBests 2 = .ok (.iconst 1, 1) := by decide +kernel
theorem dX5_countBests_3 : decode cX5_countBests 3 = .ok (.istore_n 2, 1) := by decide +kernel
theorem dX5_countBests_4 : decode cX5_countBests 4 = .ok (.iload_n 2, 1) := by decide +kernel
theorem dX5_countBests_5 : decode cX5_countBests 5 = .ok (.aload_n 0, 1) := by decide +kernel
theorem dX5_countBests_6 : decode cX5_countBests 6 = .ok (.getfield 112, 3) := by decide +kernel
theorem dX5_countBests_9 : decode cX5_countBests 9 = .ok (.if_icmp .gt 25, 3) := by decide +kernel
theorem dX5_countBests_12 : decode cX5_countBests 12 = .ok (.iload_n 1, 1) := by decide +kernel
theorem dX5_countBests_13 : decode cX5_countBests 13 = .ok (.aload_n 0, 1) := by decide +kernel
theorem dX5_countBests_14 : decode cX5_countBests 14 = .ok (.getfield 24, 3) := by decide +kernel
theorem dX5_countBests_17 : decode cX5_countBests 17 = .ok (.iload_n 2, 1) := by decide +kernel
theorem dX5_countBests_18 : decode cX5_countBests 18 = .ok (.iaload, 1) := by decide +kernel
theorem dX5_countBests_19 : decode cX5_countBests 19 = .ok (.aload_n 0, 1) := by decide +kernel
theorem dX5_countBests_20 : decode cX5_countBests 20 = .ok (.getfield 112, 3) := by decide +kernel
theorem dX5_countBests_23 : decode cX5_countBests 23 = .ok (.imul, 1) := by decide +kernel
theorem dX5_countBests_24 : decode cX5_countBests 24 = .ok (.iload_n 2, 1) := by decide +kernel
theorem dX5_countBests_25 : decode cX5_countBests 25 = .ok (.idiv, 1) := by decide +kernel
theorem dX5_countBests_26 : decode cX5_countBests 26 = .ok (.iadd, 1) := by decide +kernel
theorem dX5_countBests_27 : decode cX5_countBests 27 = .ok (.istore_n 1, 1) := by decide +kernel
theorem dX5_countBests_28 : decode cX5_countBests 28 = .ok (.iinc 2 1, 3) := by decide +kernel
theorem dX5_countBests_31 : decode cX5_countBests 31 = .ok (.goto (-27), 3) := by decide +kernel
theorem dX5_countBests_34 : decode cX5_countBests 34 = .ok (.iload_n 1, 1) := by decide +kernel
theorem dX5_countBests_35 : decode cX5_countBests 35 = .ok (.ireturn, 1) := by decide +kernel
set_option maxRecDepth 20000 in
theorem ggX6_init_X1_init : GoodIn wsX6_init wsX1_init := goodIn_r _ [37, 38, 2, 3, 32, 39, 40, 41, 42, 43, 44, 45, 46, 100, 101, 102, 103, 104, 105, 106, 107, 108, 109, 110] (by decide +kernel) (by decide +kernel)
set_option maxRecDepth 20000 in
theorem gX6_init_X1_init : GoodIn wsX6_init (wsX1_init) := ggX6_init_X1_init
set_option maxRecDepth 20000 in
theorem ggX6_init_X3_init : GoodIn wsX6_init wsX3_init := goodIn_r _ [49, 50, 2, 3, 51, 52, 5, 6, 53, 36, 37, 38, 32, 39, 40, 41, 42, 43, 44, 45, 46, 122, 123, 124, 100, 101, 102, 103, 104, 105, 106, 107, 108, 109, 110] (by decide +kernel) (by decide +kernel)
set_option maxRecDepth 20000 in
theorem gX6_init_X3_init : GoodIn wsX6_init (wsX3_init) := ggX6_init_X3_init
set_option maxRecDepth 20000 in
theorem ggX6_init_X2_init : GoodIn wsX6_init wsX2_init := goodIn_r _ [56, 57, 2, 3, 29, 58, 59, 60, 61, 62, 125, 126, 127, 128, 129] (by decide +kernel) (by decide +kernel)
set_option maxRecDepth 20000 in
theorem gX6_init_X2_init : GoodIn wsX6_init (wsX2_init) := ggX6_init_X2_init
set_option maxRecDepth 20000 in
theorem ggX6_init_X5_init : GoodIn wsX6_init wsX5_init := goodIn_r _ [65, 66, 2, 3, 32, 67, 68, 69, 70, 71, 72, 13, 14, 73, 74, 75, 76, 77, 55, 56, 57, 29, 58, 59, 60, 61, 62, 130, 131, 132, 133, 134, 135, 136, 137, 138, 139, 140, 141, 142, 143, 125, 126, 127, 128, 129] (by decide +kernel) (by decide +kernel)
set_option maxRecDepth 20000 in
theorem gX6_init_X5_init : GoodIn wsX6_init (wsX5_init) := ggX6_init_X5_init
set_option maxRecDepth 20000 in
theorem ggX6_init_X4_init : GoodIn wsX6_init wsX4_init := goodIn_r _ [80, 81, 2, 3, 32, 82, 83, 84, 144, 145, 146, 147, 148, 149] (by decide +kernel) (by decide +kernel)
set_option maxRecDepth 20000 in
theorem gX6_init_X4_init : GoodIn wsX6_init (wsX4_init) := ggX6_init_X4_init
set_option maxRecDepth 20000 in
theorem ggX6_init_X0_init : GoodIn wsX6_init wsX0_init := goodIn_r _ [87, 88, 2, 3, 32, 89, 90, 91, 92, 93, 94, 95, 96, 97, 98, 99, 150, 151, 152, 153, 154, 155, 156, 157, 158, 159, 160, 161, 162, 163, 164] (by decide +kernel) (by decide +kernel)
set_option maxRecDepth 20000 in
theorem gX6_init_X0_init : GoodIn wsX6_init (wsX0_init) := ggX6_init_X0_init
theorem dX6_init_0 : decode cX6_init 0 = .ok (.aload_n 0, 1) := by decide +kernel
theorem dX6_init_1 : decode cX6_init 1 = .ok (.invokespecial 3, 3) := by decide +kernel
theorem dX6_init_4 : decode cX6_init 4 = .ok (.aload_n 0, 1) := by decide +kernel
theorem dX6_init_5 : decode cX6_init 5 = .ok (.new 9, 3) := by decide +kernel
theorem dX6_init_8 : decode cX6_init 8 = .ok (.dup, 1) := by decide +kernel
theorem dX6_init_9 : decode cX6_init 9 = .ok (.invokespecial 11, 3) := by decide +kernel
theorem dX6_init_12 : decode cX6_init 12 = .ok (.putfield 12, 3) := by decide +kernel
theorem dX6_init_15 : decode cX6_init 15 = .ok (.aload_n 0, 1) := by decide +kernel
theorem dX6_init_16 : decode cX6_init 16 = .ok (.new 16, 3) := by decide +kernel
theorem dX6_init_19 : decode cX6_init 19 = .ok (.dup, 1) := by decide +kernel
theorem dX6_init_20 : decode cX6_init 20 = .ok (.invokespecial 18, 3) := by decide +kernel
theorem dX6_init_23 : decode cX6_init 23 = .ok (.putfield 19, 3) := by decide +kernel
theorem dX6_init_26 : decode cX6_init 26 = .ok (.aload_n 0, 1) := by decide +kernel
theorem dX6_init_27 : decode cX6_init 27 = .ok (.new 23, 3) := by decide +kernel
theorem dX6_init_30 : decode cX6_init 30 = .ok (.dup, 1) := by decide +kernel
theorem dX6_init_31 : decode cX6_init 31 = .ok (.invokespecial 25, 3) := by decide +kernel
theorem dX6_init_34 : decode cX6_init 34 = .ok (.putfield 26, 3) := by decide +kernel
theorem dX6_init_37 : decode cX6_init 37 = .ok (.aload_n 0, 1) := by decide +kernel
theorem dX6_init_38 : decode cX6_init 38 = .ok (.new 23, 3) := by decide +kernel
theorem dX6_init_41 : decode cX6_init 41 = .ok (.dup, 1) := by decide +kernel
theorem dX6_init_42 : decode cX6_init 42 = .ok (.invokespecial 25, 3) := by decide +kernel
theorem dX6_init_45 : decode cX6_init 45 = .ok (.putfield 30, 3) := by decide +kernel
theorem dX6_init_48 : decode cX6_init 48 = .ok (.aload_n 0, 1) := by decide +kernel
theorem dX6_init_49 : decode cX6_init 49 = .ok (.new 33, 3) := by decide +kernel
theorem dX6_init_52 : decode cX6_init 52 = .ok (.dup, 1) := by decide +kernel
theorem dX6_init_53 : decode cX6_init 53 = .ok (.invokespecial 35, 3) := by decide +kernel
theorem dX6_init_56 : decode cX6_init 56 = .ok (.putfield 36, 3) := by decide +kernel
theorem dX6_init_59 : decode cX6_init 59 = .ok (.aload_n 0, 1) := by decide +kernel
theorem dX6_init_60 : decode cX6_init 60 = .ok (.new 40, 3) := by decide +kernel
theorem dX6_init_63 : decode cX6_init 63 = .ok (.dup, 1) := by decide +kernel
theorem dX6_init_64 : decode cX6_init 64 = .ok (.invokespecial 42, 3) := by decide +kernel
theorem dX6_init_67 : decode cX6_init 67 = .ok (.putfield 43, 3) := by decide +kernel
theorem dX6_init_70 : decode cX6_init 70 = .ok (.aload_n 0, 1) := by decide +kernel
theorem dX6_init_71 : decode cX6_init 71 = .ok (.new 47, 3) := by decide +kernel
theorem dX6_init_74 : decode cX6_init 74 = .ok (.dup, 1) := by decide +kernel
theorem dX6_init_75 : decode cX6_init 75 = .ok (.invokespecial 49, 3) := by decide +kernel
theorem dX6_init_78 : decode cX6_init 78 = .ok (.putfield 50, 3) := by decide +kernel
theorem dX6_init_81 : decode cX6_init 81 = .ok (.aload_n 0, 1) := by decide +kernel
theorem dX6_init_82 : decode cX6_init 82 = .ok (.iconst 5, 1) := by decide +kernel
theorem dX6_init_83 : decode cX6_init 83 = .ok (.newarray .long, 2) := by decide +kernel
theorem dX6_init_85 : decode cX6_init 85 = .ok (.putfield 54, 3) := by decide +kernel
theorem dX6_init_88 : decode cX6_init 88 = .ok (.aload_n 0, 1) := by decide +kernel
theorem dX6_init_89 : decode cX6_init 89 = .ok (.iconst 5, 1) := by decide +kernel
theorem dX6_init_90 : decode cX6_init 90 = .ok (.newarray .long, 2) := by decide +kernel
theorem dX6_init_92 : decode cX6_init 92 = .ok (.putfield 58, 3) := by decide +kernel
theorem dX6_init_95 : decode cX6_init 95 = .ok (.aload_n 0, 1) := by decide +kernel
theorem dX6_init_96 : decode cX6_init 96 = .ok (.bipush 64, 2) := by decide +kernel
theorem dX6_init_98 : decode cX6_init 98 = .ok (.newarray .int, 2) := by decide +kernel
theorem dX6_init_100 : decode cX6_init 100 = .ok (.putfield 61, 3) := by decide +kernel
theorem dX6_init_103 : decode cX6_init 103 = .ok (.aload_n 0, 1) := by decide +kernel
theorem dX6_init_104 : decode cX6_init 104 = .ok (.sipush 256, 3) := by decide +kernel
theorem dX6_init_107 : decode cX6_init 107 = .ok (.newarray .long, 2) := by decide +kernel
theorem dX6_init_109 : decode cX6_init 109 = .ok (.putfield 65, 3) := by decide +kernel
theorem dX6_init_112 : decode cX6_init 112 = .ok (.return_, 1) := by decide +kernel
set_option maxRecDepth 20000 in
theorem ggX6_factors_X3_keep : GoodIn wsX6_factors wsX3_keep := goodIn_r _ [7, 8, 9, 10, 11, 12, 13, 14, 15, 16, 17, 18, 19, 20, 21, 22, 23, 24, 25, 26, 27, 28, 29, 30, 31, 32, 33, 34, 62, 63, 64, 65, 66, 67, 68, 69, 70, 71, 72, 73, 74, 75] (by decide +kernel) (by decide +kernel)
set_option maxRecDepth 20000 in
theorem gX6_factors_X3_keep : GoodIn wsX6_factors (wsV RX6 68 RX3 yX3_keep wsX3_keep) := goodIn_app (goodIn_of _ (by decide +kernel)) ggX6_factors_X3_keep
set_option maxRecDepth 20000 in
theorem ggX6_factors_X1_restart : GoodIn wsX6_factors wsX1_restart := goodIn_r _ [38, 20, 21, 25, 31, 39, 40, 41, 42, 43, 44, 45, 18, 46, 30, 22, 47, 48, 49, 50, 33, 34, 24, 23, 65, 66, 67, 68, 69, 70, 71, 72, 73, 74, 75] (by decide +kernel) (by decide +kernel)
set_option maxRecDepth 20000 in
theorem gX6_factors_X1_restart : GoodIn wsX6_factors (wsV RX6 72 RX1 yX1_restart wsX1_restart) := goodIn_app (goodIn_of _ (by decide +kernel)) ggX6_factors_X1_restart
theorem dX6_factors_0 : decode cX6_factors 0 = .ok (.iload_n 1, 1) := by decide +kernel
theorem dX6_factors_1 : decode cX6_factors 1 = .ok (.iconst 1, 1) := by decide +kernel
theorem dX6_factors_2 : decode cX6_factors 2 = .ok (.if_icmp .lt 9, 3) := by decide +kernel
theorem dX6_factors_5 : decode cX6_factors 5 = .ok (.iload_n 1, 1) := by decide +kernel
theorem dX6_factors_6 : decode cX6_factors 6 = .ok (.bipush 6, 2) := by decide +kernel
theorem dX6_factors_8 : decode cX6_factors 8 = .ok (.if_icmp .le 5, 3) := by decide +kernel
theorem dX6_factors_11 : decode cX6_factors 11 = .ok (.iconst 0, 1) := by decide +kernel
theorem dX6_factors_12 : decode cX6_factors 12 = .ok (.ireturn, 1) := by decide +kernel
theorem dX6_factors_13 : decode cX6_factors 13 = .ok (.aload_n 0, 1) := by decide +kernel
theorem dX6_factors_14 : decode cX6_factors 14 = .ok (.getfield 19, 3) := by decide +kernel
theorem dX6_factors_17 : decode cX6_factors 17 = .ok (.aload_n 0, 1) := by decide +kernel
theorem dX6_factors_18 : decode cX6_factors 18 = .ok (.getfield 12, 3) := by decide +kernel
theorem dX6_factors_21 : decode cX6_factors 21 = .ok (.invokevirtual 68, 3) := by decide +kernel
theorem dX6_factors_24 : decode cX6_factors 24 = .ok (.aload_n 0, 1) := by decide +kernel
theorem dX6_factors_25 : decode cX6_factors 25 = .ok (.getfield 12, 3) := by decide +kernel
theorem dX6_factors_28 : decode cX6_factors 28 = .ok (.iload_n 1, 1) := by decide +kernel
theorem dX6_factors_29 : decode cX6_factors 29 = .ok (.invokevirtual 72, 3) := by decide +kernel
theorem dX6_factors_32 : decode cX6_factors 32 = .ok (.iconst 1, 1) := by decide +kernel
theorem dX6_factors_33 : decode cX6_factors 33 = .ok (.ireturn, 1) := by decide +kernel
set_option maxRecDepth 20000 in
theorem ggX6_term_X1_hasNumber : GoodIn wsX6_term wsX1_hasNumber := goodIn_r _ [9, 10, 11, 12, 8, 13, 14, 60, 61, 62, 63, 64, 65, 66, 67, 68, 69, 70] (by decide +kernel) (by decide +kernel)
set_option maxRecDepth 20000 in
theorem gX6_term_X1_hasNumber : GoodIn wsX6_term (wsV RX6 76 RX1 yX1_hasNumber wsX1_hasNumber) := goodIn_app (goodIn_of _ (by decide +kernel)) ggX6_term_X1_hasNumber
set_option maxRecDepth 20000 in
theorem ggX6_term_X1_hasTerm : GoodIn wsX6_term wsX1_hasTerm := goodIn_r _ [18, 19, 20, 60, 61, 62, 63, 64, 65, 66, 67, 68, 69, 70] (by decide +kernel) (by decide +kernel)
set_option maxRecDepth 20000 in
theorem gX6_term_X1_hasTerm : GoodIn wsX6_term (wsV RX6 80 RX1 yX1_hasTerm wsX1_hasTerm) := goodIn_app (goodIn_of _ (by decide +kernel)) ggX6_term_X1_hasTerm
set_option maxRecDepth 20000 in
theorem ggX6_term_X3_keep : GoodIn wsX6_term wsX3_keep := goodIn_r _ [25, 26, 27, 28, 29, 30, 31, 32, 33, 34, 35, 8, 36, 14, 19, 37, 38, 39, 20, 40, 41, 42, 43, 44, 45, 46, 47, 48, 71, 72, 73, 60, 61, 62, 63, 64, 65, 66, 67, 68, 69, 70] (by decide +kernel) (by decide +kernel)
set_option maxRecDepth 20000 in
theorem gX6_term_X3_keep : GoodIn wsX6_term (wsV RX6 68 RX3 yX3_keep wsX3_keep) := goodIn_app (goodIn_of _ (by decide +kernel)) ggX6_term_X3_keep
theorem dX6_term_0 : decode cX6_term 0 = .ok (.aload_n 0, 1) := by decide +kernel
theorem dX6_term_1 : decode cX6_term 1 = .ok (.getfield 12, 3) := by decide +kernel
theorem dX6_term_4 : decode cX6_term 4 = .ok (.iload_n 1, 1) := by decide +kernel
theorem dX6_term_5 : decode cX6_term 5 = .ok (.invokevirtual 76, 3) := by decide +kernel
theorem dX6_term_8 : decode cX6_term 8 = .ok (.ifCond .eq 25, 3) := by decide +kernel
theorem dX6_term_11 : decode cX6_term 11 = .ok (.aload_n 0, 1) := by decide +kernel
theorem dX6_term_12 : decode cX6_term 12 = .ok (.getfield 12, 3) := by decide +kernel
theorem dX6_term_15 : decode cX6_term 15 = .ok (.iload_n 1, 1) := by decide +kernel
theorem dX6_term_16 : decode cX6_term 16 = .ok (.invokevirtual 80, 3) := by decide +kernel
theorem dX6_term_19 : decode cX6_term 19 = .ok (.ifCond .ne 14, 3) := by decide +kernel
theorem dX6_term_22 : decode cX6_term 22 = .ok (.aload_n 0, 1) := by decide +kernel
theorem dX6_term_23 : decode cX6_term 23 = .ok (.getfield 12, 3) := by decide +kernel
theorem dX6_term_26 : decode cX6_term 26 = .ok (.getfield 83, 3) := by decide +kernel
theorem dX6_term_29 : decode cX6_term 29 = .ok (.iconst 5, 1) := by decide +kernel
theorem dX6_term_30 : decode cX6_term 30 = .ok (.if_icmp .lt 5, 3) := by decide +kernel
theorem dX6_term_33 : decode cX6_term 33 = .ok (.iconst (-1), 1) := by decide +kernel
theorem dX6_term_34 : decode cX6_term 34 = .ok (.ireturn, 1) := by decide +kernel
theorem dX6_term_35 : decode cX6_term 35 = .ok (.aload_n 0, 1) := by decide +kernel
theorem dX6_term_36 : decode cX6_term 36 = .ok (.getfield 19, 3) := by decide +kernel
theorem dX6_term_39 : decode cX6_term 39 = .ok (.aload_n 0, 1) := by decide +kernel
theorem dX6_term_40 : decode cX6_term 40 = .ok (.getfield 12, 3) := by decide +kernel
theorem dX6_term_43 : decode cX6_term 43 = .ok (.invokevirtual 68, 3) := by decide +kernel
theorem dX6_term_46 : decode cX6_term 46 = .ok (.aload_n 0, 1) := by decide +kernel
theorem dX6_term_47 : decode cX6_term 47 = .ok (.getfield 12, 3) := by decide +kernel
theorem dX6_term_50 : decode cX6_term 50 = .ok (.getfield 87, 3) := by decide +kernel
theorem dX6_term_53 : decode cX6_term 53 = .ok (.aload_n 0, 1) := by decide +kernel
theorem dX6_term_54 : decode cX6_term 54 = .ok (.getfield 12, 3) := by decide +kernel
theorem dX6_term_57 : decode cX6_term 57 = .ok (.getfield 83, 3) := by decide +kernel
theorem dX6_term_60 : decode cX6_term 60 = .ok (.iload_n 1, 1) := by decide +kernel
theorem dX6_term_61 : decode cX6_term 61 = .ok (.iastore, 1) := by decide +kernel
theorem dX6_term_62 : decode cX6_term 62 = .ok (.aload_n 0, 1) := by decide +kernel
theorem dX6_term_63 : decode cX6_term 63 = .ok (.getfield 12, 3) := by decide +kernel
theorem dX6_term_66 : decode cX6_term 66 = .ok (.dup, 1) := by decide +kernel
theorem dX6_term_67 : decode cX6_term 67 = .ok (.getfield 83, 3) := by decide +kernel
theorem dX6_term_70 : decode cX6_term 70 = .ok (.iconst 1, 1) := by decide +kernel
theorem dX6_term_71 : decode cX6_term 71 = .ok (.iadd, 1) := by decide +kernel
theorem dX6_term_72 : decode cX6_term 72 = .ok (.putfield 83, 3) := by decide +kernel
theorem dX6_term_75 : decode cX6_term 75 = .ok (.aload_n 0, 1) := by decide +kernel
theorem dX6_term_76 : decode cX6_term 76 = .ok (.getfield 12, 3) := by decide +kernel
theorem dX6_term_79 : decode cX6_term 79 = .ok (.getfield 83, 3) := by decide +kernel
theorem dX6_term_82 : decode cX6_term 82 = .ok (.ireturn, 1) := by decide +kernel
set_option maxRecDepth 20000 in
theorem ggX6_drop_X3_keep : GoodIn wsX6_drop wsX3_keep := goodIn_r _ [8, 9, 10, 11, 12, 13, 14, 15, 16, 17, 18, 19, 20, 21, 22, 23, 24, 25, 26, 27, 28, 29, 30, 31, 32, 33, 34, 35, 62, 63, 64, 51, 52, 53, 54, 55, 56, 57, 58, 59, 60, 61] (by decide +kernel) (by decide +kernel)
set_option maxRecDepth 20000 in
theorem gX6_drop_X3_keep : GoodIn wsX6_drop (wsV RX6 68 RX3 yX3_keep wsX3_keep) := goodIn_app (goodIn_of _ (by decide +kernel)) ggX6_drop_X3_keep
set_option maxRecDepth 20000 in
theorem ggX6_drop_X1_dropTerm : GoodIn wsX6_drop wsX1_dropTerm := goodIn_r _ [39, 22, 26, 51, 52, 53, 54, 55, 56, 57, 58, 59, 60, 61] (by decide +kernel) (by decide +kernel)
set_option maxRecDepth 20000 in
theorem gX6_drop_X1_dropTerm : GoodIn wsX6_drop (wsV RX6 90 RX1 yX1_dropTerm wsX1_dropTerm) := goodIn_app (goodIn_of _ (by decide +kernel)) ggX6_drop_X1_dropTerm
theorem dX6_drop_0 : decode cX6_drop 0 = .ok (.iload_n 1, 1) := by decide +kernel
theorem dX6_drop_1 : decode cX6_drop 1 = .ok (.ifCond .lt 25, 3) := by decide +kernel
theorem dX6_drop_4 : decode cX6_drop 4 = .ok (.iload_n 1, 1) := by decide +kernel
theorem dX6_drop_5 : decode cX6_drop 5 = .ok (.aload_n 0, 1) := by decide +kernel
theorem dX6_drop_6 : decode cX6_drop 6 = .ok (.getfield 12, 3) := by decide +kernel
theorem dX6_drop_9 : decode cX6_drop 9 = .ok (.getfield 83, 3) := by decide +kernel
theorem dX6_drop_12 : decode cX6_drop 12 = .ok (.if_icmp .ge 14, 3) := by decide +kernel
theorem dX6_drop_15 : decode cX6_drop 15 = .ok (.aload_n 0, 1) := by decide +kernel
theorem dX6_drop_16 : decode cX6_drop 16 = .ok (.getfield 12, 3) := by decide +kernel
theorem dX6_drop_19 : decode cX6_drop 19 = .ok (.getfield 83, 3) := by decide +kernel
theorem dX6_drop_22 : decode cX6_drop 22 = .ok (.iconst 1, 1) := by decide +kernel
theorem dX6_drop_23 : decode cX6_drop 23 = .ok (.if_icmp .ne 5, 3) := by decide +kernel
theorem dX6_drop_26 : decode cX6_drop 26 = .ok (.iconst 0, 1) := by decide +kernel
theorem dX6_drop_27 : decode cX6_drop 27 = .ok (.ireturn, 1) := by decide +kernel
theorem dX6_drop_28 : decode cX6_drop 28 = .ok (.aload_n 0, 1) := by decide +kernel
theorem dX6_drop_29 : decode cX6_drop 29 = .ok (.getfield 19, 3) := by decide +kernel
theorem dX6_drop_32 : decode cX6_drop 32 = .ok (.aload_n 0, 1) := by decide +kernel
theorem dX6_drop_33 : decode cX6_drop 33 = .ok (.getfield 12, 3) := by decide +kernel
theorem dX6_drop_36 : decode cX6_drop 36 = .ok (.invokevirtual 68, 3) := by decide +kernel
theorem dX6_drop_39 : decode cX6_drop 39 = .ok (.aload_n 0, 1) := by decide +kernel
theorem dX6_drop_40 : decode cX6_drop 40 = .ok (.getfield 12, 3) := by decide +kernel
theorem dX6_drop_43 : decode cX6_drop 43 = .ok (.iload_n 1, 1) := by decide +kernel
theorem dX6_drop_44 : decode cX6_drop 44 = .ok (.invokevirtual 90, 3) := by decide +kernel
theorem dX6_drop_47 : decode cX6_drop 47 = .ok (.iconst 1, 1) := by decide +kernel
theorem dX6_drop_48 : decode cX6_drop 48 = .ok (.ireturn, 1) := by decide +kernel
set_option maxRecDepth 20000 in
theorem ggX6_plan_X1_hasNumber : GoodIn wsX6_plan wsX1_hasNumber := goodIn_r _ [9, 10, 11, 12, 8, 13, 14, 60, 61, 62, 63, 64, 65, 66, 67, 68, 69, 70] (by decide +kernel) (by decide +kernel)
set_option maxRecDepth 20000 in
theorem gX6_plan_X1_hasNumber : GoodIn wsX6_plan (wsV RX6 76 RX1 yX1_hasNumber wsX1_hasNumber) := goodIn_app (goodIn_of _ (by decide +kernel)) ggX6_plan_X1_hasNumber
set_option maxRecDepth 20000 in
theorem ggX6_plan_X3_keep : GoodIn wsX6_plan wsX3_keep := goodIn_r _ [19, 20, 21, 22, 23, 24, 25, 26, 27, 28, 29, 8, 30, 14, 31, 32, 33, 34, 35, 36, 37, 38, 39, 40, 41, 42, 43, 44, 71, 72, 73, 60, 61, 62, 63, 64, 65, 66, 67, 68, 69, 70] (by decide +kernel) (by decide +kernel)
set_option maxRecDepth 20000 in
theorem gX6_plan_X3_keep : GoodIn wsX6_plan (wsV RX6 68 RX3 yX3_keep wsX3_keep) := goodIn_app (goodIn_of _ (by decide +kernel)) ggX6_plan_X3_keep
set_option maxRecDepth 20000 in
theorem ggX6_plan_X1_tryTimes : GoodIn wsX6_plan wsX1_tryTimes := goodIn_r _ [48, 32, 40, 60, 61, 62, 63, 64, 65, 66, 67, 68, 69, 70] (by decide +kernel) (by decide +kernel)
set_option maxRecDepth 20000 in
theorem gX6_plan_X1_tryTimes : GoodIn wsX6_plan (wsV RX6 99 RX1 yX1_tryTimes wsX1_tryTimes) := goodIn_app (goodIn_of _ (by decide +kernel)) ggX6_plan_X1_tryTimes
theorem dX6_plan_0 : decode cX6_plan 0 = .ok (.aload_n 0, 1) := by decide +kernel
theorem dX6_plan_1 : decode cX6_plan 1 = .ok (.getfield 12, 3) := by decide +kernel
theorem dX6_plan_4 : decode cX6_plan 4 = .ok (.iload_n 1, 1) := by decide +kernel
theorem dX6_plan_5 : decode cX6_plan 5 = .ok (.invokevirtual 76, 3) := by decide +kernel
theorem dX6_plan_8 : decode cX6_plan 8 = .ok (.ifCond .eq 13, 3) := by decide +kernel
theorem dX6_plan_11 : decode cX6_plan 11 = .ok (.iload_n 2, 1) := by decide +kernel
theorem dX6_plan_12 : decode cX6_plan 12 = .ok (.ifCond .lt 9, 3) := by decide +kernel
theorem dX6_plan_15 : decode cX6_plan 15 = .ok (.iload_n 2, 1) := by decide +kernel
theorem dX6_plan_16 : decode cX6_plan 16 = .ok (.bipush 9, 2) := by decide +kernel
theorem dX6_plan_18 : decode cX6_plan 18 = .ok (.if_icmp .le 5, 3) := by decide +kernel
theorem dX6_plan_21 : decode cX6_plan 21 = .ok (.iconst 0, 1) := by decide +kernel
theorem dX6_plan_22 : decode cX6_plan 22 = .ok (.ireturn, 1) := by decide +kernel
theorem dX6_plan_23 : decode cX6_plan 23 = .ok (.aload_n 0, 1) := by decide +kernel
theorem dX6_plan_24 : decode cX6_plan 24 = .ok (.getfield 12, 3) := by decide +kernel
theorem dX6_plan_27 : decode cX6_plan 27 = .ok (.getfield 93, 3) := by decide +kernel
theorem dX6_plan_30 : decode cX6_plan 30 = .ok (.aload_n 0, 1) := by decide +kernel
theorem dX6_plan_31 : decode cX6_plan 31 = .ok (.getfield 12, 3) := by decide +kernel
theorem dX6_plan_34 : decode cX6_plan 34 = .ok (.getfield 96, 3) := by decide +kernel
theorem dX6_plan_37 : decode cX6_plan 37 = .ok (.iload_n 1, 1) := by decide +kernel
theorem dX6_plan_38 : decode cX6_plan 38 = .ok (.iaload, 1) := by decide +kernel
theorem dX6_plan_39 : decode cX6_plan 39 = .ok (.isub, 1) := by decide +kernel
theorem dX6_plan_40 : decode cX6_plan 40 = .ok (.iload_n 2, 1) := by decide +kernel
theorem dX6_plan_41 : decode cX6_plan 41 = .ok (.iadd, 1) := by decide +kernel
theorem dX6_plan_42 : decode cX6_plan 42 = .ok (.bipush 40, 2) := by decide +kernel
theorem dX6_plan_44 : decode cX6_plan 44 = .ok (.if_icmp .le 5, 3) := by decide +kernel
theorem dX6_plan_47 : decode cX6_plan 47 = .ok (.iconst 0, 1) := by decide +kernel
theorem dX6_plan_48 : decode cX6_plan 48 = .ok (.ireturn, 1) := by decide +kernel
theorem dX6_plan_49 : decode cX6_plan 49 = .ok (.aload_n 0, 1) := by decide +kernel
theorem dX6_plan_50 : decode cX6_plan 50 = .ok (.getfield 19, 3) := by decide +kernel
theorem dX6_plan_53 : decode cX6_plan 53 = .ok (.aload_n 0, 1) := by decide +kernel
theorem dX6_plan_54 : decode cX6_plan 54 = .ok (.getfield 12, 3) := by decide +kernel
theorem dX6_plan_57 : decode cX6_plan 57 = .ok (.invokevirtual 68, 3) := by decide +kernel
theorem dX6_plan_60 : decode cX6_plan 60 = .ok (.aload_n 0, 1) := by decide +kernel
theorem dX6_plan_61 : decode cX6_plan 61 = .ok (.getfield 12, 3) := by decide +kernel
theorem dX6_plan_64 : decode cX6_plan 64 = .ok (.iload_n 1, 1) := by decide +kernel
theorem dX6_plan_65 : decode cX6_plan 65 = .ok (.iload_n 2, 1) := by decide +kernel
theorem dX6_plan_66 : decode cX6_plan 66 = .ok (.invokevirtual 99, 3) := by decide +kernel
theorem dX6_plan_69 : decode cX6_plan 69 = .ok (.iconst 1, 1) := by decide +kernel
theorem dX6_plan_70 : decode cX6_plan 70 = .ok (.ireturn, 1) := by decide +kernel
set_option maxRecDepth 20000 in
theorem ggX6_clear_X3_keep : GoodIn wsX6_clear wsX3_keep := goodIn_r _ [7, 8, 9, 10, 11, 12, 13, 14, 15, 16, 17, 18, 19, 20, 21, 22, 23, 24, 25, 26, 27, 28, 29, 30, 31, 32, 33, 34, 54, 55, 56, 57, 58, 59, 60, 61, 62, 63, 64, 65, 66, 67] (by decide +kernel) (by decide +kernel)
set_option maxRecDepth 20000 in
theorem gX6_clear_X3_keep : GoodIn wsX6_clear (wsV RX6 68 RX3 yX3_keep wsX3_keep) := goodIn_app (goodIn_of _ (by decide +kernel)) ggX6_clear_X3_keep
set_option maxRecDepth 20000 in
theorem ggX6_clear_X1_tryNothing : GoodIn wsX6_clear wsX1_tryNothing := goodIn_r _ [38, 30, 22, 39, 40, 41, 42, 57, 58, 59, 60, 61, 62, 63, 64, 65, 66, 67] (by decide +kernel) (by decide +kernel)
set_option maxRecDepth 20000 in
theorem gX6_clear_X1_tryNothing : GoodIn wsX6_clear (wsV RX6 103 RX1 yX1_tryNothing wsX1_tryNothing) := goodIn_app (goodIn_of _ (by decide +kernel)) ggX6_clear_X1_tryNothing
theorem dX6_clear_0 : decode cX6_clear 0 = .ok (.aload_n 0, 1) := by decide +kernel
theorem dX6_clear_1 : decode cX6_clear 1 = .ok (.getfield 19, 3) := by decide +kernel
theorem dX6_clear_4 : decode cX6_clear 4 = .ok (.aload_n 0, 1) := by decide +kernel
theorem dX6_clear_5 : decode cX6_clear 5 = .ok (.getfield 12, 3) := by decide +kernel
theorem dX6_clear_8 : decode cX6_clear 8 = .ok (.invokevirtual 68, 3) := by decide +kernel
theorem dX6_clear_11 : decode cX6_clear 11 = .ok (.aload_n 0, 1) := by decide +kernel
theorem dX6_clear_12 : decode cX6_clear 12 = .ok (.getfield 12, 3) := by decide +kernel
theorem dX6_clear_15 : decode cX6_clear 15 = .ok (.invokevirtual 103, 3) := by decide +kernel
theorem dX6_clear_18 : decode cX6_clear 18 = .ok (.return_, 1) := by decide +kernel
set_option maxRecDepth 20000 in
theorem ggX6_about_X1_triedSettings : GoodIn wsX6_about wsX1_triedSettings := goodIn_r _ [12, 13, 90, 91, 92, 93, 94, 95, 96, 97, 98, 99, 100] (by decide +kernel) (by decide +kernel)
set_option maxRecDepth 20000 in
theorem gX6_about_X1_triedSettings : GoodIn wsX6_about (wsV RX6 109 RX1 yX1_triedSettings wsX1_triedSettings) := goodIn_app (goodIn_of _ (by decide +kernel)) ggX6_about_X1_triedSettings
set_option maxRecDepth 20000 in
theorem ggX6_about_X6_sweepPlan : GoodIn wsX6_about wsX6_sweepPlan := goodIn_r _ [18, 5, 1, 19, 20, 21, 22, 23, 24, 25, 26, 27, 28, 29, 30, 31, 32, 33, 34, 35, 36, 37, 38, 11, 39, 40, 41, 42, 43, 44, 45, 46, 47, 48, 49, 50, 51, 52, 53, 54, 55, 56, 57, 58, 59, 60, 61, 62, 63, 64, 65, 66, 67, 68, 69, 70, 71, 72, 79, 80, 81, 82, 83, 84, 85, 86, 87, 88, 89, 90, 91, 92, 93, 94, 95, 96, 97, 98, 99, 100, 101, 102, 103, 104, 105] (by decide +kernel) (by decide +kernel)
set_option maxRecDepth 20000 in
theorem gX6_about_X6_sweepPlan : GoodIn wsX6_about (wsV RX6 113 RX6 yX6_sweepPlan wsX6_sweepPlan) := goodIn_app (goodIn_of _ (by decide +kernel)) ggX6_about_X6_sweepPlan
set_option maxRecDepth 20000 in
theorem ggX6_about_X6_aboutOne : GoodIn wsX6_about wsX6_aboutOne := goodIn_r _ [76, 1, 3, 77, 19, 78, 37, 38, 11, 39, 40, 79, 80, 81, 82, 83, 84, 85, 86, 87, 88, 89, 90, 91, 92, 93, 94, 95, 96, 97, 98, 99, 100] (by decide +kernel) (by decide +kernel)
set_option maxRecDepth 20000 in
theorem gX6_about_X6_aboutOne : GoodIn wsX6_about (wsV RX6 122 RX6 yX6_aboutOne wsX6_aboutOne) := goodIn_app (goodIn_of _ (by decide +kernel)) ggX6_about_X6_aboutOne
theorem dX6_about_0 : decode cX6_about 0 = .ok (.iload_n 1, 1) := by decide +kernel
theorem dX6_about_1 : decode cX6_about 1 = .ok (.tableswitch 91 0 5 #[39, 47, 55, 63, 71, 83], 39) := by decide +kernel
theorem dX6_about_40 : decode cX6_about 40 = .ok (.aload_n 0, 1) := by decide +kernel
theorem dX6_about_41 : decode cX6_about 41 = .ok (.getfield 12, 3) := by decide +kernel
theorem dX6_about_44 : decode cX6_about 44 = .ok (.getfield 106, 3) := by decide +kernel
theorem dX6_about_47 : decode cX6_about 47 = .ok (.ireturn, 1) := by decide +kernel
theorem dX6_about_48 : decode cX6_about 48 = .ok (.aload_n 0, 1) := by decide +kernel
theorem dX6_about_49 : decode cX6_about 49 = .ok (.getfield 12, 3) := by decide +kernel
theorem dX6_about_52 : decode cX6_about 52 = .ok (.getfield 83, 3) := by decide +kernel
theorem dX6_about_55 : decode cX6_about 55 = .ok (.ireturn, 1) := by decide +kernel
theorem dX6_about_56 : decode cX6_about 56 = .ok (.aload_n 0, 1) := by decide +kernel
theorem dX6_about_57 : decode cX6_about 57 = .ok (.getfield 12, 3) := by decide +kernel
theorem dX6_about_60 : decode cX6_about 60 = .ok (.getfield 93, 3) := by decide +kernel
theorem dX6_about_63 : decode cX6_about 63 = .ok (.ireturn, 1) := by decide +kernel
theorem dX6_about_64 : decode cX6_about 64 = .ok (.aload_n 0, 1) := by decide +kernel
theorem dX6_about_65 : decode cX6_about 65 = .ok (.getfield 12, 3) := by decide +kernel
theorem dX6_about_68 : decode cX6_about 68 = .ok (.invokevirtual 109, 3) := by decide +kernel
theorem dX6_about_71 : decode cX6_about 71 = .ok (.ireturn, 1) := by decide +kernel
theorem dX6_about_72 : decode cX6_about 72 = .ok (.aload_n 0, 1) := by decide +kernel
theorem dX6_about_73 : decode cX6_about 73 = .ok (.invokevirtual 113, 3) := by decide +kernel
theorem dX6_about_76 : decode cX6_about 76 = .ok (.aload_n 0, 1) := by decide +kernel
theorem dX6_about_77 : decode cX6_about 77 = .ok (.getfield 26, 3) := by decide +kernel
theorem dX6_about_80 : decode cX6_about 80 = .ok (.getfield 116, 3) := by decide +kernel
theorem dX6_about_83 : decode cX6_about 83 = .ok (.ireturn, 1) := by decide +kernel
theorem dX6_about_84 : decode cX6_about 84 = .ok (.aload_n 0, 1) := by decide +kernel
theorem dX6_about_85 : decode cX6_about 85 = .ok (.getfield 12, 3) := by decide +kernel
theorem dX6_about_88 : decode cX6_about 88 = .ok (.getfield 119, 3) := by decide +kernel
theorem dX6_about_91 : decode cX6_about 91 = .ok (.ireturn, 1) := by decide +kernel
theorem dX6_about_92 : decode cX6_about 92 = .ok (.aload_n 0, 1) := by decide +kernel
theorem dX6_about_93 : decode cX6_about 93 = .ok (.iload_n 1, 1) := by decide +kernel
theorem dX6_about_94 : decode cX6_about 94 = .ok (.invokevirtual 122, 3) := by decide +kernel
theorem dX6_about_97 : decode cX6_about 97 = .ok (.ireturn, 1) := by decide +kernel
set_option maxRecDepth 20000 in
theorem ggX6_aboutOne_X1_settingCount : GoodIn wsX6_aboutOne wsX1_settingCount := goodIn_r _ [9, 10, 22, 23, 24, 25, 26, 27, 28, 29, 30, 31, 32] (by decide +kernel) (by decide +kernel)
set_option maxRecDepth 20000 in
theorem gX6_aboutOne_X1_settingCount : GoodIn wsX6_aboutOne (wsV RX6 126 RX1 yX1_settingCount wsX1_settingCount) := goodIn_app (goodIn_of _ (by decide +kernel)) ggX6_aboutOne_X1_settingCount
theorem dX6_aboutOne_0 : decode cX6_aboutOne 0 = .ok (.iload_n 1, 1) := by decide +kernel
theorem dX6_aboutOne_1 : decode cX6_aboutOne 1 = .ok (.bipush 10, 2) := by decide +kernel
theorem dX6_aboutOne_3 : decode cX6_aboutOne 3 = .ok (.if_icmp .lt 30, 3) := by decide +kernel
theorem dX6_aboutOne_6 : decode cX6_aboutOne 6 = .ok (.iload_n 1, 1) := by decide +kernel
theorem dX6_aboutOne_7 : decode cX6_aboutOne 7 = .ok (.bipush 10, 2) := by decide +kernel
theorem dX6_aboutOne_9 : decode cX6_aboutOne 9 = .ok (.aload_n 0, 1) := by decide +kernel
theorem dX6_aboutOne_10 : decode cX6_aboutOne 10 = .ok (.getfield 12, 3) := by decide +kernel
theorem dX6_aboutOne_13 : decode cX6_aboutOne 13 = .ok (.getfield 83, 3) := by decide +kernel
theorem dX6_aboutOne_16 : decode cX6_aboutOne 16 = .ok (.iadd, 1) := by decide +kernel
theorem dX6_aboutOne_17 : decode cX6_aboutOne 17 = .ok (.if_icmp .ge 16, 3) := by decide +kernel
theorem dX6_aboutOne_20 : decode cX6_aboutOne 20 = .ok (.aload_n 0, 1) := by decide +kernel
theorem dX6_aboutOne_21 : decode cX6_aboutOne 21 = .ok (.getfield 12, 3) := by decide +kernel
theorem dX6_aboutOne_24 : decode cX6_aboutOne 24 = .ok (.getfield 87, 3) := by decide +kernel
theorem dX6_aboutOne_27 : decode cX6_aboutOne 27 = .ok (.iload_n 1, 1) := by decide +kernel
theorem dX6_aboutOne_28 : decode cX6_aboutOne 28 = .ok (.bipush 10, 2) := by decide +kernel
theorem dX6_aboutOne_30 : decode cX6_aboutOne 30 = .ok (.isub, 1) := by decide +kernel
theorem dX6_aboutOne_31 : decode cX6_aboutOne 31 = .ok (.iaload, 1) := by decide +kernel
theorem dX6_aboutOne_32 : decode cX6_aboutOne 32 = .ok (.ireturn, 1) := by decide +kernel
theorem dX6_aboutOne_33 : decode cX6_aboutOne 33 = .ok (.iload_n 1, 1) := by decide +kernel
theorem dX6_aboutOne_34 : decode cX6_aboutOne 34 = .ok (.bipush 100, 2) := by decide +kernel
theorem dX6_aboutOne_36 : decode cX6_aboutOne 36 = .ok (.if_icmp .lt 30, 3) := by decide +kernel
theorem dX6_aboutOne_39 : decode cX6_aboutOne 39 = .ok (.iload_n 1, 1) := by decide +kernel
theorem dX6_aboutOne_40 : decode cX6_aboutOne 40 = .ok (.bipush 100, 2) := by decide +kernel
theorem dX6_aboutOne_42 : decode cX6_aboutOne 42 = .ok (.aload_n 0, 1) := by decide +kernel
theorem dX6_aboutOne_43 : decode cX6_aboutOne 43 = .ok (.getfield 12, 3) := by decide +kernel
theorem dX6_aboutOne_46 : decode cX6_aboutOne 46 = .ok (.invokevirtual 126, 3) := by decide +kernel
theorem dX6_aboutOne_49 : decode cX6_aboutOne 49 = .ok (.iadd, 1) := by decide +kernel
theorem dX6_aboutOne_50 : decode cX6_aboutOne 50 = .ok (.if_icmp .ge 16, 3) := by decide +kernel
theorem dX6_aboutOne_53 : decode cX6_aboutOne 53 = .ok (.aload_n 0, 1) := by decide +kernel
theorem dX6_aboutOne_54 : decode cX6_aboutOne 54 = .ok (.getfield 12, 3) := by decide +kernel
theorem dX6_aboutOne_57 : decode cX6_aboutOne 57 = .ok (.getfield 96, 3) := by decide +kernel
theorem dX6_aboutOne_60 : decode cX6_aboutOne 60 = .ok (.iload_n 1, 1) := by decide +kernel
theorem dX6_aboutOne_61 : decode cX6_aboutOne 61 = .ok (.bipush 100, 2) := by decide +kernel
theorem dX6_aboutOne_63 : decode cX6_aboutOne 63 = .ok (.isub, 1) := by decide +kernel
theorem dX6_aboutOne_64 : decode cX6_aboutOne 64 = .ok (.iaload, 1) := by decide +kernel
theorem dX6_aboutOne_65 : decode cX6_aboutOne 65 = .ok (.ireturn, 1) := by decide +kernel
theorem dX6_aboutOne_66 : decode cX6_aboutOne 66 = .ok (.iconst (-1), 1) := by decide +kernel
theorem dX6_aboutOne_67 : decode cX6_aboutOne 67 = .ok (.ireturn, 1) := by decide +kernel
set_option maxRecDepth 20000 in
theorem ggX6_mark_X1_hasNumber : GoodIn wsX6_mark wsX1_hasNumber := goodIn_r _ [6, 7, 8, 9, 5, 10, 11, 33, 34, 35, 36, 37, 38, 39, 40, 41, 42, 43] (by decide +kernel) (by decide +kernel)
set_option maxRecDepth 20000 in
theorem gX6_mark_X1_hasNumber : GoodIn wsX6_mark (wsV RX6 76 RX1 yX1_hasNumber wsX1_hasNumber) := goodIn_app (goodIn_of _ (by decide +kernel)) ggX6_mark_X1_hasNumber
set_option maxRecDepth 20000 in
theorem ggX6_mark_X1_markOf : GoodIn wsX6_mark wsX1_markOf := goodIn_r _ [14, 15, 16, 17, 18, 19, 20, 21] (by decide +kernel) (by decide +kernel)
set_option maxRecDepth 20000 in
theorem gX6_mark_X1_markOf : GoodIn wsX6_mark (va_wsS RX6 129 yX1_markOf wsX1_markOf) := goodIn_app (goodIn_of _ (by decide +kernel)) ggX6_mark_X1_markOf
theorem dX6_mark_0 : decode cX6_mark 0 = .ok (.aload_n 0, 1) := by decide +kernel
theorem dX6_mark_1 : decode cX6_mark 1 = .ok (.getfield 12, 3) := by decide +kernel
theorem dX6_mark_4 : decode cX6_mark 4 = .ok (.iload_n 1, 1) := by decide +kernel
theorem dX6_mark_5 : decode cX6_mark 5 = .ok (.invokevirtual 76, 3) := by decide +kernel
theorem dX6_mark_8 : decode cX6_mark 8 = .ok (.ifCond .eq 14, 3) := by decide +kernel
theorem dX6_mark_11 : decode cX6_mark 11 = .ok (.aload_n 0, 1) := by decide +kernel
theorem dX6_mark_12 : decode cX6_mark 12 = .ok (.getfield 12, 3) := by decide +kernel
theorem dX6_mark_15 : decode cX6_mark 15 = .ok (.iload_n 2, 1) := by decide +kernel
theorem dX6_mark_16 : decode cX6_mark 16 = .ok (.invokevirtual 76, 3) := by decide +kernel
theorem dX6_mark_19 : decode cX6_mark 19 = .ok (.ifCond .ne 5, 3) := by decide +kernel
theorem dX6_mark_22 : decode cX6_mark 22 = .ok (.iconst 0, 1) := by decide +kernel
theorem dX6_mark_23 : decode cX6_mark 23 = .ok (.ireturn, 1) := by decide +kernel
theorem dX6_mark_24 : decode cX6_mark 24 = .ok (.iload_n 1, 1) := by decide +kernel
theorem dX6_mark_25 : decode cX6_mark 25 = .ok (.iload_n 2, 1) := by decide +kernel
theorem dX6_mark_26 : decode cX6_mark 26 = .ok (.invokestatic 129, 3) := by decide +kernel
theorem dX6_mark_29 : decode cX6_mark 29 = .ok (.ireturn, 1) := by decide +kernel
set_option maxRecDepth 20000 in
theorem ggX6_table_X2_fill : GoodIn wsX6_table wsX2_fill := goodIn_r _ [10, 11, 12, 13, 14, 9, 15, 16, 17, 18, 19, 20, 21, 22, 23, 24, 25, 26, 27, 28, 29, 30, 31, 32, 33, 34, 35, 36, 37, 38, 39, 40, 41, 42, 43, 44, 45, 60, 61, 62, 63, 64, 65, 66, 67, 68, 69, 70, 71, 72, 73, 74, 75] (by decide +kernel) (by decide +kernel)
set_option maxRecDepth 20000 in
theorem gX6_table_X2_fill : GoodIn wsX6_table (wsV RX6 133 RX2 yX2_fill wsX2_fill) := goodIn_app (goodIn_of _ (by decide +kernel)) ggX6_table_X2_fill
set_option maxRecDepth 20000 in
theorem ggX6_table_X2_cellAt : GoodIn wsX6_table wsX2_cellAt := goodIn_r _ [48, 45] (by decide +kernel) (by decide +kernel)
set_option maxRecDepth 20000 in
theorem gX6_table_X2_cellAt : GoodIn wsX6_table (va_wsS RX6 140 yX2_cellAt wsX2_cellAt) := goodIn_app (goodIn_of _ (by decide +kernel)) ggX6_table_X2_cellAt
theorem dX6_table_0 : decode cX6_table 0 = .ok (.iload_n 1, 1) := by decide +kernel
theorem dX6_table_1 : decode cX6_table 1 = .ok (.ifCond .lt 29, 3) := by decide +kernel
theorem dX6_table_4 : decode cX6_table 4 = .ok (.iload_n 1, 1) := by decide +kernel
theorem dX6_table_5 : decode cX6_table 5 = .ok (.aload_n 0, 1) := by decide +kernel
theorem dX6_table_6 : decode cX6_table 6 = .ok (.getfield 12, 3) := by decide +kernel
theorem dX6_table_9 : decode cX6_table 9 = .ok (.getfield 83, 3) := by decide +kernel
theorem dX6_table_12 : decode cX6_table 12 = .ok (.if_icmp .ge 18, 3) := by decide +kernel
theorem dX6_table_15 : decode cX6_table 15 = .ok (.iload_n 2, 1) := by decide +kernel
theorem dX6_table_16 : decode cX6_table 16 = .ok (.ifCond .lt 14, 3) := by decide +kernel
theorem dX6_table_19 : decode cX6_table 19 = .ok (.iload_n 2, 1) := by decide +kernel
theorem dX6_table_20 : decode cX6_table 20 = .ok (.aload_n 0, 1) := by decide +kernel
theorem dX6_table_21 : decode cX6_table 21 = .ok (.getfield 12, 3) := by decide +kernel
theorem dX6_table_24 : decode cX6_table 24 = .ok (.getfield 83, 3) := by decide +kernel
theorem dX6_table_27 : decode cX6_table 27 = .ok (.if_icmp .lt 7, 3) := by decide +kernel
theorem dX6_table_30 : decode cX6_table 30 = .ok (.sipush (-1000), 3) := by decide +kernel
theorem dX6_table_33 : decode cX6_table 33 = .ok (.ireturn, 1) := by decide +kernel
theorem dX6_table_34 : decode cX6_table 34 = .ok (.aload_n 0, 1) := by decide +kernel
theorem dX6_table_35 : decode cX6_table 35 = .ok (.getfield 26, 3) := by decide +kernel
theorem dX6_table_38 : decode cX6_table 38 = .ok (.aload_n 0, 1) := by decide +kernel
theorem dX6_table_39 : decode cX6_table 39 = .ok (.getfield 12, 3) := by decide +kernel
theorem dX6_table_42 : decode cX6_table 42 = .ok (.aload_n 0, 1) := by decide +kernel
theorem dX6_table_43 : decode cX6_table 43 = .ok (.getfield 12, 3) := by decide +kernel
theorem dX6_table_46 : decode cX6_table 46 = .ok (.getfield 96, 3) := by decide +kernel
theorem dX6_table_49 : decode cX6_table 49 = .ok (.invokevirtual 133, 3) := by decide +kernel
theorem dX6_table_52 : decode cX6_table 52 = .ok (.aload_n 0, 1) := by decide +kernel
theorem dX6_table_53 : decode cX6_table 53 = .ok (.getfield 26, 3) := by decide +kernel
theorem dX6_table_56 : decode cX6_table 56 = .ok (.getfield 137, 3) := by decide +kernel
theorem dX6_table_59 : decode cX6_table 59 = .ok (.iload_n 1, 1) := by decide +kernel
theorem dX6_table_60 : decode cX6_table 60 = .ok (.iload_n 2, 1) := by decide +kernel
theorem dX6_table_61 : decode cX6_table 61 = .ok (.invokestatic 140, 3) := by decide +kernel
theorem dX6_table_64 : decode cX6_table 64 = .ok (.laload, 1) := by decide +kernel
theorem dX6_table_65 : decode cX6_table 65 = .ok (.l2i, 1) := by decide +kernel
theorem dX6_table_66 : decode cX6_table 66 = .ok (.ireturn, 1) := by decide +kernel
set_option maxRecDepth 20000 in
theorem ggX6_worth_X2_fill : GoodIn wsX6_worth wsX2_fill := goodIn_r _ [8, 9, 10, 11, 12, 7, 13, 14, 15, 16, 17, 18, 19, 20, 21, 22, 23, 24, 25, 26, 27, 28, 29, 30, 31, 32, 33, 34, 35, 36, 37, 38, 39, 40, 41, 42, 43, 59, 60, 61, 62, 63, 64, 65, 66, 67, 68, 69, 70, 71, 72, 73, 74] (by decide +kernel) (by decide +kernel)
set_option maxRecDepth 20000 in
theorem gX6_worth_X2_fill : GoodIn wsX6_worth (wsV RX6 133 RX2 yX2_fill wsX2_fill) := goodIn_app (goodIn_of _ (by decide +kernel)) ggX6_worth_X2_fill
set_option maxRecDepth 20000 in
theorem ggX6_worth_X2_determinant : GoodIn wsX6_worth wsX2_determinant := goodIn_r _ [47, 14, 15, 43, 70, 71, 72, 73, 74] (by decide +kernel) (by decide +kernel)
set_option maxRecDepth 20000 in
theorem gX6_worth_X2_determinant : GoodIn wsX6_worth (wsV RX6 143 RX2 yX2_determinant wsX2_determinant) := goodIn_app (goodIn_of _ (by decide +kernel)) ggX6_worth_X2_determinant
theorem dX6_worth_0 : decode cX6_worth 0 = .ok (.aload_n 0, 1) := by decide +kernel
theorem dX6_worth_1 : decode cX6_worth 1 = .ok (.getfield 26, 3) := by decide +kernel
theorem dX6_worth_4 : decode cX6_worth 4 = .ok (.aload_n 0, 1) := by decide +kernel
theorem dX6_worth_5 : decode cX6_worth 5 = .ok (.getfield 12, 3) := by decide +kernel
theorem dX6_worth_8 : decode cX6_worth 8 = .ok (.aload_n 0, 1) := by decide +kernel
theorem dX6_worth_9 : decode cX6_worth 9 = .ok (.getfield 12, 3) := by decide +kernel
theorem dX6_worth_12 : decode cX6_worth 12 = .ok (.getfield 96, 3) := by decide +kernel
theorem dX6_worth_15 : decode cX6_worth 15 = .ok (.invokevirtual 133, 3) := by decide +kernel
theorem dX6_worth_18 : decode cX6_worth 18 = .ok (.aload_n 0, 1) := by decide +kernel
theorem dX6_worth_19 : decode cX6_worth 19 = .ok (.getfield 26, 3) := by decide +kernel
theorem dX6_worth_22 : decode cX6_worth 22 = .ok (.invokevirtual 143, 3) := by decide +kernel
theorem dX6_worth_25 : decode cX6_worth 25 = .ok (.lreturn, 1) := by decide +kernel
set_option maxRecDepth 20000 in
theorem ggX6_known_X6_takeSum : GoodIn wsX6_known wsX6_takeSum := goodIn_r _ [7, 2, 8, 9, 10, 11, 75, 76, 77, 78, 79, 80, 81, 82, 83, 84, 85, 86, 87, 88, 89, 90, 91, 92, 93, 94, 95, 96] (by decide +kernel) (by decide +kernel)
set_option maxRecDepth 20000 in
theorem gX6_known_X6_takeSum : GoodIn wsX6_known (wsV RX6 147 RX6 yX6_takeSum wsX6_takeSum) := goodIn_app (goodIn_of _ (by decide +kernel)) ggX6_known_X6_takeSum
set_option maxRecDepth 20000 in
theorem ggX6_known_X6_sweepPlan : GoodIn wsX6_known wsX6_sweepPlan := goodIn_r _ [15, 1, 8, 16, 17, 18, 19, 20, 21, 22, 23, 24, 25, 26, 27, 28, 29, 30, 31, 32, 33, 34, 35, 36, 37, 38, 39, 40, 41, 42, 43, 44, 45, 46, 47, 48, 49, 50, 51, 52, 53, 54, 55, 56, 57, 58, 59, 60, 61, 62, 63, 64, 65, 66, 67, 68, 69, 70, 75, 76, 77, 78, 79, 80, 81, 82, 83, 84, 85, 86, 87, 88, 89, 90, 91, 92, 93, 94, 95, 96, 97, 98, 99, 100, 101] (by decide +kernel) (by decide +kernel)
set_option maxRecDepth 20000 in
theorem gX6_known_X6_sweepPlan : GoodIn wsX6_known (wsV RX6 113 RX6 yX6_sweepPlan wsX6_sweepPlan) := goodIn_app (goodIn_of _ (by decide +kernel)) ggX6_known_X6_sweepPlan
set_option maxRecDepth 20000 in
theorem ggX6_known_X2_reaches : GoodIn wsX6_known wsX2_reaches := goodIn_r _ [74, 27, 63, 28, 61, 68, 69, 20, 70, 56, 97, 98, 99, 100, 101] (by decide +kernel) (by decide +kernel)
set_option maxRecDepth 20000 in
theorem gX6_known_X2_reaches : GoodIn wsX6_known (wsV RX6 151 RX2 yX2_reaches wsX2_reaches) := goodIn_app (goodIn_of _ (by decide +kernel)) ggX6_known_X2_reaches
theorem dX6_known_0 : decode cX6_known 0 = .ok (.aload_n 0, 1) := by decide +kernel
theorem dX6_known_1 : decode cX6_known 1 = .ok (.iload_n 1, 1) := by decide +kernel
theorem dX6_known_2 : decode cX6_known 2 = .ok (.iload_n 2, 1) := by decide +kernel
theorem dX6_known_3 : decode cX6_known 3 = .ok (.iload_n 3, 1) := by decide +kernel
theorem dX6_known_4 : decode cX6_known 4 = .ok (.iload 4, 2) := by decide +kernel
theorem dX6_known_6 : decode cX6_known 6 = .ok (.iload 5, 2) := by decide +kernel
theorem dX6_known_8 : decode cX6_known 8 = .ok (.invokevirtual 147, 3) := by decide +kernel
theorem dX6_known_11 : decode cX6_known 11 = .ok (.ifCond .ne 5, 3) := by decide +kernel
theorem dX6_known_14 : decode cX6_known 14 = .ok (.iconst (-1), 1) := by decide +kernel
theorem dX6_known_15 : decode cX6_known 15 = .ok (.ireturn, 1) := by decide +kernel
theorem dX6_known_16 : decode cX6_known 16 = .ok (.aload_n 0, 1) := by decide +kernel
theorem dX6_known_17 : decode cX6_known 17 = .ok (.invokevirtual 113, 3) := by decide +kernel
theorem dX6_known_20 : decode cX6_known 20 = .ok (.aload_n 0, 1) := by decide +kernel
theorem dX6_known_21 : decode cX6_known 21 = .ok (.getfield 26, 3) := by decide +kernel
theorem dX6_known_24 : decode cX6_known 24 = .ok (.aload_n 0, 1) := by decide +kernel
theorem dX6_known_25 : decode cX6_known 25 = .ok (.getfield 54, 3) := by decide +kernel
theorem dX6_known_28 : decode cX6_known 28 = .ok (.invokevirtual 151, 3) := by decide +kernel
theorem dX6_known_31 : decode cX6_known 31 = .ok (.ifCond .eq 7, 3) := by decide +kernel
theorem dX6_known_34 : decode cX6_known 34 = .ok (.iconst 1, 1) := by decide +kernel
theorem dX6_known_35 : decode cX6_known 35 = .ok (.goto 4, 3) := by decide +kernel
theorem dX6_known_38 : decode cX6_known 38 = .ok (.iconst 0, 1) := by decide +kernel
theorem dX6_known_39 : decode cX6_known 39 = .ok (.ireturn, 1) := by decide +kernel
set_option maxRecDepth 20000 in
theorem ggX6_spread_X6_isFractionPart : GoodIn wsX6_spread wsX6_isFractionPart := goodIn_r _ [8] (by decide +kernel) (by decide +kernel)
set_option maxRecDepth 20000 in
theorem gX6_spread_X6_isFractionPart : GoodIn wsX6_spread (va_wsS RX6 155 yX6_isFractionPart wsX6_isFractionPart) := goodIn_app (goodIn_of _ (by decide +kernel)) ggX6_spread_X6_isFractionPart
set_option maxRecDepth 20000 in
theorem ggX6_spread_X6_takeSum : GoodIn wsX6_spread wsX6_takeSum := goodIn_r _ [12, 3, 13, 14, 15, 16, 94, 95, 96, 97, 98, 99, 100, 101, 102, 103, 104, 110, 111, 112, 113, 114, 115, 116, 117, 118, 119, 120] (by decide +kernel) (by decide +kernel)
set_option maxRecDepth 20000 in
theorem gX6_spread_X6_takeSum : GoodIn wsX6_spread (wsV RX6 147 RX6 yX6_takeSum wsX6_takeSum) := goodIn_app (goodIn_of _ (by decide +kernel)) ggX6_spread_X6_takeSum
set_option maxRecDepth 20000 in
theorem ggX6_spread_X6_sweepPlan : GoodIn wsX6_spread wsX6_sweepPlan := goodIn_r _ [20, 2, 13, 21, 22, 23, 24, 25, 26, 27, 28, 29, 30, 31, 32, 33, 34, 35, 36, 37, 38, 39, 40, 41, 42, 43, 44, 45, 46, 47, 48, 49, 50, 51, 52, 53, 54, 55, 56, 57, 58, 59, 60, 61, 62, 63, 64, 65, 66, 67, 68, 69, 70, 71, 72, 73, 74, 75, 94, 95, 96, 97, 98, 99, 100, 101, 102, 103, 104, 110, 111, 112, 113, 114, 115, 116, 117, 118, 119, 120, 105, 106, 107, 108, 109] (by decide +kernel) (by decide +kernel)
set_option maxRecDepth 20000 in
theorem gX6_spread_X6_sweepPlan : GoodIn wsX6_spread (wsV RX6 113 RX6 yX6_sweepPlan wsX6_sweepPlan) := goodIn_app (goodIn_of _ (by decide +kernel)) ggX6_spread_X6_sweepPlan
set_option maxRecDepth 20000 in
theorem ggX6_spread_X2_reaches : GoodIn wsX6_spread wsX2_reaches := goodIn_r _ [79, 32, 68, 33, 66, 73, 74, 25, 75, 61, 105, 106, 107, 108, 109] (by decide +kernel) (by decide +kernel)
set_option maxRecDepth 20000 in
theorem gX6_spread_X2_reaches : GoodIn wsX6_spread (wsV RX6 151 RX2 yX2_reaches wsX2_reaches) := goodIn_app (goodIn_of _ (by decide +kernel)) ggX6_spread_X2_reaches
set_option maxRecDepth 20000 in
theorem ggX6_spread_X2_measure : GoodIn wsX6_spread wsX2_measure := goodIn_r _ [83, 32, 68, 33, 73, 74, 25, 75, 61, 105, 106, 107, 108, 109] (by decide +kernel) (by decide +kernel)
set_option maxRecDepth 20000 in
theorem gX6_spread_X2_measure : GoodIn wsX6_spread (wsV RX6 160 RX2 yX2_measure wsX2_measure) := goodIn_app (goodIn_of _ (by decide +kernel)) ggX6_spread_X2_measure
set_option maxRecDepth 20000 in
theorem ggX6_spread_X6_partOfFraction : GoodIn wsX6_spread wsX6_partOfFraction := goodIn_r _ [86, 87, 88, 7, 89, 90, 91, 92, 93] (by decide +kernel) (by decide +kernel)
set_option maxRecDepth 20000 in
theorem gX6_spread_X6_partOfFraction : GoodIn wsX6_spread (va_wsS RX6 168 yX6_partOfFraction wsX6_partOfFraction) := goodIn_app (goodIn_of _ (by decide +kernel)) ggX6_spread_X6_partOfFraction
theorem dX6_spread_0 : decode cX6_spread 0 = .ok (.iload 6, 2) := by decide +kernel
theorem dX6_spread_2 : decode cX6_spread 2 = .ok (.invokestatic 155, 3) := by decide +kernel
theorem dX6_spread_5 : decode cX6_spread 5 = .ok (.ifCond .eq 17, 3) := by decide +kernel
theorem dX6_spread_8 : decode cX6_spread 8 = .ok (.aload_n 0, 1) := by decide +kernel
theorem dX6_spread_9 : decode cX6_spread 9 = .ok (.iload_n 1, 1) := by decide +kernel
theorem dX6_spread_10 : decode cX6_spread 10 = .ok (.iload_n 2, 1) := by decide +kernel
theorem dX6_spread_11 : decode cX6_spread 11 = .ok (.iload_n 3, 1) := by decide +kernel
theorem dX6_spread_12 : decode cX6_spread 12 = .ok (.iload 4, 2) := by decide +kernel
theorem dX6_spread_14 : decode cX6_spread 14 = .ok (.iload 5, 2) := by decide +kernel
theorem dX6_spread_16 : decode cX6_spread 16 = .ok (.invokevirtual 147, 3) := by decide +kernel
theorem dX6_spread_19 : decode cX6_spread 19 = .ok (.ifCond .ne 7, 3) := by decide +kernel
theorem dX6_spread_22 : decode cX6_spread 22 = .ok (.ldc2_w 158, 3) := by decide +kernel
theorem dX6_spread_25 : decode cX6_spread 25 = .ok (.lreturn, 1) := by decide +kernel
theorem dX6_spread_26 : decode cX6_spread 26 = .ok (.aload_n 0, 1) := by decide +kernel
theorem dX6_spread_27 : decode cX6_spread 27 = .ok (.invokevirtual 113, 3) := by decide +kernel
theorem dX6_spread_30 : decode cX6_spread 30 = .ok (.aload_n 0, 1) := by decide +kernel
theorem dX6_spread_31 : decode cX6_spread 31 = .ok (.getfield 26, 3) := by decide +kernel
theorem dX6_spread_34 : decode cX6_spread 34 = .ok (.aload_n 0, 1) := by decide +kernel
theorem dX6_spread_35 : decode cX6_spread 35 = .ok (.getfield 54, 3) := by decide +kernel
theorem dX6_spread_38 : decode cX6_spread 38 = .ok (.invokevirtual 151, 3) := by decide +kernel
theorem dX6_spread_41 : decode cX6_spread 41 = .ok (.ifCond .ne 7, 3) := by decide +kernel
theorem dX6_spread_44 : decode cX6_spread 44 = .ok (.ldc2_w 158, 3) := by decide +kernel
theorem dX6_spread_47 : decode cX6_spread 47 = .ok (.lreturn, 1) := by decide +kernel
theorem dX6_spread_48 : decode cX6_spread 48 = .ok (.aload_n 0, 1) := by decide +kernel
theorem dX6_spread_49 : decode cX6_spread 49 = .ok (.getfield 26, 3) := by decide +kernel
theorem dX6_spread_52 : decode cX6_spread 52 = .ok (.aload_n 0, 1) := by decide +kernel
theorem dX6_spread_53 : decode cX6_spread 53 = .ok (.getfield 54, 3) := by decide +kernel
theorem dX6_spread_56 : decode cX6_spread 56 = .ok (.aload_n 0, 1) := by decide +kernel
theorem dX6_spread_57 : decode cX6_spread 57 = .ok (.getfield 54, 3) := by decide +kernel
theorem dX6_spread_60 : decode cX6_spread 60 = .ok (.invokevirtual 160, 3) := by decide +kernel
theorem dX6_spread_63 : decode cX6_spread 63 = .ok (.aload_n 0, 1) := by decide +kernel
theorem dX6_spread_64 : decode cX6_spread 64 = .ok (.getfield 26, 3) := by decide +kernel
theorem dX6_spread_67 : decode cX6_spread 67 = .ok (.getfield 164, 3) := by decide +kernel
theorem dX6_spread_70 : decode cX6_spread 70 = .ok (.iload 6, 2) := by decide +kernel
theorem dX6_spread_72 : decode cX6_spread 72 = .ok (.invokestatic 168, 3) := by decide +kernel
theorem dX6_spread_75 : decode cX6_spread 75 = .ok (.lreturn, 1) := by decide +kernel
set_option maxRecDepth 20000 in
theorem ggX6_widest_X6_isFractionPart : GoodIn wsX6_widest wsX6_isFractionPart := goodIn_r _ [10] (by decide +kernel) (by decide +kernel)
set_option maxRecDepth 20000 in
theorem gX6_widest_X6_isFractionPart : GoodIn wsX6_widest (va_wsS RX6 155 yX6_isFractionPart wsX6_isFractionPart) := goodIn_app (goodIn_of _ (by decide +kernel)) ggX6_widest_X6_isFractionPart
set_option maxRecDepth 20000 in
theorem ggX6_widest_X6_sweepPlan : GoodIn wsX6_widest wsX6_sweepPlan := goodIn_r _ [14, 2, 4, 15, 16, 17, 18, 19, 20, 21, 22, 23, 24, 25, 26, 27, 28, 29, 30, 31, 32, 33, 34, 35, 36, 37, 38, 39, 40, 41, 42, 43, 44, 45, 46, 47, 48, 49, 50, 51, 52, 53, 54, 55, 56, 57, 58, 59, 60, 61, 62, 63, 64, 65, 66, 67, 68, 69, 91, 92, 93, 94, 95, 96, 97, 98, 99, 100, 101, 107, 108, 109, 110, 111, 112, 113, 114, 115, 116, 117, 102, 103, 104, 105, 106] (by decide +kernel) (by decide +kernel)
set_option maxRecDepth 20000 in
theorem gX6_widest_X6_sweepPlan : GoodIn wsX6_widest (wsV RX6 113 RX6 yX6_sweepPlan wsX6_sweepPlan) := goodIn_app (goodIn_of _ (by decide +kernel)) ggX6_widest_X6_sweepPlan
set_option maxRecDepth 20000 in
theorem ggX6_widest_X1_settingCount : GoodIn wsX6_widest wsX1_settingCount := goodIn_r _ [36, 37, 107, 108, 109, 110, 111, 112, 113, 114, 115, 116, 117] (by decide +kernel) (by decide +kernel)
set_option maxRecDepth 20000 in
theorem gX6_widest_X1_settingCount : GoodIn wsX6_widest (wsV RX6 126 RX1 yX1_settingCount wsX1_settingCount) := goodIn_app (goodIn_of _ (by decide +kernel)) ggX6_widest_X1_settingCount
set_option maxRecDepth 20000 in
theorem ggX6_widest_X6_spreadAt : GoodIn wsX6_widest wsX6_spreadAt := goodIn_r _ [74, 4, 75, 1, 2, 76, 39, 40, 35, 41, 42, 43, 44, 45, 46, 47, 48, 49, 50, 77, 78, 79, 19, 80, 26, 62, 27, 67, 68, 69, 55, 91, 92, 93, 94, 95, 96, 97, 98, 99, 100, 101, 107, 108, 109, 110, 111, 112, 113, 114, 115, 116, 117, 102, 103, 104, 105, 106] (by decide +kernel) (by decide +kernel)
set_option maxRecDepth 20000 in
theorem gX6_widest_X6_spreadAt : GoodIn wsX6_widest (wsV RX6 172 RX6 yX6_spreadAt wsX6_spreadAt) := goodIn_app (goodIn_of _ (by decide +kernel)) ggX6_widest_X6_spreadAt
set_option maxRecDepth 20000 in
theorem ggX6_widest_X6_partOfFraction : GoodIn wsX6_widest wsX6_partOfFraction := goodIn_r _ [83, 84, 85, 9, 86, 87, 88, 89, 90] (by decide +kernel) (by decide +kernel)
set_option maxRecDepth 20000 in
theorem gX6_widest_X6_partOfFraction : GoodIn wsX6_widest (va_wsS RX6 168 yX6_partOfFraction wsX6_partOfFraction) := goodIn_app (goodIn_of _ (by decide +kernel)) ggX6_widest_X6_partOfFraction
theorem dX6_widest_0 : decode cX6_widest 0 = .ok (.iload_n 1, 1) := by decide +kernel
theorem dX6_widest_1 : decode cX6_widest 1 = .ok (.invokestatic 155, 3) := by decide +kernel
theorem dX6_widest_4 : decode cX6_widest 4 = .ok (.ifCond .ne 12, 3) := by decide +kernel
theorem dX6_widest_7 : decode cX6_widest 7 = .ok (.iload_n 1, 1) := by decide +kernel
theorem dX6_widest_8 : decode cX6_widest 8 = .ok (.iconst 2, 1) := by decide +kernel
theorem dX6_widest_9 : decode cX6_widest 9 = .ok (.if_icmp .eq 7, 3) := by decide +kernel
theorem dX6_widest_12 : decode cX6_widest 12 = .ok (.ldc2_w 158, 3) := by decide +kernel
theorem dX6_widest_15 : decode cX6_widest 15 = .ok (.lreturn, 1) := by decide +kernel
theorem dX6_widest_16 : decode cX6_widest 16 = .ok (.aload_n 0, 1) := by decide +kernel
theorem dX6_widest_17 : decode cX6_widest 17 = .ok (.invokevirtual 113, 3) := by decide +kernel
theorem dX6_widest_20 : decode cX6_widest 20 = .ok (.aload_n 0, 1) := by decide +kernel
theorem dX6_widest_21 : decode cX6_widest 21 = .ok (.getfield 26, 3) := by decide +kernel
theorem dX6_widest_24 : decode cX6_widest 24 = .ok (.getfield 116, 3) := by decide +kernel
theorem dX6_widest_27 : decode cX6_widest 27 = .ok (.aload_n 0, 1) := by decide +kernel
theorem dX6_widest_28 : decode cX6_widest 28 = .ok (.getfield 12, 3) := by decide +kernel
theorem dX6_widest_31 : decode cX6_widest 31 = .ok (.getfield 83, 3) := by decide +kernel
theorem dX6_widest_34 : decode cX6_widest 34 = .ok (.if_icmp .ge 7, 3) := by decide +kernel
theorem dX6_widest_37 : decode cX6_widest 37 = .ok (.ldc2_w 158, 3) := by decide +kernel
theorem dX6_widest_40 : decode cX6_widest 40 = .ok (.lreturn, 1) := by decide +kernel
theorem dX6_widest_41 : decode cX6_widest 41 = .ok (.ldc2_w 158, 3) := by decide +kernel
theorem dX6_widest_44 : decode cX6_widest 44 = .ok (.lstore_n 2, 1) := by decide +kernel
theorem dX6_widest_45 : decode cX6_widest 45 = .ok (.iconst (-1), 1) := by decide +kernel
theorem dX6_widest_46 : decode cX6_widest 46 = .ok (.istore 4, 2) := by decide +kernel
theorem dX6_widest_48 : decode cX6_widest 48 = .ok (.aload_n 0, 1) := by decide +kernel
theorem dX6_widest_49 : decode cX6_widest 49 = .ok (.getfield 12, 3) := by decide +kernel
theorem dX6_widest_52 : decode cX6_widest 52 = .ok (.invokevirtual 126, 3) := by decide +kernel
theorem dX6_widest_55 : decode cX6_widest 55 = .ok (.istore 5, 2) := by decide +kernel
theorem dX6_widest_57 : decode cX6_widest 57 = .ok (.iconst 0, 1) := by decide +kernel
theorem dX6_widest_58 : decode cX6_widest 58 = .ok (.istore 6, 2) := by decide +kernel
theorem dX6_widest_60 : decode cX6_widest 60 = .ok (.iload 6, 2) := by decide +kernel
theorem dX6_widest_62 : decode cX6_widest 62 = .ok (.iload 5, 2) := by decide +kernel
theorem dX6_widest_64 : decode cX6_widest 64 = .ok (.if_icmp .ge 31, 3) := by decide +kernel
theorem dX6_widest_67 : decode cX6_widest 67 = .ok (.aload_n 0, 1) := by decide +kernel
theorem dX6_widest_68 : decode cX6_widest 68 = .ok (.iload 6, 2) := by decide +kernel
theorem dX6_widest_70 : decode cX6_widest 70 = .ok (.invokevirtual 172, 3) := by decide +kernel
theorem dX6_widest_73 : decode cX6_widest 73 = .ok (.lstore 7, 2) := by decide +kernel
theorem dX6_widest_75 : decode cX6_widest 75 = .ok (.lload 7, 2) := by decide +kernel
theorem dX6_widest_77 : decode cX6_widest 77 = .ok (.lload_n 2, 1) := by decide +kernel
theorem dX6_widest_78 : decode cX6_widest 78 = .ok (.lcmp, 1) := by decide +kernel
theorem dX6_widest_79 : decode cX6_widest 79 = .ok (.ifCond .le 10, 3) := by decide +kernel
theorem dX6_widest_82 : decode cX6_widest 82 = .ok (.lload 7, 2) := by decide +kernel
theorem dX6_widest_84 : decode cX6_widest 84 = .ok (.lstore_n 2, 1) := by decide +kernel
theorem dX6_widest_85 : decode cX6_widest 85 = .ok (.iload 6, 2) := by decide +kernel
theorem dX6_widest_87 : decode cX6_widest 87 = .ok (.istore 4, 2) := by decide +kernel
theorem dX6_widest_89 : decode cX6_widest 89 = .ok (.iinc 6 1, 3) := by decide +kernel
theorem dX6_widest_92 : decode cX6_widest 92 = .ok (.goto (-32), 3) := by decide +kernel
theorem dX6_widest_95 : decode cX6_widest 95 = .ok (.iload_n 1, 1) := by decide +kernel
theorem dX6_widest_96 : decode cX6_widest 96 = .ok (.iconst 2, 1) := by decide +kernel
theorem dX6_widest_97 : decode cX6_widest 97 = .ok (.if_icmp .ne 9, 3) := by decide +kernel
theorem dX6_widest_100 : decode cX6_widest 100 = .ok (.iload 4, 2) := by decide +kernel
theorem dX6_widest_102 : decode cX6_widest 102 = .ok (.i2l, 1) := by decide +kernel
theorem dX6_widest_103 : decode cX6_widest 103 = .ok (.goto 15, 3) := by decide +kernel
theorem dX6_widest_106 : decode cX6_widest 106 = .ok (.lload_n 2, 1) := by decide +kernel
theorem dX6_widest_107 : decode cX6_widest 107 = .ok (.aload_n 0, 1) := by decide +kernel
theorem dX6_widest_108 : decode cX6_widest 108 = .ok (.getfield 26, 3) := by decide +kernel
theorem dX6_widest_111 : decode cX6_widest 111 = .ok (.getfield 164, 3) := by decide +kernel
theorem dX6_widest_114 : decode cX6_widest 114 = .ok (.iload_n 1, 1) := by decide +kernel
theorem dX6_widest_115 : decode cX6_widest 115 = .ok (.invokestatic 168, 3) := by decide +kernel
theorem dX6_widest_118 : decode cX6_widest 118 = .ok (.lreturn, 1) := by decide +kernel
set_option maxRecDepth 20000 in
theorem ggX6_needed_X6_sweepPlan : GoodIn wsX6_needed wsX6_sweepPlan := goodIn_r _ [9, 3, 1, 2, 10, 11, 12, 13, 14, 15, 16, 17, 18, 19, 20, 21, 22, 23, 24, 25, 26, 27, 28, 29, 30, 31, 32, 33, 34, 35, 36, 37, 38, 39, 40, 41, 42, 43, 44, 45, 46, 47, 48, 49, 50, 51, 52, 53, 54, 55, 56, 57, 58, 59, 60, 61, 62, 63, 76, 77, 78, 79, 80, 81, 82, 83, 84, 85, 86, 87, 88, 89, 90, 91, 92, 93, 94, 95, 96, 97, 98, 99, 100, 101, 102] (by decide +kernel) (by decide +kernel)
set_option maxRecDepth 20000 in
theorem gX6_needed_X6_sweepPlan : GoodIn wsX6_needed (wsV RX6 113 RX6 yX6_sweepPlan wsX6_sweepPlan) := goodIn_app (goodIn_of _ (by decide +kernel)) ggX6_needed_X6_sweepPlan
set_option maxRecDepth 20000 in
theorem ggX6_needed_X1_settingCount : GoodIn wsX6_needed wsX1_settingCount := goodIn_r _ [30, 31, 87, 88, 89, 90, 91, 92, 93, 94, 95, 96, 97] (by decide +kernel) (by decide +kernel)
set_option maxRecDepth 20000 in
theorem gX6_needed_X1_settingCount : GoodIn wsX6_needed (wsV RX6 126 RX1 yX1_settingCount wsX1_settingCount) := goodIn_app (goodIn_of _ (by decide +kernel)) ggX6_needed_X1_settingCount
set_option maxRecDepth 20000 in
theorem ggX6_needed_X6_spreadAt : GoodIn wsX6_needed wsX6_spreadAt := goodIn_r _ [68, 1, 69, 70, 3, 71, 33, 34, 29, 35, 36, 37, 38, 39, 40, 41, 42, 43, 44, 72, 73, 74, 13, 75, 20, 56, 21, 61, 62, 63, 49, 76, 77, 78, 79, 80, 81, 82, 83, 84, 85, 86, 87, 88, 89, 90, 91, 92, 93, 94, 95, 96, 97, 98, 99, 100, 101, 102] (by decide +kernel) (by decide +kernel)
set_option maxRecDepth 20000 in
theorem gX6_needed_X6_spreadAt : GoodIn wsX6_needed (wsV RX6 172 RX6 yX6_spreadAt wsX6_spreadAt) := goodIn_app (goodIn_of _ (by decide +kernel)) ggX6_needed_X6_spreadAt
theorem dX6_needed_0 : decode cX6_needed 0 = .ok (.aload_n 0, 1) := by decide +kernel
theorem dX6_needed_1 : decode cX6_needed 1 = .ok (.invokevirtual 113, 3) := by decide +kernel
theorem dX6_needed_4 : decode cX6_needed 4 = .ok (.iconst 0, 1) := by decide +kernel
theorem dX6_needed_5 : decode cX6_needed 5 = .ok (.istore_n 1, 1) := by decide +kernel
theorem dX6_needed_6 : decode cX6_needed 6 = .ok (.aload_n 0, 1) := by decide +kernel
theorem dX6_needed_7 : decode cX6_needed 7 = .ok (.getfield 12, 3) := by decide +kernel
theorem dX6_needed_10 : decode cX6_needed 10 = .ok (.invokevirtual 126, 3) := by decide +kernel
theorem dX6_needed_13 : decode cX6_needed 13 = .ok (.istore_n 2, 1) := by decide +kernel
theorem dX6_needed_14 : decode cX6_needed 14 = .ok (.iconst 0, 1) := by decide +kernel
theorem dX6_needed_15 : decode cX6_needed 15 = .ok (.istore_n 3, 1) := by decide +kernel
theorem dX6_needed_16 : decode cX6_needed 16 = .ok (.iload_n 3, 1) := by decide +kernel
theorem dX6_needed_17 : decode cX6_needed 17 = .ok (.iload_n 2, 1) := by decide +kernel
theorem dX6_needed_18 : decode cX6_needed 18 = .ok (.if_icmp .ge 40, 3) := by decide +kernel
theorem dX6_needed_21 : decode cX6_needed 21 = .ok (.aload_n 0, 1) := by decide +kernel
theorem dX6_needed_22 : decode cX6_needed 22 = .ok (.getfield 12, 3) := by decide +kernel
theorem dX6_needed_25 : decode cX6_needed 25 = .ok (.getfield 96, 3) := by decide +kernel
theorem dX6_needed_28 : decode cX6_needed 28 = .ok (.iload_n 3, 1) := by decide +kernel
theorem dX6_needed_29 : decode cX6_needed 29 = .ok (.iaload, 1) := by decide +kernel
theorem dX6_needed_30 : decode cX6_needed 30 = .ok (.ifCond .le 22, 3) := by decide +kernel
theorem dX6_needed_33 : decode cX6_needed 33 = .ok (.aload_n 0, 1) := by decide +kernel
theorem dX6_needed_34 : decode cX6_needed 34 = .ok (.iload_n 3, 1) := by decide +kernel
theorem dX6_needed_35 : decode cX6_needed 35 = .ok (.invokevirtual 172, 3) := by decide +kernel
theorem dX6_needed_38 : decode cX6_needed 38 = .ok (.aload_n 0, 1) := by decide +kernel
theorem dX6_needed_39 : decode cX6_needed 39 = .ok (.getfield 26, 3) := by decide +kernel
theorem dX6_needed_42 : decode cX6_needed 42 = .ok (.getfield 164, 3) := by decide +kernel
theorem dX6_needed_45 : decode cX6_needed 45 = .ok (.lcmp, 1) := by decide +kernel
theorem dX6_needed_46 : decode cX6_needed 46 = .ok (.ifCond .ne 6, 3) := by decide +kernel
theorem dX6_needed_49 : decode cX6_needed 49 = .ok (.iinc 1 1, 3) := by decide +kernel
theorem dX6_needed_52 : decode cX6_needed 52 = .ok (.iinc 3 1, 3) := by decide +kernel
theorem dX6_needed_55 : decode cX6_needed 55 = .ok (.goto (-39), 3) := by decide +kernel
theorem dX6_needed_58 : decode cX6_needed 58 = .ok (.iload_n 1, 1) := by decide +kernel
theorem dX6_needed_59 : decode cX6_needed 59 = .ok (.ireturn, 1) := by decide +kernel
set_option maxRecDepth 20000 in
theorem ggX6_sweepPlan_X2_fill : GoodIn wsX6_sweepPlan wsX2_fill := goodIn_r _ [8, 9, 10, 11, 12, 7, 13, 14, 15, 16, 17, 18, 19, 20, 21, 22, 23, 24, 25, 26, 27, 28, 29, 30, 31, 32, 33, 34, 35, 36, 37, 38, 39, 40, 41, 42, 43, 69, 70, 71, 72, 73, 74, 75, 76, 77, 78, 79, 80, 81, 82, 83, 84] (by decide +kernel) (by decide +kernel)
set_option maxRecDepth 20000 in
theorem gX6_sweepPlan_X2_fill : GoodIn wsX6_sweepPlan (wsV RX6 133 RX2 yX2_fill wsX2_fill) := goodIn_app (goodIn_of _ (by decide +kernel)) ggX6_sweepPlan_X2_fill
set_option maxRecDepth 20000 in
theorem ggX6_sweepPlan_X2_sweep : GoodIn wsX6_sweepPlan wsX2_sweep := goodIn_r _ [47, 48, 49, 14, 15, 43, 50, 51, 52, 53, 7, 54, 55, 56, 57, 80, 81, 82, 83, 84] (by decide +kernel) (by decide +kernel)
set_option maxRecDepth 20000 in
theorem gX6_sweepPlan_X2_sweep : GoodIn wsX6_sweepPlan (wsV RX6 176 RX2 yX2_sweep wsX2_sweep) := goodIn_app (goodIn_of _ (by decide +kernel)) ggX6_sweepPlan_X2_sweep
theorem dX6_sweepPlan_0 : decode cX6_sweepPlan 0 = .ok (.aload_n 0, 1) := by decide +kernel
theorem dX6_sweepPlan_1 : decode cX6_sweepPlan 1 = .ok (.getfield 26, 3) := by decide +kernel
theorem dX6_sweepPlan_4 : decode cX6_sweepPlan 4 = .ok (.aload_n 0, 1) := by decide +kernel
theorem dX6_sweepPlan_5 : decode cX6_sweepPlan 5 = .ok (.getfield 12, 3) := by decide +kernel
theorem dX6_sweepPlan_8 : decode cX6_sweepPlan 8 = .ok (.aload_n 0, 1) := by decide +kernel
theorem dX6_sweepPlan_9 : decode cX6_sweepPlan 9 = .ok (.getfield 12, 3) := by decide +kernel
theorem dX6_sweepPlan_12 : decode cX6_sweepPlan 12 = .ok (.getfield 96, 3) := by decide +kernel
theorem dX6_sweepPlan_15 : decode cX6_sweepPlan 15 = .ok (.invokevirtual 133, 3) := by decide +kernel
theorem dX6_sweepPlan_18 : decode cX6_sweepPlan 18 = .ok (.aload_n 0, 1) := by decide +kernel
theorem dX6_sweepPlan_19 : decode cX6_sweepPlan 19 = .ok (.getfield 26, 3) := by decide +kernel
theorem dX6_sweepPlan_22 : decode cX6_sweepPlan 22 = .ok (.invokevirtual 176, 3) := by decide +kernel
theorem dX6_sweepPlan_25 : decode cX6_sweepPlan 25 = .ok (.return_, 1) := by decide +kernel
set_option maxRecDepth 20000 in
theorem ggX6_spreadAt_X1_signsAt : GoodIn wsX6_spreadAt wsX1_signsAt := goodIn_r _ [9, 10, 11, 12, 13, 14, 15, 16, 17, 18, 42, 43, 44, 45, 46, 47, 48, 49, 50, 51, 52] (by decide +kernel) (by decide +kernel)
set_option maxRecDepth 20000 in
theorem gX6_spreadAt_X1_signsAt : GoodIn wsX6_spreadAt (wsV RX6 179 RX1 yX1_signsAt wsX1_signsAt) := goodIn_app (goodIn_of _ (by decide +kernel)) ggX6_spreadAt_X1_signsAt
set_option maxRecDepth 20000 in
theorem ggX6_spreadAt_X2_measure : GoodIn wsX6_spreadAt wsX2_measure := goodIn_r _ [23, 24, 25, 26, 27, 28, 22, 29, 30, 53, 54, 55, 56, 57] (by decide +kernel) (by decide +kernel)
set_option maxRecDepth 20000 in
theorem gX6_spreadAt_X2_measure : GoodIn wsX6_spreadAt (wsV RX6 160 RX2 yX2_measure wsX2_measure) := goodIn_app (goodIn_of _ (by decide +kernel)) ggX6_spreadAt_X2_measure
