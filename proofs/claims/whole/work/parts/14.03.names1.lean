theorem dX0_init_0 : decode cX0_init 0 = .ok (.aload_n 0, 1) := by decide +kernel
theorem dX0_init_1 : decode cX0_init 1 = .ok (.invokespecial 3, 3) := by decide +kernel
theorem dX0_init_4 : decode cX0_init 4 = .ok (.aload_n 0, 1) := by decide +kernel
theorem dX0_init_5 : decode cX0_init 5 = .ok (.bipush 64, 2) := by decide +kernel
theorem dX0_init_7 : decode cX0_init 7 = .ok (.newarray .int, 2) := by decide +kernel
theorem dX0_init_9 : decode cX0_init 9 = .ok (.putfield 9, 3) := by decide +kernel
theorem dX0_init_12 : decode cX0_init 12 = .ok (.aload_n 0, 1) := by decide +kernel
theorem dX0_init_13 : decode cX0_init 13 = .ok (.bipush 12, 2) := by decide +kernel
theorem dX0_init_15 : decode cX0_init 15 = .ok (.newarray .int, 2) := by decide +kernel
theorem dX0_init_17 : decode cX0_init 17 = .ok (.putfield 15, 3) := by decide +kernel
theorem dX0_init_20 : decode cX0_init 20 = .ok (.aload_n 0, 1) := by decide +kernel
theorem dX0_init_21 : decode cX0_init 21 = .ok (.bipush 12, 2) := by decide +kernel
theorem dX0_init_23 : decode cX0_init 23 = .ok (.newarray .int, 2) := by decide +kernel
theorem dX0_init_25 : decode cX0_init 25 = .ok (.putfield 18, 3) := by decide +kernel
theorem dX0_init_28 : decode cX0_init 28 = .ok (.aload_n 0, 1) := by decide +kernel
theorem dX0_init_29 : decode cX0_init 29 = .ok (.bipush 12, 2) := by decide +kernel
theorem dX0_init_31 : decode cX0_init 31 = .ok (.newarray .int, 2) := by decide +kernel
theorem dX0_init_33 : decode cX0_init 33 = .ok (.putfield 21, 3) := by decide +kernel
theorem dX0_init_36 : decode cX0_init 36 = .ok (.aload_n 0, 1) := by decide +kernel
theorem dX0_init_37 : decode cX0_init 37 = .ok (.sipush 156, 3) := by decide +kernel
theorem dX0_init_40 : decode cX0_init 40 = .ok (.newarray .int, 2) := by decide +kernel
theorem dX0_init_42 : decode cX0_init 42 = .ok (.putfield 24, 3) := by decide +kernel
theorem dX0_init_45 : decode cX0_init 45 = .ok (.aload_n 0, 1) := by decide +kernel
theorem dX0_init_46 : decode cX0_init 46 = .ok (.iconst 0, 1) := by decide +kernel
theorem dX0_init_47 : decode cX0_init 47 = .ok (.newarray .byte, 2) := by decide +kernel
theorem dX0_init_49 : decode cX0_init 49 = .ok (.putfield 27, 3) := by decide +kernel
theorem dX0_init_52 : decode cX0_init 52 = .ok (.aload_n 0, 1) := by decide +kernel
theorem dX0_init_53 : decode cX0_init 53 = .ok (.bipush 12, 2) := by decide +kernel
theorem dX0_init_55 : decode cX0_init 55 = .ok (.newarray .int, 2) := by decide +kernel
theorem dX0_init_57 : decode cX0_init 57 = .ok (.putfield 31, 3) := by decide +kernel
theorem dX0_init_60 : decode cX0_init 60 = .ok (.aload_n 0, 1) := by decide +kernel
theorem dX0_init_61 : decode cX0_init 61 = .ok (.bipush 12, 2) := by decide +kernel
theorem dX0_init_63 : decode cX0_init 63 = .ok (.newarray .int, 2) := by decide +kernel
theorem dX0_init_65 : decode cX0_init 65 = .ok (.putfield 34, 3) := by decide +kernel
theorem dX0_init_68 : decode cX0_init 68 = .ok (.aload_n 0, 1) := by decide +kernel
theorem dX0_init_69 : decode cX0_init 69 = .ok (.bipush 12, 2) := by decide +kernel
theorem dX0_init_71 : decode cX0_init 71 = .ok (.newarray .int, 2) := by decide +kernel
theorem dX0_init_73 : decode cX0_init 73 = .ok (.putfield 37, 3) := by decide +kernel
theorem dX0_init_76 : decode cX0_init 76 = .ok (.aload_n 0, 1) := by decide +kernel
theorem dX0_init_77 : decode cX0_init 77 = .ok (.bipush 12, 2) := by decide +kernel
theorem dX0_init_79 : decode cX0_init 79 = .ok (.newarray .int, 2) := by decide +kernel
theorem dX0_init_81 : decode cX0_init 81 = .ok (.putfield 40, 3) := by decide +kernel
theorem dX0_init_84 : decode cX0_init 84 = .ok (.return_, 1) := by decide +kernel
set_option maxRecDepth 20000 in
theorem ggX0_find_X0_isAnswered : GoodIn wsX0_find wsX0_isAnswered := goodIn_r _ [13, 1, 6, 81, 82, 83, 84, 85, 86, 87, 88, 89, 90, 91, 92, 93, 94, 95] (by decide +kernel) (by decide +kernel)
set_option maxRecDepth 20000 in
theorem gX0_find_X0_isAnswered : GoodIn wsX0_find (wsV RX0 43 RX0 yX0_isAnswered wsX0_isAnswered) := goodIn_app (goodIn_of _ (by decide +kernel)) ggX0_find_X0_isAnswered
set_option maxRecDepth 20000 in
theorem ggX0_find_X0_gatherPlaces : GoodIn wsX0_find wsX0_gatherPlaces := goodIn_r _ [17, 8, 7, 1, 18, 19, 20, 81, 82, 83, 84, 85, 86, 87, 88, 89, 90, 91, 92, 93, 94, 95] (by decide +kernel) (by decide +kernel)
set_option maxRecDepth 20000 in
theorem gX0_find_X0_gatherPlaces : GoodIn wsX0_find (wsV RX0 57 RX0 yX0_gatherPlaces wsX0_gatherPlaces) := goodIn_app (goodIn_of _ (by decide +kernel)) ggX0_find_X0_gatherPlaces
set_option maxRecDepth 20000 in
theorem ggX0_find_X0_measureGaps : GoodIn wsX0_find wsX0_measureGaps := goodIn_r _ [24, 8, 25, 18, 26, 27, 28, 29, 30, 31, 32, 81, 82, 83, 84, 85, 86, 87, 88, 89, 90, 91, 92, 93, 94, 95] (by decide +kernel) (by decide +kernel)
set_option maxRecDepth 20000 in
theorem gX0_find_X0_measureGaps : GoodIn wsX0_find (wsV RX0 60 RX0 yX0_measureGaps wsX0_measureGaps) := goodIn_app (goodIn_of _ (by decide +kernel)) ggX0_find_X0_measureGaps
set_option maxRecDepth 20000 in
theorem ggX0_find_X0_makeRoom : GoodIn wsX0_find wsX0_makeRoom := goodIn_r _ [36, 37, 38, 39, 40, 41, 42, 43, 44, 45, 46, 81, 82, 83, 84, 85, 86, 87, 88, 89, 90, 91, 92, 93, 94, 95] (by decide +kernel) (by decide +kernel)
set_option maxRecDepth 20000 in
theorem gX0_find_X0_makeRoom : GoodIn wsX0_find (wsV RX0 70 RX0 yX0_makeRoom wsX0_makeRoom) := goodIn_app (goodIn_of _ (by decide +kernel)) ggX0_find_X0_makeRoom
set_option maxRecDepth 20000 in
theorem ggX0_find_X0_weighStates : GoodIn wsX0_find wsX0_weighStates := goodIn_r _ [50, 51, 7, 8, 19, 37, 52, 53, 54, 55, 56, 57, 58, 59, 12, 60, 20, 61, 62, 63, 64, 65, 66, 25, 67, 68, 69, 70, 71, 72, 73, 74, 81, 82, 83, 84, 85, 86, 87, 88, 89, 90, 91, 92, 93, 94, 95] (by decide +kernel) (by decide +kernel)
set_option maxRecDepth 20000 in
theorem gX0_find_X0_weighStates : GoodIn wsX0_find (wsV RX0 74 RX0 yX0_weighStates wsX0_weighStates) := goodIn_app (goodIn_of _ (by decide +kernel)) ggX0_find_X0_weighStates
set_option maxRecDepth 20000 in
theorem ggX0_find_X0_readChain : GoodIn wsX0_find wsX0_readChain := goodIn_r _ [78, 19, 51, 2, 3, 4, 5, 79, 7, 61, 25, 80, 18, 20, 57, 58, 59, 12, 60, 52, 8, 37, 62, 63, 64, 65, 66, 81, 82, 83, 84, 85, 86, 87, 88, 89, 90, 91, 92, 93, 94, 95] (by decide +kernel) (by decide +kernel)
set_option maxRecDepth 20000 in
theorem gX0_find_X0_readChain : GoodIn wsX0_find (wsV RX0 77 RX0 yX0_readChain wsX0_readChain) := goodIn_app (goodIn_of _ (by decide +kernel)) ggX0_find_X0_readChain
theorem dX0_find_0 : decode cX0_find 0 = .ok (.aload_n 0, 1) := by decide +kernel
theorem dX0_find_1 : decode cX0_find 1 = .ok (.aload_n 1, 1) := by decide +kernel
theorem dX0_find_2 : decode cX0_find 2 = .ok (.invokevirtual 43, 3) := by decide +kernel
theorem dX0_find_5 : decode cX0_find 5 = .ok (.ifCond .eq 4, 3) := by decide +kernel
theorem dX0_find_8 : decode cX0_find 8 = .ok (.return_, 1) := by decide +kernel
theorem dX0_find_9 : decode cX0_find 9 = .ok (.aload_n 1, 1) := by decide +kernel
theorem dX0_find_10 : decode cX0_find 10 = .ok (.iconst 0, 1) := by decide +kernel
theorem dX0_find_11 : decode cX0_find 11 = .ok (.aload_n 0, 1) := by decide +kernel
theorem dX0_find_12 : decode cX0_find 12 = .ok (.getfield 9, 3) := by decide +kernel
theorem dX0_find_15 : decode cX0_find 15 = .ok (.iconst 0, 1) := by decide +kernel
theorem dX0_find_16 : decode cX0_find 16 = .ok (.bipush 64, 2) := by decide +kernel
theorem dX0_find_18 : decode cX0_find 18 = .ok (.invokestatic 47, 3) := by decide +kernel
theorem dX0_find_21 : decode cX0_find 21 = .ok (.aload_n 0, 1) := by decide +kernel
theorem dX0_find_22 : decode cX0_find 22 = .ok (.iconst 1, 1) := by decide +kernel
theorem dX0_find_23 : decode cX0_find 23 = .ok (.putfield 53, 3) := by decide +kernel
theorem dX0_find_26 : decode cX0_find 26 = .ok (.aload_n 0, 1) := by decide +kernel
theorem dX0_find_27 : decode cX0_find 27 = .ok (.invokevirtual 57, 3) := by decide +kernel
theorem dX0_find_30 : decode cX0_find 30 = .ok (.aload_n 0, 1) := by decide +kernel
theorem dX0_find_31 : decode cX0_find 31 = .ok (.invokevirtual 60, 3) := by decide +kernel
theorem dX0_find_34 : decode cX0_find 34 = .ok (.aload_n 0, 1) := by decide +kernel
theorem dX0_find_35 : decode cX0_find 35 = .ok (.aload_n 0, 1) := by decide +kernel
theorem dX0_find_36 : decode cX0_find 36 = .ok (.getfield 63, 3) := by decide +kernel
theorem dX0_find_39 : decode cX0_find 39 = .ok (.aload_n 0, 1) := by decide +kernel
theorem dX0_find_40 : decode cX0_find 40 = .ok (.getfield 67, 3) := by decide +kernel
theorem dX0_find_43 : decode cX0_find 43 = .ok (.imul, 1) := by decide +kernel
theorem dX0_find_44 : decode cX0_find 44 = .ok (.invokevirtual 70, 3) := by decide +kernel
theorem dX0_find_47 : decode cX0_find 47 = .ok (.aload_n 0, 1) := by decide +kernel
theorem dX0_find_48 : decode cX0_find 48 = .ok (.invokevirtual 74, 3) := by decide +kernel
theorem dX0_find_51 : decode cX0_find 51 = .ok (.aload_n 0, 1) := by decide +kernel
theorem dX0_find_52 : decode cX0_find 52 = .ok (.invokevirtual 77, 3) := by decide +kernel
theorem dX0_find_55 : decode cX0_find 55 = .ok (.return_, 1) := by decide +kernel
theorem dX0_isAnswered_0 : decode cX0_isAnswered 0 = .ok (.iconst 0, 1) := by decide +kernel
theorem dX0_isAnswered_1 : decode cX0_isAnswered 1 = .ok (.istore_n 2, 1) := by decide +kernel
theorem dX0_isAnswered_2 : decode cX0_isAnswered 2 = .ok (.iload_n 2, 1) := by decide +kernel
theorem dX0_isAnswered_3 : decode cX0_isAnswered 3 = .ok (.bipush 64, 2) := by decide +kernel
theorem dX0_isAnswered_5 : decode cX0_isAnswered 5 = .ok (.if_icmp .ge 23, 3) := by decide +kernel
theorem dX0_isAnswered_8 : decode cX0_isAnswered 8 = .ok (.aload_n 1, 1) := by decide +kernel
theorem dX0_isAnswered_9 : decode cX0_isAnswered 9 = .ok (.iload_n 2, 1) := by decide +kernel
theorem dX0_isAnswered_10 : decode cX0_isAnswered 10 = .ok (.iaload, 1) := by decide +kernel
theorem dX0_isAnswered_11 : decode cX0_isAnswered 11 = .ok (.aload_n 0, 1) := by decide +kernel
theorem dX0_isAnswered_12 : decode cX0_isAnswered 12 = .ok (.getfield 9, 3) := by decide +kernel
theorem dX0_isAnswered_15 : decode cX0_isAnswered 15 = .ok (.iload_n 2, 1) := by decide +kernel
theorem dX0_isAnswered_16 : decode cX0_isAnswered 16 = .ok (.iaload, 1) := by decide +kernel
theorem dX0_isAnswered_17 : decode cX0_isAnswered 17 = .ok (.if_icmp .eq 5, 3) := by decide +kernel
theorem dX0_isAnswered_20 : decode cX0_isAnswered 20 = .ok (.iconst 0, 1) := by decide +kernel
theorem dX0_isAnswered_21 : decode cX0_isAnswered 21 = .ok (.ireturn, 1) := by decide +kernel
theorem dX0_isAnswered_22 : decode cX0_isAnswered 22 = .ok (.iinc 2 1, 3) := by decide +kernel
theorem dX0_isAnswered_25 : decode cX0_isAnswered 25 = .ok (.goto (-23), 3) := by decide +kernel
theorem dX0_isAnswered_28 : decode cX0_isAnswered 28 = .ok (.aload_n 0, 1) := by decide +kernel
theorem dX0_isAnswered_29 : decode cX0_isAnswered 29 = .ok (.getfield 53, 3) := by decide +kernel
theorem dX0_isAnswered_32 : decode cX0_isAnswered 32 = .ok (.ireturn, 1) := by decide +kernel
theorem dX0_gatherPlaces_0 : decode cX0_gatherPlaces 0 = .ok (.aload_n 0, 1) := by decide +kernel
theorem dX0_gatherPlaces_1 : decode cX0_gatherPlaces 1 = .ok (.iconst 0, 1) := by decide +kernel
theorem dX0_gatherPlaces_2 : decode cX0_gatherPlaces 2 = .ok (.putfield 67, 3) := by decide +kernel
theorem dX0_gatherPlaces_5 : decode cX0_gatherPlaces 5 = .ok (.aload_n 0, 1) := by decide +kernel
theorem dX0_gatherPlaces_6 : decode cX0_gatherPlaces 6 = .ok (.iconst 1, 1) := by decide +kernel
theorem dX0_gatherPlaces_7 : decode cX0_gatherPlaces 7 = .ok (.putfield 63, 3) := by decide +kernel
theorem dX0_gatherPlaces_10 : decode cX0_gatherPlaces 10 = .ok (.iconst 0, 1) := by decide +kernel
theorem dX0_gatherPlaces_11 : decode cX0_gatherPlaces 11 = .ok (.istore_n 1, 1) := by decide +kernel
theorem dX0_gatherPlaces_12 : decode cX0_gatherPlaces 12 = .ok (.iload_n 1, 1) := by decide +kernel
theorem dX0_gatherPlaces_13 : decode cX0_gatherPlaces 13 = .ok (.bipush 64, 2) := by decide +kernel
theorem dX0_gatherPlaces_15 : decode cX0_gatherPlaces 15 = .ok (.if_icmp .ge 92, 3) := by decide +kernel
theorem dX0_gatherPlaces_18 : decode cX0_gatherPlaces 18 = .ok (.aload_n 0, 1) := by decide +kernel
theorem dX0_gatherPlaces_19 : decode cX0_gatherPlaces 19 = .ok (.getfield 67, 3) := by decide +kernel
theorem dX0_gatherPlaces_22 : decode cX0_gatherPlaces 22 = .ok (.bipush 12, 2) := by decide +kernel
theorem dX0_gatherPlaces_24 : decode cX0_gatherPlaces 24 = .ok (.if_icmp .ge 83, 3) := by decide +kernel
theorem dX0_gatherPlaces_27 : decode cX0_gatherPlaces 27 = .ok (.aload_n 0, 1) := by decide +kernel
theorem dX0_gatherPlaces_28 : decode cX0_gatherPlaces 28 = .ok (.getfield 9, 3) := by decide +kernel
theorem dX0_gatherPlaces_31 : decode cX0_gatherPlaces 31 = .ok (.iload_n 1, 1) := by decide +kernel
theorem dX0_gatherPlaces_32 : decode cX0_gatherPlaces 32 = .ok (.iaload, 1) := by decide +kernel
theorem dX0_gatherPlaces_33 : decode cX0_gatherPlaces 33 = .ok (.ifCond .le 68, 3) := by decide +kernel
theorem dX0_gatherPlaces_36 : decode cX0_gatherPlaces 36 = .ok (.aload_n 0, 1) := by decide +kernel
theorem dX0_gatherPlaces_37 : decode cX0_gatherPlaces 37 = .ok (.getfield 15, 3) := by decide +kernel
theorem dX0_gatherPlaces_40 : decode cX0_gatherPlaces 40 = .ok (.aload_n 0, 1) := by decide +kernel
theorem dX0_gatherPlaces_41 : decode cX0_gatherPlaces 41 = .ok (.getfield 67, 3) := by decide +kernel
theorem dX0_gatherPlaces_44 : decode cX0_gatherPlaces 44 = .ok (.iload_n 1, 1) := by decide +kernel
theorem dX0_gatherPlaces_45 : decode cX0_gatherPlaces 45 = .ok (.iastore, 1) := by decide +kernel
theorem dX0_gatherPlaces_46 : decode cX0_gatherPlaces 46 = .ok (.aload_n 0, 1) := by decide +kernel
theorem dX0_gatherPlaces_47 : decode cX0_gatherPlaces 47 = .ok (.getfield 18, 3) := by decide +kernel
theorem dX0_gatherPlaces_50 : decode cX0_gatherPlaces 50 = .ok (.aload_n 0, 1) := by decide +kernel
theorem dX0_gatherPlaces_51 : decode cX0_gatherPlaces 51 = .ok (.getfield 67, 3) := by decide +kernel
theorem dX0_gatherPlaces_54 : decode cX0_gatherPlaces 54 = .ok (.aload_n 0, 1) := by decide +kernel
theorem dX0_gatherPlaces_55 : decode cX0_gatherPlaces 55 = .ok (.getfield 9, 3) := by decide +kernel
theorem dX0_gatherPlaces_58 : decode cX0_gatherPlaces 58 = .ok (.iload_n 1, 1) := by decide +kernel
theorem dX0_gatherPlaces_59 : decode cX0_gatherPlaces 59 = .ok (.iaload, 1) := by decide +kernel
theorem dX0_gatherPlaces_60 : decode cX0_gatherPlaces 60 = .ok (.iastore, 1) := by decide +kernel
theorem dX0_gatherPlaces_61 : decode cX0_gatherPlaces 61 = .ok (.aload_n 0, 1) := by decide +kernel
theorem dX0_gatherPlaces_62 : decode cX0_gatherPlaces 62 = .ok (.getfield 21, 3) := by decide +kernel
theorem dX0_gatherPlaces_65 : decode cX0_gatherPlaces 65 = .ok (.aload_n 0, 1) := by decide +kernel
theorem dX0_gatherPlaces_66 : decode cX0_gatherPlaces 66 = .ok (.getfield 67, 3) := by decide +kernel
theorem dX0_gatherPlaces_69 : decode cX0_gatherPlaces 69 = .ok (.aload_n 0, 1) := by decide +kernel
theorem dX0_gatherPlaces_70 : decode cX0_gatherPlaces 70 = .ok (.getfield 63, 3) := by decide +kernel
theorem dX0_gatherPlaces_73 : decode cX0_gatherPlaces 73 = .ok (.iastore, 1) := by decide +kernel
theorem dX0_gatherPlaces_74 : decode cX0_gatherPlaces 74 = .ok (.aload_n 0, 1) := by decide +kernel
theorem dX0_gatherPlaces_75 : decode cX0_gatherPlaces 75 = .ok (.dup, 1) := by decide +kernel
theorem dX0_gatherPlaces_76 : decode cX0_gatherPlaces 76 = .ok (.getfield 63, 3) := by decide +kernel
theorem dX0_gatherPlaces_79 : decode cX0_gatherPlaces 79 = .ok (.aload_n 0, 1) := by decide +kernel
theorem dX0_gatherPlaces_80 : decode cX0_gatherPlaces 80 = .ok (.getfield 9, 3) := by decide +kernel
theorem dX0_gatherPlaces_83 : decode cX0_gatherPlaces 83 = .ok (.iload_n 1, 1) := by decide +kernel
theorem dX0_gatherPlaces_84 : decode cX0_gatherPlaces 84 = .ok (.iaload, 1) := by decide +kernel
theorem dX0_gatherPlaces_85 : decode cX0_gatherPlaces 85 = .ok (.iconst 1, 1) := by decide +kernel
theorem dX0_gatherPlaces_86 : decode cX0_gatherPlaces 86 = .ok (.iadd, 1) := by decide +kernel
theorem dX0_gatherPlaces_87 : decode cX0_gatherPlaces 87 = .ok (.imul, 1) := by decide +kernel
theorem dX0_gatherPlaces_88 : decode cX0_gatherPlaces 88 = .ok (.putfield 63, 3) := by decide +kernel
theorem dX0_gatherPlaces_91 : decode cX0_gatherPlaces 91 = .ok (.aload_n 0, 1) := by decide +kernel
theorem dX0_gatherPlaces_92 : decode cX0_gatherPlaces 92 = .ok (.dup, 1) := by decide +kernel
theorem dX0_gatherPlaces_93 : decode cX0_gatherPlaces 93 = .ok (.getfield 67, 3) := by decide +kernel
theorem dX0_gatherPlaces_96 : decode cX0_gatherPlaces 96 = .ok (.iconst 1, 1) := by decide +kernel
theorem dX0_gatherPlaces_97 : decode cX0_gatherPlaces 97 = .ok (.iadd, 1) := by decide +kernel
theorem dX0_gatherPlaces_98 : decode cX0_gatherPlaces 98 = .ok (.putfield 67, 3) := by decide +kernel
theorem dX0_gatherPlaces_101 : decode cX0_gatherPlaces 101 = .ok (.iinc 1 1, 3) := by decide +kernel
theorem dX0_gatherPlaces_104 : decode cX0_gatherPlaces 104 = .ok (.goto (-92), 3) := by decide +kernel
theorem dX0_gatherPlaces_107 : decode cX0_gatherPlaces 107 = .ok (.return_, 1) := by decide +kernel
set_option maxRecDepth 20000 in
theorem ggX0_measureGaps_J6_bitCount_0f7a4 : GoodIn wsX0_measureGaps wsJ6_bitCount_0f7a4 := goodIn_r _ [7, 8, 9, 10] (by decide +kernel) (by decide +kernel)
set_option maxRecDepth 20000 in
theorem gX0_measureGaps_J6_bitCount_0f7a4 : GoodIn wsX0_measureGaps (va_wsS RX0 80 yJ6_bitCount_0f7a4 wsJ6_bitCount_0f7a4) := goodIn_app (goodIn_of _ (by decide +kernel)) ggX0_measureGaps_J6_bitCount_0f7a4
theorem dX0_measureGaps_0 : decode cX0_measureGaps 0 = .ok (.iconst 0, 1) := by decide +kernel
theorem dX0_measureGaps_1 : decode cX0_measureGaps 1 = .ok (.istore_n 1, 1) := by decide +kernel
theorem dX0_measureGaps_2 : decode cX0_measureGaps 2 = .ok (.iload_n 1, 1) := by decide +kernel
theorem dX0_measureGaps_3 : decode cX0_measureGaps 3 = .ok (.aload_n 0, 1) := by decide +kernel
theorem dX0_measureGaps_4 : decode cX0_measureGaps 4 = .ok (.getfield 67, 3) := by decide +kernel
theorem dX0_measureGaps_7 : decode cX0_measureGaps 7 = .ok (.if_icmp .ge 52, 3) := by decide +kernel
theorem dX0_measureGaps_10 : decode cX0_measureGaps 10 = .ok (.iconst 0, 1) := by decide +kernel
theorem dX0_measureGaps_11 : decode cX0_measureGaps 11 = .ok (.istore_n 2, 1) := by decide +kernel
theorem dX0_measureGaps_12 : decode cX0_measureGaps 12 = .ok (.iload_n 2, 1) := by decide +kernel
theorem dX0_measureGaps_13 : decode cX0_measureGaps 13 = .ok (.aload_n 0, 1) := by decide +kernel
theorem dX0_measureGaps_14 : decode cX0_measureGaps 14 = .ok (.getfield 67, 3) := by decide +kernel
theorem dX0_measureGaps_17 : decode cX0_measureGaps 17 = .ok (.if_icmp .ge 36, 3) := by decide +kernel
theorem dX0_measureGaps_20 : decode cX0_measureGaps 20 = .ok (.aload_n 0, 1) := by decide +kernel
theorem dX0_measureGaps_21 : decode cX0_measureGaps 21 = .ok (.getfield 24, 3) := by decide +kernel
theorem dX0_measureGaps_24 : decode cX0_measureGaps 24 = .ok (.iload_n 1, 1) := by decide +kernel
theorem dX0_measureGaps_25 : decode cX0_measureGaps 25 = .ok (.bipush 12, 2) := by decide +kernel
theorem dX0_measureGaps_27 : decode cX0_measureGaps 27 = .ok (.imul, 1) := by decide +kernel
theorem dX0_measureGaps_28 : decode cX0_measureGaps 28 = .ok (.iload_n 2, 1) := by decide +kernel
theorem dX0_measureGaps_29 : decode cX0_measureGaps 29 = .ok (.iadd, 1) := by decide +kernel
theorem dX0_measureGaps_30 : decode cX0_measureGaps 30 = .ok (.aload_n 0, 1) := by decide +kernel
theorem dX0_measureGaps_31 : decode cX0_measureGaps 31 = .ok (.getfield 15, 3) := by decide +kernel
theorem dX0_measureGaps_34 : decode cX0_measureGaps 34 = .ok (.iload_n 1, 1) := by decide +kernel
theorem dX0_measureGaps_35 : decode cX0_measureGaps 35 = .ok (.iaload, 1) := by decide +kernel
theorem dX0_measureGaps_36 : decode cX0_measureGaps 36 = .ok (.aload_n 0, 1) := by decide +kernel
theorem dX0_measureGaps_37 : decode cX0_measureGaps 37 = .ok (.getfield 15, 3) := by decide +kernel
theorem dX0_measureGaps_40 : decode cX0_measureGaps 40 = .ok (.iload_n 2, 1) := by decide +kernel
theorem dX0_measureGaps_41 : decode cX0_measureGaps 41 = .ok (.iaload, 1) := by decide +kernel
theorem dX0_measureGaps_42 : decode cX0_measureGaps 42 = .ok (.ixor, 1) := by decide +kernel
theorem dX0_measureGaps_43 : decode cX0_measureGaps 43 = .ok (.invokestatic 80, 3) := by decide +kernel
theorem dX0_measureGaps_46 : decode cX0_measureGaps 46 = .ok (.iastore, 1) := by decide +kernel
theorem dX0_measureGaps_47 : decode cX0_measureGaps 47 = .ok (.iinc 2 1, 3) := by decide +kernel
theorem dX0_measureGaps_50 : decode cX0_measureGaps 50 = .ok (.goto (-38), 3) := by decide +kernel
theorem dX0_measureGaps_53 : decode cX0_measureGaps 53 = .ok (.iinc 1 1, 3) := by decide +kernel
theorem dX0_measureGaps_56 : decode cX0_measureGaps 56 = .ok (.goto (-54), 3) := by decide +kernel
theorem dX0_measureGaps_59 : decode cX0_measureGaps 59 = .ok (.return_, 1) := by decide +kernel
theorem dX0_makeRoom_0 : decode cX0_makeRoom 0 = .ok (.iload_n 1, 1) := by decide +kernel
theorem dX0_makeRoom_1 : decode cX0_makeRoom 1 = .ok (.aload_n 0, 1) := by decide +kernel
theorem dX0_makeRoom_2 : decode cX0_makeRoom 2 = .ok (.getfield 27, 3) := by decide +kernel
theorem dX0_makeRoom_5 : decode cX0_makeRoom 5 = .ok (.arraylength, 1) := by decide +kernel
theorem dX0_makeRoom_6 : decode cX0_makeRoom 6 = .ok (.if_icmp .le 31, 3) := by decide +kernel
theorem dX0_makeRoom_9 : decode cX0_makeRoom 9 = .ok (.iload_n 1, 1) := by decide +kernel
theorem dX0_makeRoom_10 : decode cX0_makeRoom 10 = .ok (.ldc 86, 2) := by decide +kernel
theorem dX0_makeRoom_12 : decode cX0_makeRoom 12 = .ok (.if_icmp .gt 25, 3) := by decide +kernel
theorem dX0_makeRoom_15 : decode cX0_makeRoom 15 = .ok (.aload_n 0, 1) := by decide +kernel
theorem dX0_makeRoom_16 : decode cX0_makeRoom 16 = .ok (.ldc 86, 2) := by decide +kernel
theorem dX0_makeRoom_18 : decode cX0_makeRoom 18 = .ok (.iload_n 1, 1) := by decide +kernel
theorem dX0_makeRoom_19 : decode cX0_makeRoom 19 = .ok (.iconst 2, 1) := by decide +kernel
theorem dX0_makeRoom_20 : decode cX0_makeRoom 20 = .ok (.aload_n 0, 1) := by decide +kernel
theorem dX0_makeRoom_21 : decode cX0_makeRoom 21 = .ok (.getfield 27, 3) := by decide +kernel
theorem dX0_makeRoom_24 : decode cX0_makeRoom 24 = .ok (.arraylength, 1) := by decide +kernel
theorem dX0_makeRoom_25 : decode cX0_makeRoom 25 = .ok (.imul, 1) := by decide +kernel
theorem dX0_makeRoom_26 : decode cX0_makeRoom 26 = .ok (.invokestatic 87, 3) := by decide +kernel
theorem dX0_makeRoom_29 : decode cX0_makeRoom 29 = .ok (.invokestatic 93, 3) := by decide +kernel
theorem dX0_makeRoom_32 : decode cX0_makeRoom 32 = .ok (.newarray .byte, 2) := by decide +kernel
theorem dX0_makeRoom_34 : decode cX0_makeRoom 34 = .ok (.putfield 27, 3) := by decide +kernel
theorem dX0_makeRoom_37 : decode cX0_makeRoom 37 = .ok (.return_, 1) := by decide +kernel
set_option maxRecDepth 20000 in
theorem ggX0_weighStates_J7_fill_53178 : GoodIn wsX0_weighStates wsJ7_fill_53178 := goodIn_r _ [10] (by decide +kernel) (by decide +kernel)
set_option maxRecDepth 20000 in
theorem gX0_weighStates_J7_fill_53178 : GoodIn wsX0_weighStates (va_wsS RX0 96 yJ7_fill_53178 wsJ7_fill_53178) := goodIn_app (goodIn_of _ (by decide +kernel)) ggX0_weighStates_J7_fill_53178
set_option maxRecDepth 20000 in
theorem ggX0_weighStates_X0_listOpen : GoodIn wsX0_weighStates wsX0_listOpen := goodIn_r _ [15, 6, 3, 16, 1, 5, 17, 18, 32, 33, 34, 35, 36, 37, 38, 39, 40, 41, 42, 43, 44, 45, 46] (by decide +kernel) (by decide +kernel)
set_option maxRecDepth 20000 in
theorem gX0_weighStates_X0_listOpen : GoodIn wsX0_weighStates (wsV RX0 102 RX0 yX0_listOpen wsX0_listOpen) := goodIn_app (goodIn_of _ (by decide +kernel)) ggX0_weighStates_X0_listOpen
set_option maxRecDepth 20000 in
theorem ggX0_weighStates_X0_firstLeast : GoodIn wsX0_weighStates wsX0_firstLeast := goodIn_r _ [22, 6, 23, 17, 18, 32, 33, 34, 35, 36, 37, 38, 39, 40, 41, 42, 43, 44, 45, 46] (by decide +kernel) (by decide +kernel)
set_option maxRecDepth 20000 in
theorem gX0_weighStates_X0_firstLeast : GoodIn wsX0_weighStates (wsV RX0 108 RX0 yX0_firstLeast wsX0_firstLeast) := goodIn_app (goodIn_of _ (by decide +kernel)) ggX0_weighStates_X0_firstLeast
set_option maxRecDepth 20000 in
theorem ggX0_weighStates_X0_changesBy : GoodIn wsX0_weighStates wsX0_changesBy := goodIn_r _ [27, 23, 17, 18, 32, 33, 34, 35, 36, 37, 38, 39, 40, 41, 42, 43, 44, 45, 46] (by decide +kernel) (by decide +kernel)
set_option maxRecDepth 20000 in
theorem gX0_weighStates_X0_changesBy : GoodIn wsX0_weighStates (wsV RX0 111 RX0 yX0_changesBy wsX0_changesBy) := goodIn_app (goodIn_of _ (by decide +kernel)) ggX0_weighStates_X0_changesBy
set_option maxRecDepth 20000 in
theorem ggX0_weighStates_X0_countOn : GoodIn wsX0_weighStates wsX0_countOn := goodIn_r _ [31, 3, 1, 4, 32, 33, 34, 35, 36, 37, 38, 39, 40, 41, 42, 43, 44, 45, 46] (by decide +kernel) (by decide +kernel)
set_option maxRecDepth 20000 in
theorem gX0_weighStates_X0_countOn : GoodIn wsX0_weighStates (wsV RX0 114 RX0 yX0_countOn wsX0_countOn) := goodIn_app (goodIn_of _ (by decide +kernel)) ggX0_weighStates_X0_countOn
theorem dX0_weighStates_0 : decode cX0_weighStates 0 = .ok (.aload_n 0, 1) := by decide +kernel
theorem dX0_weighStates_1 : decode cX0_weighStates 1 = .ok (.getfield 31, 3) := by decide +kernel
theorem dX0_weighStates_4 : decode cX0_weighStates 4 = .ok (.iconst 0, 1) := by decide +kernel
theorem dX0_weighStates_5 : decode cX0_weighStates 5 = .ok (.invokestatic 96, 3) := by decide +kernel
theorem dX0_weighStates_8 : decode cX0_weighStates 8 = .ok (.iconst 0, 1) := by decide +kernel
theorem dX0_weighStates_9 : decode cX0_weighStates 9 = .ok (.istore_n 1, 1) := by decide +kernel
theorem dX0_weighStates_10 : decode cX0_weighStates 10 = .ok (.iload_n 1, 1) := by decide +kernel
theorem dX0_weighStates_11 : decode cX0_weighStates 11 = .ok (.aload_n 0, 1) := by decide +kernel
theorem dX0_weighStates_12 : decode cX0_weighStates 12 = .ok (.getfield 63, 3) := by decide +kernel
theorem dX0_weighStates_15 : decode cX0_weighStates 15 = .ok (.if_icmp .ge 95, 3) := by decide +kernel
theorem dX0_weighStates_18 : decode cX0_weighStates 18 = .ok (.aload_n 0, 1) := by decide +kernel
theorem dX0_weighStates_19 : decode cX0_weighStates 19 = .ok (.iload_n 1, 1) := by decide +kernel
theorem dX0_weighStates_20 : decode cX0_weighStates 20 = .ok (.invokevirtual 102, 3) := by decide +kernel
theorem dX0_weighStates_23 : decode cX0_weighStates 23 = .ok (.iconst 0, 1) := by decide +kernel
theorem dX0_weighStates_24 : decode cX0_weighStates 24 = .ok (.istore_n 2, 1) := by decide +kernel
theorem dX0_weighStates_25 : decode cX0_weighStates 25 = .ok (.iload_n 2, 1) := by decide +kernel
theorem dX0_weighStates_26 : decode cX0_weighStates 26 = .ok (.aload_n 0, 1) := by decide +kernel
theorem dX0_weighStates_27 : decode cX0_weighStates 27 = .ok (.getfield 67, 3) := by decide +kernel
theorem dX0_weighStates_30 : decode cX0_weighStates 30 = .ok (.if_icmp .ge 70, 3) := by decide +kernel
theorem dX0_weighStates_33 : decode cX0_weighStates 33 = .ok (.iload_n 1, 1) := by decide +kernel
theorem dX0_weighStates_34 : decode cX0_weighStates 34 = .ok (.aload_n 0, 1) := by decide +kernel
theorem dX0_weighStates_35 : decode cX0_weighStates 35 = .ok (.getfield 67, 3) := by decide +kernel
theorem dX0_weighStates_38 : decode cX0_weighStates 38 = .ok (.imul, 1) := by decide +kernel
theorem dX0_weighStates_39 : decode cX0_weighStates 39 = .ok (.iload_n 2, 1) := by decide +kernel
theorem dX0_weighStates_40 : decode cX0_weighStates 40 = .ok (.iadd, 1) := by decide +kernel
theorem dX0_weighStates_41 : decode cX0_weighStates 41 = .ok (.istore_n 3, 1) := by decide +kernel
theorem dX0_weighStates_42 : decode cX0_weighStates 42 = .ok (.aload_n 0, 1) := by decide +kernel
theorem dX0_weighStates_43 : decode cX0_weighStates 43 = .ok (.getfield 31, 3) := by decide +kernel
theorem dX0_weighStates_46 : decode cX0_weighStates 46 = .ok (.iload_n 2, 1) := by decide +kernel
theorem dX0_weighStates_47 : decode cX0_weighStates 47 = .ok (.iaload, 1) := by decide +kernel
theorem dX0_weighStates_48 : decode cX0_weighStates 48 = .ok (.aload_n 0, 1) := by decide +kernel
theorem dX0_weighStates_49 : decode cX0_weighStates 49 = .ok (.getfield 18, 3) := by decide +kernel
theorem dX0_weighStates_52 : decode cX0_weighStates 52 = .ok (.iload_n 2, 1) := by decide +kernel
theorem dX0_weighStates_53 : decode cX0_weighStates 53 = .ok (.iaload, 1) := by decide +kernel
theorem dX0_weighStates_54 : decode cX0_weighStates 54 = .ok (.if_icmp .ge 40, 3) := by decide +kernel
theorem dX0_weighStates_57 : decode cX0_weighStates 57 = .ok (.iload_n 3, 1) := by decide +kernel
theorem dX0_weighStates_58 : decode cX0_weighStates 58 = .ok (.aload_n 0, 1) := by decide +kernel
theorem dX0_weighStates_59 : decode cX0_weighStates 59 = .ok (.getfield 27, 3) := by decide +kernel
theorem dX0_weighStates_62 : decode cX0_weighStates 62 = .ok (.arraylength, 1) := by decide +kernel
theorem dX0_weighStates_63 : decode cX0_weighStates 63 = .ok (.if_icmp .ge 31, 3) := by decide +kernel
theorem dX0_weighStates_66 : decode cX0_weighStates 66 = .ok (.aload_n 0, 1) := by decide +kernel
theorem dX0_weighStates_67 : decode cX0_weighStates 67 = .ok (.getfield 27, 3) := by decide +kernel
theorem dX0_weighStates_70 : decode cX0_weighStates 70 = .ok (.iload_n 3, 1) := by decide +kernel
theorem dX0_weighStates_71 : decode cX0_weighStates 71 = .ok (.aload_n 0, 1) := by decide +kernel
theorem dX0_weighStates_72 : decode cX0_weighStates 72 = .ok (.getfield 105, 3) := by decide +kernel
theorem dX0_weighStates_75 : decode cX0_weighStates 75 = .ok (.ifCond .ne 7, 3) := by decide +kernel
theorem dX0_weighStates_78 : decode cX0_weighStates 78 = .ok (.iconst 0, 1) := by decide +kernel
theorem dX0_weighStates_79 : decode cX0_weighStates 79 = .ok (.goto 13, 3) := by decide +kernel
theorem dX0_weighStates_82 : decode cX0_weighStates 82 = .ok (.aload_n 0, 1) := by decide +kernel
theorem dX0_weighStates_83 : decode cX0_weighStates 83 = .ok (.iload_n 2, 1) := by decide +kernel
theorem dX0_weighStates_84 : decode cX0_weighStates 84 = .ok (.aload_n 0, 1) := by decide +kernel
theorem dX0_weighStates_85 : decode cX0_weighStates 85 = .ok (.iload_n 2, 1) := by decide +kernel
theorem dX0_weighStates_86 : decode cX0_weighStates 86 = .ok (.invokevirtual 108, 3) := by decide +kernel
theorem dX0_weighStates_89 : decode cX0_weighStates 89 = .ok (.invokevirtual 111, 3) := by decide +kernel
theorem dX0_weighStates_92 : decode cX0_weighStates 92 = .ok (.i2b, 1) := by decide +kernel
theorem dX0_weighStates_93 : decode cX0_weighStates 93 = .ok (.bastore, 1) := by decide +kernel
theorem dX0_weighStates_94 : decode cX0_weighStates 94 = .ok (.iinc 2 1, 3) := by decide +kernel
theorem dX0_weighStates_97 : decode cX0_weighStates 97 = .ok (.goto (-72), 3) := by decide +kernel
theorem dX0_weighStates_100 : decode cX0_weighStates 100 = .ok (.aload_n 0, 1) := by decide +kernel
theorem dX0_weighStates_101 : decode cX0_weighStates 101 = .ok (.invokevirtual 114, 3) := by decide +kernel
theorem dX0_weighStates_104 : decode cX0_weighStates 104 = .ok (.iinc 1 1, 3) := by decide +kernel
theorem dX0_weighStates_107 : decode cX0_weighStates 107 = .ok (.goto (-97), 3) := by decide +kernel
theorem dX0_weighStates_110 : decode cX0_weighStates 110 = .ok (.return_, 1) := by decide +kernel
theorem dX0_listOpen_0 : decode cX0_listOpen 0 = .ok (.aload_n 0, 1) := by decide +kernel
theorem dX0_listOpen_1 : decode cX0_listOpen 1 = .ok (.iconst 0, 1) := by decide +kernel
theorem dX0_listOpen_2 : decode cX0_listOpen 2 = .ok (.putfield 105, 3) := by decide +kernel
theorem dX0_listOpen_5 : decode cX0_listOpen 5 = .ok (.iconst 0, 1) := by decide +kernel
theorem dX0_listOpen_6 : decode cX0_listOpen 6 = .ok (.istore_n 2, 1) := by decide +kernel
theorem dX0_listOpen_7 : decode cX0_listOpen 7 = .ok (.iload_n 2, 1) := by decide +kernel
theorem dX0_listOpen_8 : decode cX0_listOpen 8 = .ok (.aload_n 0, 1) := by decide +kernel
theorem dX0_listOpen_9 : decode cX0_listOpen 9 = .ok (.getfield 67, 3) := by decide +kernel
theorem dX0_listOpen_12 : decode cX0_listOpen 12 = .ok (.if_icmp .ge 82, 3) := by decide +kernel
theorem dX0_listOpen_15 : decode cX0_listOpen 15 = .ok (.iload_n 1, 1) := by decide +kernel
theorem dX0_listOpen_16 : decode cX0_listOpen 16 = .ok (.aload_n 0, 1) := by decide +kernel
theorem dX0_listOpen_17 : decode cX0_listOpen 17 = .ok (.getfield 21, 3) := by decide +kernel
theorem dX0_listOpen_20 : decode cX0_listOpen 20 = .ok (.iload_n 2, 1) := by decide +kernel
theorem dX0_listOpen_21 : decode cX0_listOpen 21 = .ok (.iaload, 1) := by decide +kernel
theorem dX0_listOpen_22 : decode cX0_listOpen 22 = .ok (.isub, 1) := by decide +kernel
theorem dX0_listOpen_23 : decode cX0_listOpen 23 = .ok (.aload_n 0, 1) := by decide +kernel
theorem dX0_listOpen_24 : decode cX0_listOpen 24 = .ok (.getfield 67, 3) := by decide +kernel
theorem dX0_listOpen_27 : decode cX0_listOpen 27 = .ok (.imul, 1) := by decide +kernel
theorem dX0_listOpen_28 : decode cX0_listOpen 28 = .ok (.iload_n 2, 1) := by decide +kernel
theorem dX0_listOpen_29 : decode cX0_listOpen 29 = .ok (.iadd, 1) := by decide +kernel
theorem dX0_listOpen_30 : decode cX0_listOpen 30 = .ok (.istore_n 3, 1) := by decide +kernel
theorem dX0_listOpen_31 : decode cX0_listOpen 31 = .ok (.aload_n 0, 1) := by decide +kernel
theorem dX0_listOpen_32 : decode cX0_listOpen 32 = .ok (.getfield 31, 3) := by decide +kernel
theorem dX0_listOpen_35 : decode cX0_listOpen 35 = .ok (.iload_n 2, 1) := by decide +kernel
theorem dX0_listOpen_36 : decode cX0_listOpen 36 = .ok (.iaload, 1) := by decide +kernel
theorem dX0_listOpen_37 : decode cX0_listOpen 37 = .ok (.ifCond .le 51, 3) := by decide +kernel
theorem dX0_listOpen_40 : decode cX0_listOpen 40 = .ok (.iload_n 3, 1) := by decide +kernel
theorem dX0_listOpen_41 : decode cX0_listOpen 41 = .ok (.ifCond .lt 47, 3) := by decide +kernel
theorem dX0_listOpen_44 : decode cX0_listOpen 44 = .ok (.iload_n 3, 1) := by decide +kernel
theorem dX0_listOpen_45 : decode cX0_listOpen 45 = .ok (.aload_n 0, 1) := by decide +kernel
theorem dX0_listOpen_46 : decode cX0_listOpen 46 = .ok (.getfield 27, 3) := by decide +kernel
theorem dX0_listOpen_49 : decode cX0_listOpen 49 = .ok (.arraylength, 1) := by decide +kernel
theorem dX0_listOpen_50 : decode cX0_listOpen 50 = .ok (.if_icmp .ge 38, 3) := by decide +kernel
theorem dX0_listOpen_53 : decode cX0_listOpen 53 = .ok (.aload_n 0, 1) := by decide +kernel
theorem dX0_listOpen_54 : decode cX0_listOpen 54 = .ok (.getfield 34, 3) := by decide +kernel
theorem dX0_listOpen_57 : decode cX0_listOpen 57 = .ok (.aload_n 0, 1) := by decide +kernel
theorem dX0_listOpen_58 : decode cX0_listOpen 58 = .ok (.getfield 105, 3) := by decide +kernel
theorem dX0_listOpen_61 : decode cX0_listOpen 61 = .ok (.iload_n 2, 1) := by decide +kernel
theorem dX0_listOpen_62 : decode cX0_listOpen 62 = .ok (.iastore, 1) := by decide +kernel
theorem dX0_listOpen_63 : decode cX0_listOpen 63 = .ok (.aload_n 0, 1) := by decide +kernel
theorem dX0_listOpen_64 : decode cX0_listOpen 64 = .ok (.getfield 37, 3) := by decide +kernel
theorem dX0_listOpen_67 : decode cX0_listOpen 67 = .ok (.aload_n 0, 1) := by decide +kernel
theorem dX0_listOpen_68 : decode cX0_listOpen 68 = .ok (.getfield 105, 3) := by decide +kernel
theorem dX0_listOpen_71 : decode cX0_listOpen 71 = .ok (.aload_n 0, 1) := by decide +kernel
theorem dX0_listOpen_72 : decode cX0_listOpen 72 = .ok (.getfield 27, 3) := by decide +kernel
theorem dX0_listOpen_75 : decode cX0_listOpen 75 = .ok (.iload_n 3, 1) := by decide +kernel
theorem dX0_listOpen_76 : decode cX0_listOpen 76 = .ok (.baload, 1) := by decide +kernel
theorem dX0_listOpen_77 : decode cX0_listOpen 77 = .ok (.iastore, 1) := by decide +kernel
theorem dX0_listOpen_78 : decode cX0_listOpen 78 = .ok (.aload_n 0, 1) := by decide +kernel
theorem dX0_listOpen_79 : decode cX0_listOpen 79 = .ok (.dup, 1) := by decide +kernel
theorem dX0_listOpen_80 : decode cX0_listOpen 80 = .ok (.getfield 105, 3) := by decide +kernel
theorem dX0_listOpen_83 : decode cX0_listOpen 83 = .ok (.iconst 1, 1) := by decide +kernel
theorem dX0_listOpen_84 : decode cX0_listOpen 84 = .ok (.iadd, 1) := by decide +kernel
theorem dX0_listOpen_85 : decode cX0_listOpen 85 = .ok (.putfield 105, 3) := by decide +kernel
theorem dX0_listOpen_88 : decode cX0_listOpen 88 = .ok (.iinc 2 1, 3) := by decide +kernel
theorem dX0_listOpen_91 : decode cX0_listOpen 91 = .ok (.goto (-84), 3) := by decide +kernel
theorem dX0_listOpen_94 : decode cX0_listOpen 94 = .ok (.return_, 1) := by decide +kernel
theorem dX0_countOn_0 : decode cX0_countOn 0 = .ok (.iconst 0, 1) := by decide +kernel
theorem dX0_countOn_1 : decode cX0_countOn 1 = .ok (.istore_n 1, 1) := by decide +kernel
theorem dX0_countOn_2 : decode cX0_countOn 2 = .ok (.iload_n 1, 1) := by decide +kernel
theorem dX0_countOn_3 : decode cX0_countOn 3 = .ok (.aload_n 0, 1) := by decide +kernel
theorem dX0_countOn_4 : decode cX0_countOn 4 = .ok (.getfield 67, 3) := by decide +kernel
theorem dX0_countOn_7 : decode cX0_countOn 7 = .ok (.if_icmp .ge 42, 3) := by decide +kernel
theorem dX0_countOn_10 : decode cX0_countOn 10 = .ok (.aload_n 0, 1) := by decide +kernel
theorem dX0_countOn_11 : decode cX0_countOn 11 = .ok (.getfield 31, 3) := by decide +kernel
theorem dX0_countOn_14 : decode cX0_countOn 14 = .ok (.iload_n 1, 1) := by decide +kernel
theorem dX0_countOn_15 : decode cX0_countOn 15 = .ok (.iaload, 1) := by decide +kernel
theorem dX0_countOn_16 : decode cX0_countOn 16 = .ok (.aload_n 0, 1) := by decide +kernel
theorem dX0_countOn_17 : decode cX0_countOn 17 = .ok (.getfield 18, 3) := by decide +kernel
theorem dX0_countOn_20 : decode cX0_countOn 20 = .ok (.iload_n 1, 1) := by decide +kernel
theorem dX0_countOn_21 : decode cX0_countOn 21 = .ok (.iaload, 1) := by decide +kernel
theorem dX0_countOn_22 : decode cX0_countOn 22 = .ok (.if_icmp .ge 14, 3) := by decide +kernel
theorem dX0_countOn_25 : decode cX0_countOn 25 = .ok (.aload_n 0, 1) := by decide +kernel
theorem dX0_countOn_26 : decode cX0_countOn 26 = .ok (.getfield 31, 3) := by decide +kernel
theorem dX0_countOn_29 : decode cX0_countOn 29 = .ok (.iload_n 1, 1) := by decide +kernel
theorem dX0_countOn_30 : decode cX0_countOn 30 = .ok (.dup2, 1) := by decide +kernel
theorem dX0_countOn_31 : decode cX0_countOn 31 = .ok (.iaload, 1) := by decide +kernel
theorem dX0_countOn_32 : decode cX0_countOn 32 = .ok (.iconst 1, 1) := by decide +kernel
theorem dX0_countOn_33 : decode cX0_countOn 33 = .ok (.iadd, 1) := by decide +kernel
theorem dX0_countOn_34 : decode cX0_countOn 34 = .ok (.iastore, 1) := by decide +kernel
theorem dX0_countOn_35 : decode cX0_countOn 35 = .ok (.return_, 1) := by decide +kernel
theorem dX0_countOn_36 : decode cX0_countOn 36 = .ok (.aload_n 0, 1) := by decide +kernel
theorem dX0_countOn_37 : decode cX0_countOn 37 = .ok (.getfield 31, 3) := by decide +kernel
theorem dX0_countOn_40 : decode cX0_countOn 40 = .ok (.iload_n 1, 1) := by decide +kernel
theorem dX0_countOn_41 : decode cX0_countOn 41 = .ok (.iconst 0, 1) := by decide +kernel
theorem dX0_countOn_42 : decode cX0_countOn 42 = .ok (.iastore, 1) := by decide +kernel
theorem dX0_countOn_43 : decode cX0_countOn 43 = .ok (.iinc 1 1, 3) := by decide +kernel
theorem dX0_countOn_46 : decode cX0_countOn 46 = .ok (.goto (-44), 3) := by decide +kernel
theorem dX0_countOn_49 : decode cX0_countOn 49 = .ok (.return_, 1) := by decide +kernel
theorem dX0_changesBy_0 : decode cX0_changesBy 0 = .ok (.aload_n 0, 1) := by decide +kernel
theorem dX0_changesBy_1 : decode cX0_changesBy 1 = .ok (.getfield 24, 3) := by decide +kernel
theorem dX0_changesBy_4 : decode cX0_changesBy 4 = .ok (.iload_n 1, 1) := by decide +kernel
theorem dX0_changesBy_5 : decode cX0_changesBy 5 = .ok (.bipush 12, 2) := by decide +kernel
theorem dX0_changesBy_7 : decode cX0_changesBy 7 = .ok (.imul, 1) := by decide +kernel
theorem dX0_changesBy_8 : decode cX0_changesBy 8 = .ok (.aload_n 0, 1) := by decide +kernel
theorem dX0_changesBy_9 : decode cX0_changesBy 9 = .ok (.getfield 34, 3) := by decide +kernel
theorem dX0_changesBy_12 : decode cX0_changesBy 12 = .ok (.iload_n 2, 1) := by decide +kernel
theorem dX0_changesBy_13 : decode cX0_changesBy 13 = .ok (.iaload, 1) := by decide +kernel
theorem dX0_changesBy_14 : decode cX0_changesBy 14 = .ok (.iadd, 1) := by decide +kernel
theorem dX0_changesBy_15 : decode cX0_changesBy 15 = .ok (.iaload, 1) := by decide +kernel
theorem dX0_changesBy_16 : decode cX0_changesBy 16 = .ok (.aload_n 0, 1) := by decide +kernel
theorem dX0_changesBy_17 : decode cX0_changesBy 17 = .ok (.getfield 37, 3) := by decide +kernel
theorem dX0_changesBy_20 : decode cX0_changesBy 20 = .ok (.iload_n 2, 1) := by decide +kernel
theorem dX0_changesBy_21 : decode cX0_changesBy 21 = .ok (.iaload, 1) := by decide +kernel
theorem dX0_changesBy_22 : decode cX0_changesBy 22 = .ok (.iadd, 1) := by decide +kernel
theorem dX0_changesBy_23 : decode cX0_changesBy 23 = .ok (.ireturn, 1) := by decide +kernel
theorem dX0_firstLeast_0 : decode cX0_firstLeast 0 = .ok (.iload_n 1, 1) := by decide +kernel
theorem dX0_firstLeast_1 : decode cX0_firstLeast 1 = .ok (.bipush 12, 2) := by decide +kernel
theorem dX0_firstLeast_3 : decode cX0_firstLeast 3 = .ok (.imul, 1) := by decide +kernel
theorem dX0_firstLeast_4 : decode cX0_firstLeast 4 = .ok (.istore_n 2, 1) := by decide +kernel
theorem dX0_firstLeast_5 : decode cX0_firstLeast 5 = .ok (.iconst 0, 1) := by decide +kernel
theorem dX0_firstLeast_6 : decode cX0_firstLeast 6 = .ok (.istore_n 3, 1) := by decide +kernel
theorem dX0_firstLeast_7 : decode cX0_firstLeast 7 = .ok (.bipush 72, 2) := by decide +kernel
theorem dX0_firstLeast_9 : decode cX0_firstLeast 9 = .ok (.istore 4, 2) := by decide +kernel
theorem dX0_firstLeast_11 : decode cX0_firstLeast 11 = .ok (.iconst 0, 1) := by decide +kernel
theorem dX0_firstLeast_12 : decode cX0_firstLeast 12 = .ok (.istore 5, 2) := by decide +kernel
theorem dX0_firstLeast_14 : decode cX0_firstLeast 14 = .ok (.iload 5, 2) := by decide +kernel
theorem dX0_firstLeast_16 : decode cX0_firstLeast 16 = .ok (.aload_n 0, 1) := by decide +kernel
theorem dX0_firstLeast_17 : decode cX0_firstLeast 17 = .ok (.getfield 105, 3) := by decide +kernel
theorem dX0_firstLeast_20 : decode cX0_firstLeast 20 = .ok (.if_icmp .ge 47, 3) := by decide +kernel
theorem dX0_firstLeast_23 : decode cX0_firstLeast 23 = .ok (.aload_n 0, 1) := by decide +kernel
theorem dX0_firstLeast_24 : decode cX0_firstLeast 24 = .ok (.getfield 24, 3) := by decide +kernel
theorem dX0_firstLeast_27 : decode cX0_firstLeast 27 = .ok (.iload_n 2, 1) := by decide +kernel
theorem dX0_firstLeast_28 : decode cX0_firstLeast 28 = .ok (.aload_n 0, 1) := by decide +kernel
theorem dX0_firstLeast_29 : decode cX0_firstLeast 29 = .ok (.getfield 34, 3) := by decide +kernel
theorem dX0_firstLeast_32 : decode cX0_firstLeast 32 = .ok (.iload 5, 2) := by decide +kernel
theorem dX0_firstLeast_34 : decode cX0_firstLeast 34 = .ok (.iaload, 1) := by decide +kernel
theorem dX0_firstLeast_35 : decode cX0_firstLeast 35 = .ok (.iadd, 1) := by decide +kernel
theorem dX0_firstLeast_36 : decode cX0_firstLeast 36 = .ok (.iaload, 1) := by decide +kernel
theorem dX0_firstLeast_37 : decode cX0_firstLeast 37 = .ok (.aload_n 0, 1) := by decide +kernel
theorem dX0_firstLeast_38 : decode cX0_firstLeast 38 = .ok (.getfield 37, 3) := by decide +kernel
theorem dX0_firstLeast_41 : decode cX0_firstLeast 41 = .ok (.iload 5, 2) := by decide +kernel
theorem dX0_firstLeast_43 : decode cX0_firstLeast 43 = .ok (.iaload, 1) := by decide +kernel
theorem dX0_firstLeast_44 : decode cX0_firstLeast 44 = .ok (.iadd, 1) := by decide +kernel
theorem dX0_firstLeast_45 : decode cX0_firstLeast 45 = .ok (.istore 6, 2) := by decide +kernel
theorem dX0_firstLeast_47 : decode cX0_firstLeast 47 = .ok (.iload 6, 2) := by decide +kernel
theorem dX0_firstLeast_49 : decode cX0_firstLeast 49 = .ok (.iload 4, 2) := by decide +kernel
theorem dX0_firstLeast_51 : decode cX0_firstLeast 51 = .ok (.if_icmp .ge 10, 3) := by decide +kernel
theorem dX0_firstLeast_54 : decode cX0_firstLeast 54 = .ok (.iload 6, 2) := by decide +kernel
theorem dX0_firstLeast_56 : decode cX0_firstLeast 56 = .ok (.istore 4, 2) := by decide +kernel
theorem dX0_firstLeast_58 : decode cX0_firstLeast 58 = .ok (.iload 5, 2) := by decide +kernel
theorem dX0_firstLeast_60 : decode cX0_firstLeast 60 = .ok (.istore_n 3, 1) := by decide +kernel
theorem dX0_firstLeast_61 : decode cX0_firstLeast 61 = .ok (.iinc 5 1, 3) := by decide +kernel
theorem dX0_firstLeast_64 : decode cX0_firstLeast 64 = .ok (.goto (-50), 3) := by decide +kernel
theorem dX0_firstLeast_67 : decode cX0_firstLeast 67 = .ok (.iload_n 3, 1) := by decide +kernel
theorem dX0_firstLeast_68 : decode cX0_firstLeast 68 = .ok (.ireturn, 1) := by decide +kernel
set_option maxRecDepth 20000 in
theorem ggX0_readChain_X0_listOpen : GoodIn wsX0_readChain wsX0_listOpen := goodIn_r _ [18, 19, 20, 13, 2, 21, 9, 22, 27, 28, 29, 30, 31, 32, 33, 34, 35, 36, 37, 38, 39, 40, 41] (by decide +kernel) (by decide +kernel)
set_option maxRecDepth 20000 in
theorem gX0_readChain_X0_listOpen : GoodIn wsX0_readChain (wsV RX0 102 RX0 yX0_listOpen wsX0_listOpen) := goodIn_app (goodIn_of _ (by decide +kernel)) ggX0_readChain_X0_listOpen
set_option maxRecDepth 20000 in
theorem ggX0_readChain_X0_firstLeast : GoodIn wsX0_readChain wsX0_firstLeast := goodIn_r _ [26, 19, 10, 9, 22, 27, 28, 29, 30, 31, 32, 33, 34, 35, 36, 37, 38, 39, 40, 41] (by decide +kernel) (by decide +kernel)
set_option maxRecDepth 20000 in
theorem gX0_readChain_X0_firstLeast : GoodIn wsX0_readChain (wsV RX0 108 RX0 yX0_firstLeast wsX0_firstLeast) := goodIn_app (goodIn_of _ (by decide +kernel)) ggX0_readChain_X0_firstLeast
theorem dX0_readChain_0 : decode cX0_readChain 0 = .ok (.aload_n 0, 1) := by decide +kernel
theorem dX0_readChain_1 : decode cX0_readChain 1 = .ok (.getfield 18, 3) := by decide +kernel
theorem dX0_readChain_4 : decode cX0_readChain 4 = .ok (.iconst 0, 1) := by decide +kernel
theorem dX0_readChain_5 : decode cX0_readChain 5 = .ok (.aload_n 0, 1) := by decide +kernel
theorem dX0_readChain_6 : decode cX0_readChain 6 = .ok (.getfield 31, 3) := by decide +kernel
theorem dX0_readChain_9 : decode cX0_readChain 9 = .ok (.iconst 0, 1) := by decide +kernel
theorem dX0_readChain_10 : decode cX0_readChain 10 = .ok (.bipush 12, 2) := by decide +kernel
theorem dX0_readChain_12 : decode cX0_readChain 12 = .ok (.invokestatic 47, 3) := by decide +kernel
theorem dX0_readChain_15 : decode cX0_readChain 15 = .ok (.aload_n 0, 1) := by decide +kernel
theorem dX0_readChain_16 : decode cX0_readChain 16 = .ok (.iconst 0, 1) := by decide +kernel
theorem dX0_readChain_17 : decode cX0_readChain 17 = .ok (.putfield 117, 3) := by decide +kernel
theorem dX0_readChain_20 : decode cX0_readChain 20 = .ok (.aload_n 0, 1) := by decide +kernel
theorem dX0_readChain_21 : decode cX0_readChain 21 = .ok (.getfield 63, 3) := by decide +kernel
theorem dX0_readChain_24 : decode cX0_readChain 24 = .ok (.iconst 1, 1) := by decide +kernel
theorem dX0_readChain_25 : decode cX0_readChain 25 = .ok (.isub, 1) := by decide +kernel
theorem dX0_readChain_26 : decode cX0_readChain 26 = .ok (.istore_n 1, 1) := by decide +kernel
theorem dX0_readChain_27 : decode cX0_readChain 27 = .ok (.bipush 12, 2) := by decide +kernel
theorem dX0_readChain_29 : decode cX0_readChain 29 = .ok (.istore_n 2, 1) := by decide +kernel
theorem dX0_readChain_30 : decode cX0_readChain 30 = .ok (.iconst 0, 1) := by decide +kernel
theorem dX0_readChain_31 : decode cX0_readChain 31 = .ok (.istore_n 3, 1) := by decide +kernel
theorem dX0_readChain_32 : decode cX0_readChain 32 = .ok (.iload_n 3, 1) := by decide +kernel
theorem dX0_readChain_33 : decode cX0_readChain 33 = .ok (.bipush 12, 2) := by decide +kernel
theorem dX0_readChain_35 : decode cX0_readChain 35 = .ok (.if_icmp .ge 88, 3) := by decide +kernel
theorem dX0_readChain_38 : decode cX0_readChain 38 = .ok (.iload_n 1, 1) := by decide +kernel
theorem dX0_readChain_39 : decode cX0_readChain 39 = .ok (.ifCond .le 84, 3) := by decide +kernel
theorem dX0_readChain_42 : decode cX0_readChain 42 = .ok (.aload_n 0, 1) := by decide +kernel
theorem dX0_readChain_43 : decode cX0_readChain 43 = .ok (.iload_n 1, 1) := by decide +kernel
theorem dX0_readChain_44 : decode cX0_readChain 44 = .ok (.invokevirtual 102, 3) := by decide +kernel
theorem dX0_readChain_47 : decode cX0_readChain 47 = .ok (.aload_n 0, 1) := by decide +kernel
theorem dX0_readChain_48 : decode cX0_readChain 48 = .ok (.getfield 34, 3) := by decide +kernel
theorem dX0_readChain_51 : decode cX0_readChain 51 = .ok (.aload_n 0, 1) := by decide +kernel
theorem dX0_readChain_52 : decode cX0_readChain 52 = .ok (.iload_n 2, 1) := by decide +kernel
theorem dX0_readChain_53 : decode cX0_readChain 53 = .ok (.invokevirtual 108, 3) := by decide +kernel
theorem dX0_readChain_56 : decode cX0_readChain 56 = .ok (.iaload, 1) := by decide +kernel
theorem dX0_readChain_57 : decode cX0_readChain 57 = .ok (.istore 4, 2) := by decide +kernel
theorem dX0_readChain_59 : decode cX0_readChain 59 = .ok (.aload_n 0, 1) := by decide +kernel
theorem dX0_readChain_60 : decode cX0_readChain 60 = .ok (.dup, 1) := by decide +kernel
theorem dX0_readChain_61 : decode cX0_readChain 61 = .ok (.getfield 117, 3) := by decide +kernel
theorem dX0_readChain_64 : decode cX0_readChain 64 = .ok (.aload_n 0, 1) := by decide +kernel
theorem dX0_readChain_65 : decode cX0_readChain 65 = .ok (.getfield 24, 3) := by decide +kernel
theorem dX0_readChain_68 : decode cX0_readChain 68 = .ok (.iload_n 2, 1) := by decide +kernel
theorem dX0_readChain_69 : decode cX0_readChain 69 = .ok (.bipush 12, 2) := by decide +kernel
theorem dX0_readChain_71 : decode cX0_readChain 71 = .ok (.imul, 1) := by decide +kernel
theorem dX0_readChain_72 : decode cX0_readChain 72 = .ok (.iload 4, 2) := by decide +kernel
theorem dX0_readChain_74 : decode cX0_readChain 74 = .ok (.iadd, 1) := by decide +kernel
theorem dX0_readChain_75 : decode cX0_readChain 75 = .ok (.iaload, 1) := by decide +kernel
theorem dX0_readChain_76 : decode cX0_readChain 76 = .ok (.iadd, 1) := by decide +kernel
theorem dX0_readChain_77 : decode cX0_readChain 77 = .ok (.putfield 117, 3) := by decide +kernel
theorem dX0_readChain_80 : decode cX0_readChain 80 = .ok (.aload_n 0, 1) := by decide +kernel
theorem dX0_readChain_81 : decode cX0_readChain 81 = .ok (.getfield 40, 3) := by decide +kernel
theorem dX0_readChain_84 : decode cX0_readChain 84 = .ok (.iload_n 3, 1) := by decide +kernel
theorem dX0_readChain_85 : decode cX0_readChain 85 = .ok (.aload_n 0, 1) := by decide +kernel
theorem dX0_readChain_86 : decode cX0_readChain 86 = .ok (.getfield 15, 3) := by decide +kernel
theorem dX0_readChain_89 : decode cX0_readChain 89 = .ok (.iload 4, 2) := by decide +kernel
theorem dX0_readChain_91 : decode cX0_readChain 91 = .ok (.iaload, 1) := by decide +kernel
theorem dX0_readChain_92 : decode cX0_readChain 92 = .ok (.iastore, 1) := by decide +kernel
theorem dX0_readChain_93 : decode cX0_readChain 93 = .ok (.aload_n 0, 1) := by decide +kernel
theorem dX0_readChain_94 : decode cX0_readChain 94 = .ok (.getfield 31, 3) := by decide +kernel
theorem dX0_readChain_97 : decode cX0_readChain 97 = .ok (.iload 4, 2) := by decide +kernel
theorem dX0_readChain_99 : decode cX0_readChain 99 = .ok (.dup2, 1) := by decide +kernel
theorem dX0_readChain_100 : decode cX0_readChain 100 = .ok (.iaload, 1) := by decide +kernel
theorem dX0_readChain_101 : decode cX0_readChain 101 = .ok (.iconst 1, 1) := by decide +kernel
theorem dX0_readChain_102 : decode cX0_readChain 102 = .ok (.isub, 1) := by decide +kernel
theorem dX0_readChain_103 : decode cX0_readChain 103 = .ok (.iastore, 1) := by decide +kernel
theorem dX0_readChain_104 : decode cX0_readChain 104 = .ok (.iload_n 1, 1) := by decide +kernel
theorem dX0_readChain_105 : decode cX0_readChain 105 = .ok (.aload_n 0, 1) := by decide +kernel
theorem dX0_readChain_106 : decode cX0_readChain 106 = .ok (.getfield 21, 3) := by decide +kernel
theorem dX0_readChain_109 : decode cX0_readChain 109 = .ok (.iload 4, 2) := by decide +kernel
theorem dX0_readChain_111 : decode cX0_readChain 111 = .ok (.iaload, 1) := by decide +kernel
theorem dX0_readChain_112 : decode cX0_readChain 112 = .ok (.isub, 1) := by decide +kernel
theorem dX0_readChain_113 : decode cX0_readChain 113 = .ok (.istore_n 1, 1) := by decide +kernel
theorem dX0_readChain_114 : decode cX0_readChain 114 = .ok (.iload 4, 2) := by decide +kernel
theorem dX0_readChain_116 : decode cX0_readChain 116 = .ok (.istore_n 2, 1) := by decide +kernel
theorem dX0_readChain_117 : decode cX0_readChain 117 = .ok (.iinc 3 1, 3) := by decide +kernel
theorem dX0_readChain_120 : decode cX0_readChain 120 = .ok (.goto (-88), 3) := by decide +kernel
theorem dX0_readChain_123 : decode cX0_readChain 123 = .ok (.return_, 1) := by decide +kernel
theorem dX1_init_0 : decode cX1_init 0 = .ok (.aload_n 0, 1) := by decide +kernel
theorem dX1_init_1 : decode cX1_init 1 = .ok (.invokespecial 3, 3) := by decide +kernel
theorem dX1_init_4 : decode cX1_init 4 = .ok (.aload_n 0, 1) := by decide +kernel
theorem dX1_init_5 : decode cX1_init 5 = .ok (.iconst 5, 1) := by decide +kernel
theorem dX1_init_6 : decode cX1_init 6 = .ok (.newarray .int, 2) := by decide +kernel
theorem dX1_init_8 : decode cX1_init 8 = .ok (.putfield 9, 3) := by decide +kernel
theorem dX1_init_11 : decode cX1_init 11 = .ok (.aload_n 0, 1) := by decide +kernel
theorem dX1_init_12 : decode cX1_init 12 = .ok (.bipush 64, 2) := by decide +kernel
theorem dX1_init_14 : decode cX1_init 14 = .ok (.newarray .int, 2) := by decide +kernel
theorem dX1_init_16 : decode cX1_init 16 = .ok (.putfield 15, 3) := by decide +kernel
theorem dX1_init_19 : decode cX1_init 19 = .ok (.aload_n 0, 1) := by decide +kernel
theorem dX1_init_20 : decode cX1_init 20 = .ok (.iconst 4, 1) := by decide +kernel
theorem dX1_init_21 : decode cX1_init 21 = .ok (.newarray .int, 2) := by decide +kernel
theorem dX1_init_23 : decode cX1_init 23 = .ok (.putfield 18, 3) := by decide +kernel
theorem dX1_init_26 : decode cX1_init 26 = .ok (.aload_n 0, 1) := by decide +kernel
theorem dX1_init_27 : decode cX1_init 27 = .ok (.iconst 4, 1) := by decide +kernel
theorem dX1_init_28 : decode cX1_init 28 = .ok (.newarray .int, 2) := by decide +kernel
theorem dX1_init_30 : decode cX1_init 30 = .ok (.putfield 21, 3) := by decide +kernel
theorem dX1_init_33 : decode cX1_init 33 = .ok (.aload_n 0, 1) := by decide +kernel
theorem dX1_init_34 : decode cX1_init 34 = .ok (.bipush 64, 2) := by decide +kernel
theorem dX1_init_36 : decode cX1_init 36 = .ok (.newarray .int, 2) := by decide +kernel
theorem dX1_init_38 : decode cX1_init 38 = .ok (.putfield 24, 3) := by decide +kernel
theorem dX1_init_41 : decode cX1_init 41 = .ok (.aload_n 0, 1) := by decide +kernel
theorem dX1_init_42 : decode cX1_init 42 = .ok (.bipush 64, 2) := by decide +kernel
theorem dX1_init_44 : decode cX1_init 44 = .ok (.newarray .int, 2) := by decide +kernel
theorem dX1_init_46 : decode cX1_init 46 = .ok (.putfield 27, 3) := by decide +kernel
theorem dX1_init_49 : decode cX1_init 49 = .ok (.aload_n 0, 1) := by decide +kernel
theorem dX1_init_50 : decode cX1_init 50 = .ok (.iconst 3, 1) := by decide +kernel
theorem dX1_init_51 : decode cX1_init 51 = .ok (.putfield 30, 3) := by decide +kernel
theorem dX1_init_54 : decode cX1_init 54 = .ok (.aload_n 0, 1) := by decide +kernel
theorem dX1_init_55 : decode cX1_init 55 = .ok (.iconst 1, 1) := by decide +kernel
theorem dX1_init_56 : decode cX1_init 56 = .ok (.putfield 34, 3) := by decide +kernel
theorem dX1_init_59 : decode cX1_init 59 = .ok (.return_, 1) := by decide +kernel
theorem dX1_copyFrom_0 : decode cX1_copyFrom 0 = .ok (.aload_n 0, 1) := by decide +kernel
theorem dX1_copyFrom_1 : decode cX1_copyFrom 1 = .ok (.aload_n 1, 1) := by decide +kernel
theorem dX1_copyFrom_2 : decode cX1_copyFrom 2 = .ok (.getfield 30, 3) := by decide +kernel
theorem dX1_copyFrom_5 : decode cX1_copyFrom 5 = .ok (.putfield 30, 3) := by decide +kernel
theorem dX1_copyFrom_8 : decode cX1_copyFrom 8 = .ok (.aload_n 0, 1) := by decide +kernel
theorem dX1_copyFrom_9 : decode cX1_copyFrom 9 = .ok (.aload_n 1, 1) := by decide +kernel
theorem dX1_copyFrom_10 : decode cX1_copyFrom 10 = .ok (.getfield 34, 3) := by decide +kernel
theorem dX1_copyFrom_13 : decode cX1_copyFrom 13 = .ok (.putfield 34, 3) := by decide +kernel
theorem dX1_copyFrom_16 : decode cX1_copyFrom 16 = .ok (.aload_n 0, 1) := by decide +kernel
theorem dX1_copyFrom_17 : decode cX1_copyFrom 17 = .ok (.aload_n 1, 1) := by decide +kernel
theorem dX1_copyFrom_18 : decode cX1_copyFrom 18 = .ok (.getfield 37, 3) := by decide +kernel
theorem dX1_copyFrom_21 : decode cX1_copyFrom 21 = .ok (.putfield 37, 3) := by decide +kernel
theorem dX1_copyFrom_24 : decode cX1_copyFrom 24 = .ok (.aload_n 0, 1) := by decide +kernel
theorem dX1_copyFrom_25 : decode cX1_copyFrom 25 = .ok (.aload_n 1, 1) := by decide +kernel
theorem dX1_copyFrom_26 : decode cX1_copyFrom 26 = .ok (.getfield 40, 3) := by decide +kernel
theorem dX1_copyFrom_29 : decode cX1_copyFrom 29 = .ok (.putfield 40, 3) := by decide +kernel
theorem dX1_copyFrom_32 : decode cX1_copyFrom 32 = .ok (.aload_n 0, 1) := by decide +kernel
theorem dX1_copyFrom_33 : decode cX1_copyFrom 33 = .ok (.aload_n 1, 1) := by decide +kernel
theorem dX1_copyFrom_34 : decode cX1_copyFrom 34 = .ok (.getfield 43, 3) := by decide +kernel
theorem dX1_copyFrom_37 : decode cX1_copyFrom 37 = .ok (.putfield 43, 3) := by decide +kernel
theorem dX1_copyFrom_40 : decode cX1_copyFrom 40 = .ok (.aload_n 1, 1) := by decide +kernel
theorem dX1_copyFrom_41 : decode cX1_copyFrom 41 = .ok (.getfield 9, 3) := by decide +kernel
theorem dX1_copyFrom_44 : decode cX1_copyFrom 44 = .ok (.iconst 0, 1) := by decide +kernel
theorem dX1_copyFrom_45 : decode cX1_copyFrom 45 = .ok (.aload_n 0, 1) := by decide +kernel
theorem dX1_copyFrom_46 : decode cX1_copyFrom 46 = .ok (.getfield 9, 3) := by decide +kernel
theorem dX1_copyFrom_49 : decode cX1_copyFrom 49 = .ok (.iconst 0, 1) := by decide +kernel
theorem dX1_copyFrom_50 : decode cX1_copyFrom 50 = .ok (.iconst 5, 1) := by decide +kernel
theorem dX1_copyFrom_51 : decode cX1_copyFrom 51 = .ok (.invokestatic 47, 3) := by decide +kernel
theorem dX1_copyFrom_54 : decode cX1_copyFrom 54 = .ok (.aload_n 1, 1) := by decide +kernel
theorem dX1_copyFrom_55 : decode cX1_copyFrom 55 = .ok (.getfield 15, 3) := by decide +kernel
theorem dX1_copyFrom_58 : decode cX1_copyFrom 58 = .ok (.iconst 0, 1) := by decide +kernel
theorem dX1_copyFrom_59 : decode cX1_copyFrom 59 = .ok (.aload_n 0, 1) := by decide +kernel
theorem dX1_copyFrom_60 : decode cX1_copyFrom 60 = .ok (.getfield 15, 3) := by decide +kernel
theorem dX1_copyFrom_63 : decode cX1_copyFrom 63 = .ok (.iconst 0, 1) := by decide +kernel
theorem dX1_copyFrom_64 : decode cX1_copyFrom 64 = .ok (.bipush 64, 2) := by decide +kernel
theorem dX1_copyFrom_66 : decode cX1_copyFrom 66 = .ok (.invokestatic 47, 3) := by decide +kernel
theorem dX1_copyFrom_69 : decode cX1_copyFrom 69 = .ok (.aload_n 1, 1) := by decide +kernel
theorem dX1_copyFrom_70 : decode cX1_copyFrom 70 = .ok (.getfield 18, 3) := by decide +kernel
theorem dX1_copyFrom_73 : decode cX1_copyFrom 73 = .ok (.iconst 0, 1) := by decide +kernel
theorem dX1_copyFrom_74 : decode cX1_copyFrom 74 = .ok (.aload_n 0, 1) := by decide +kernel
theorem dX1_copyFrom_75 : decode cX1_copyFrom 75 = .ok (.getfield 18, 3) := by decide +kernel
theorem dX1_copyFrom_78 : decode cX1_copyFrom 78 = .ok (.iconst 0, 1) := by decide +kernel
theorem dX1_copyFrom_79 : decode cX1_copyFrom 79 = .ok (.iconst 4, 1) := by decide +kernel
theorem dX1_copyFrom_80 : decode cX1_copyFrom 80 = .ok (.invokestatic 47, 3) := by decide +kernel
theorem dX1_copyFrom_83 : decode cX1_copyFrom 83 = .ok (.aload_n 1, 1) := by decide +kernel
theorem dX1_copyFrom_84 : decode cX1_copyFrom 84 = .ok (.getfield 21, 3) := by decide +kernel
theorem dX1_copyFrom_87 : decode cX1_copyFrom 87 = .ok (.iconst 0, 1) := by decide +kernel
theorem dX1_copyFrom_88 : decode cX1_copyFrom 88 = .ok (.aload_n 0, 1) := by decide +kernel
theorem dX1_copyFrom_89 : decode cX1_copyFrom 89 = .ok (.getfield 21, 3) := by decide +kernel
theorem dX1_copyFrom_92 : decode cX1_copyFrom 92 = .ok (.iconst 0, 1) := by decide +kernel
theorem dX1_copyFrom_93 : decode cX1_copyFrom 93 = .ok (.iconst 4, 1) := by decide +kernel
theorem dX1_copyFrom_94 : decode cX1_copyFrom 94 = .ok (.invokestatic 47, 3) := by decide +kernel
theorem dX1_copyFrom_97 : decode cX1_copyFrom 97 = .ok (.aload_n 1, 1) := by decide +kernel
theorem dX1_copyFrom_98 : decode cX1_copyFrom 98 = .ok (.getfield 24, 3) := by decide +kernel
theorem dX1_copyFrom_101 : decode cX1_copyFrom 101 = .ok (.iconst 0, 1) := by decide +kernel
theorem dX1_copyFrom_102 : decode cX1_copyFrom 102 = .ok (.aload_n 0, 1) := by decide +kernel
theorem dX1_copyFrom_103 : decode cX1_copyFrom 103 = .ok (.getfield 24, 3) := by decide +kernel
theorem dX1_copyFrom_106 : decode cX1_copyFrom 106 = .ok (.iconst 0, 1) := by decide +kernel
theorem dX1_copyFrom_107 : decode cX1_copyFrom 107 = .ok (.bipush 64, 2) := by decide +kernel
theorem dX1_copyFrom_109 : decode cX1_copyFrom 109 = .ok (.invokestatic 47, 3) := by decide +kernel
theorem dX1_copyFrom_112 : decode cX1_copyFrom 112 = .ok (.aload_n 1, 1) := by decide +kernel
theorem dX1_copyFrom_113 : decode cX1_copyFrom 113 = .ok (.getfield 27, 3) := by decide +kernel
theorem dX1_copyFrom_116 : decode cX1_copyFrom 116 = .ok (.iconst 0, 1) := by decide +kernel
theorem dX1_copyFrom_117 : decode cX1_copyFrom 117 = .ok (.aload_n 0, 1) := by decide +kernel
theorem dX1_copyFrom_118 : decode cX1_copyFrom 118 = .ok (.getfield 27, 3) := by decide +kernel
theorem dX1_copyFrom_121 : decode cX1_copyFrom 121 = .ok (.iconst 0, 1) := by decide +kernel
theorem dX1_copyFrom_122 : decode cX1_copyFrom 122 = .ok (.bipush 64, 2) := by decide +kernel
theorem dX1_copyFrom_124 : decode cX1_copyFrom 124 = .ok (.invokestatic 47, 3) := by decide +kernel
theorem dX1_copyFrom_127 : decode cX1_copyFrom 127 = .ok (.return_, 1) := by decide +kernel
set_option maxRecDepth 20000 in
theorem ggX1_restart_J7_fill_53178 : GoodIn wsX1_restart wsJ7_fill_53178 := goodIn_r _ [8] (by decide +kernel) (by decide +kernel)
set_option maxRecDepth 20000 in
theorem gX1_restart_J7_fill_53178 : GoodIn wsX1_restart (va_wsS RX1 53 yJ7_fill_53178 wsJ7_fill_53178) := goodIn_app (goodIn_of _ (by decide +kernel)) ggX1_restart_J7_fill_53178
set_option maxRecDepth 20000 in
theorem ggX1_restart_X1_tryNothing : GoodIn wsX1_restart wsX1_tryNothing := goodIn_r _ [13, 14, 15, 5, 6, 7, 8, 24, 25, 26, 27, 28, 29, 30, 31, 32, 33, 34] (by decide +kernel) (by decide +kernel)
set_option maxRecDepth 20000 in
theorem gX1_restart_X1_tryNothing : GoodIn wsX1_restart (wsV RX1 59 RX1 yX1_tryNothing wsX1_tryNothing) := goodIn_app (goodIn_of _ (by decide +kernel)) ggX1_restart_X1_tryNothing
set_option maxRecDepth 20000 in
theorem ggX1_restart_X1_seeNothing : GoodIn wsX1_restart wsX1_seeNothing := goodIn_r _ [19, 20, 21, 22, 23, 5, 6, 7, 8, 24, 25, 26, 27, 28, 29, 30, 31, 32, 33, 34] (by decide +kernel) (by decide +kernel)
set_option maxRecDepth 20000 in
theorem gX1_restart_X1_seeNothing : GoodIn wsX1_restart (wsV RX1 62 RX1 yX1_seeNothing wsX1_seeNothing) := goodIn_app (goodIn_of _ (by decide +kernel)) ggX1_restart_X1_seeNothing
theorem dX1_restart_0 : decode cX1_restart 0 = .ok (.aload_n 0, 1) := by decide +kernel
theorem dX1_restart_1 : decode cX1_restart 1 = .ok (.iload_n 1, 1) := by decide +kernel
theorem dX1_restart_2 : decode cX1_restart 2 = .ok (.putfield 30, 3) := by decide +kernel
theorem dX1_restart_5 : decode cX1_restart 5 = .ok (.aload_n 0, 1) := by decide +kernel
theorem dX1_restart_6 : decode cX1_restart 6 = .ok (.iconst 1, 1) := by decide +kernel
theorem dX1_restart_7 : decode cX1_restart 7 = .ok (.putfield 34, 3) := by decide +kernel
theorem dX1_restart_10 : decode cX1_restart 10 = .ok (.aload_n 0, 1) := by decide +kernel
theorem dX1_restart_11 : decode cX1_restart 11 = .ok (.getfield 9, 3) := by decide +kernel
theorem dX1_restart_14 : decode cX1_restart 14 = .ok (.iconst 0, 1) := by decide +kernel
theorem dX1_restart_15 : decode cX1_restart 15 = .ok (.iconst 0, 1) := by decide +kernel
theorem dX1_restart_16 : decode cX1_restart 16 = .ok (.iastore, 1) := by decide +kernel
theorem dX1_restart_17 : decode cX1_restart 17 = .ok (.aload_n 0, 1) := by decide +kernel
theorem dX1_restart_18 : decode cX1_restart 18 = .ok (.getfield 18, 3) := by decide +kernel
theorem dX1_restart_21 : decode cX1_restart 21 = .ok (.iconst 0, 1) := by decide +kernel
theorem dX1_restart_22 : decode cX1_restart 22 = .ok (.invokestatic 53, 3) := by decide +kernel
theorem dX1_restart_25 : decode cX1_restart 25 = .ok (.aload_n 0, 1) := by decide +kernel
theorem dX1_restart_26 : decode cX1_restart 26 = .ok (.invokevirtual 59, 3) := by decide +kernel
theorem dX1_restart_29 : decode cX1_restart 29 = .ok (.aload_n 0, 1) := by decide +kernel
theorem dX1_restart_30 : decode cX1_restart 30 = .ok (.invokevirtual 62, 3) := by decide +kernel
theorem dX1_restart_33 : decode cX1_restart 33 = .ok (.return_, 1) := by decide +kernel
theorem dX1_settingCount_0 : decode cX1_settingCount 0 = .ok (.iconst 1, 1) := by decide +kernel
theorem dX1_settingCount_1 : decode cX1_settingCount 1 = .ok (.aload_n 0, 1) := by decide +kernel
theorem dX1_settingCount_2 : decode cX1_settingCount 2 = .ok (.getfield 30, 3) := by decide +kernel
theorem dX1_settingCount_5 : decode cX1_settingCount 5 = .ok (.ishl, 1) := by decide +kernel
theorem dX1_settingCount_6 : decode cX1_settingCount 6 = .ok (.ireturn, 1) := by decide +kernel
set_option maxRecDepth 20000 in
theorem ggX1_hasNumber_X1_settingCount : GoodIn wsX1_hasNumber wsX1_settingCount := goodIn_r _ [5, 6, 7, 8, 9, 10, 11, 12, 13, 14, 15, 16, 17] (by decide +kernel) (by decide +kernel)
set_option maxRecDepth 20000 in
theorem gX1_hasNumber_X1_settingCount : GoodIn wsX1_hasNumber (wsV RX1 65 RX1 yX1_settingCount wsX1_settingCount) := goodIn_app (goodIn_of _ (by decide +kernel)) ggX1_hasNumber_X1_settingCount
theorem dX1_hasNumber_0 : decode cX1_hasNumber 0 = .ok (.iload_n 1, 1) := by decide +kernel
theorem dX1_hasNumber_1 : decode cX1_hasNumber 1 = .ok (.ifCond .lt 15, 3) := by decide +kernel
theorem dX1_hasNumber_4 : decode cX1_hasNumber 4 = .ok (.iload_n 1, 1) := by decide +kernel
theorem dX1_hasNumber_5 : decode cX1_hasNumber 5 = .ok (.aload_n 0, 1) := by decide +kernel
theorem dX1_hasNumber_6 : decode cX1_hasNumber 6 = .ok (.invokevirtual 65, 3) := by decide +kernel
theorem dX1_hasNumber_9 : decode cX1_hasNumber 9 = .ok (.if_icmp .ge 7, 3) := by decide +kernel
theorem dX1_hasNumber_12 : decode cX1_hasNumber 12 = .ok (.iconst 1, 1) := by decide +kernel
theorem dX1_hasNumber_13 : decode cX1_hasNumber 13 = .ok (.goto 4, 3) := by decide +kernel
theorem dX1_hasNumber_16 : decode cX1_hasNumber 16 = .ok (.iconst 0, 1) := by decide +kernel
theorem dX1_hasNumber_17 : decode cX1_hasNumber 17 = .ok (.ireturn, 1) := by decide +kernel
theorem dX1_hasTerm_0 : decode cX1_hasTerm 0 = .ok (.iconst 0, 1) := by decide +kernel
theorem dX1_hasTerm_1 : decode cX1_hasTerm 1 = .ok (.istore_n 2, 1) := by decide +kernel
theorem dX1_hasTerm_2 : decode cX1_hasTerm 2 = .ok (.iload_n 2, 1) := by decide +kernel
theorem dX1_hasTerm_3 : decode cX1_hasTerm 3 = .ok (.aload_n 0, 1) := by decide +kernel
theorem dX1_hasTerm_4 : decode cX1_hasTerm 4 = .ok (.getfield 34, 3) := by decide +kernel
theorem dX1_hasTerm_7 : decode cX1_hasTerm 7 = .ok (.if_icmp .ge 21, 3) := by decide +kernel
theorem dX1_hasTerm_10 : decode cX1_hasTerm 10 = .ok (.aload_n 0, 1) := by decide +kernel
theorem dX1_hasTerm_11 : decode cX1_hasTerm 11 = .ok (.getfield 9, 3) := by decide +kernel
theorem dX1_hasTerm_14 : decode cX1_hasTerm 14 = .ok (.iload_n 2, 1) := by decide +kernel
theorem dX1_hasTerm_15 : decode cX1_hasTerm 15 = .ok (.iaload, 1) := by decide +kernel
theorem dX1_hasTerm_16 : decode cX1_hasTerm 16 = .ok (.iload_n 1, 1) := by decide +kernel
theorem dX1_hasTerm_17 : decode cX1_hasTerm 17 = .ok (.if_icmp .ne 5, 3) := by decide +kernel
theorem dX1_hasTerm_20 : decode cX1_hasTerm 20 = .ok (.iconst 1, 1) := by decide +kernel
theorem dX1_hasTerm_21 : decode cX1_hasTerm 21 = .ok (.ireturn, 1) := by decide +kernel
theorem dX1_hasTerm_22 : decode cX1_hasTerm 22 = .ok (.iinc 2 1, 3) := by decide +kernel
theorem dX1_hasTerm_25 : decode cX1_hasTerm 25 = .ok (.goto (-23), 3) := by decide +kernel
theorem dX1_hasTerm_28 : decode cX1_hasTerm 28 = .ok (.iconst 0, 1) := by decide +kernel
theorem dX1_hasTerm_29 : decode cX1_hasTerm 29 = .ok (.ireturn, 1) := by decide +kernel
theorem dX1_dropTerm_0 : decode cX1_dropTerm 0 = .ok (.iload_n 1, 1) := by decide +kernel
theorem dX1_dropTerm_1 : decode cX1_dropTerm 1 = .ok (.iconst 1, 1) := by decide +kernel
theorem dX1_dropTerm_2 : decode cX1_dropTerm 2 = .ok (.iadd, 1) := by decide +kernel
theorem dX1_dropTerm_3 : decode cX1_dropTerm 3 = .ok (.istore_n 2, 1) := by decide +kernel
theorem dX1_dropTerm_4 : decode cX1_dropTerm 4 = .ok (.iload_n 2, 1) := by decide +kernel
theorem dX1_dropTerm_5 : decode cX1_dropTerm 5 = .ok (.aload_n 0, 1) := by decide +kernel
theorem dX1_dropTerm_6 : decode cX1_dropTerm 6 = .ok (.getfield 34, 3) := by decide +kernel
theorem dX1_dropTerm_9 : decode cX1_dropTerm 9 = .ok (.if_icmp .ge 23, 3) := by decide +kernel
theorem dX1_dropTerm_12 : decode cX1_dropTerm 12 = .ok (.aload_n 0, 1) := by decide +kernel
theorem dX1_dropTerm_13 : decode cX1_dropTerm 13 = .ok (.getfield 9, 3) := by decide +kernel
theorem dX1_dropTerm_16 : decode cX1_dropTerm 16 = .ok (.iload_n 2, 1) := by decide +kernel
theorem dX1_dropTerm_17 : decode cX1_dropTerm 17 = .ok (.iconst 1, 1) := by decide +kernel
theorem dX1_dropTerm_18 : decode cX1_dropTerm 18 = .ok (.isub, 1) := by decide +kernel
theorem dX1_dropTerm_19 : decode cX1_dropTerm 19 = .ok (.aload_n 0, 1) := by decide +kernel
theorem dX1_dropTerm_20 : decode cX1_dropTerm 20 = .ok (.getfield 9, 3) := by decide +kernel
theorem dX1_dropTerm_23 : decode cX1_dropTerm 23 = .ok (.iload_n 2, 1) := by decide +kernel
theorem dX1_dropTerm_24 : decode cX1_dropTerm 24 = .ok (.iaload, 1) := by decide +kernel
theorem dX1_dropTerm_25 : decode cX1_dropTerm 25 = .ok (.iastore, 1) := by decide +kernel
theorem dX1_dropTerm_26 : decode cX1_dropTerm 26 = .ok (.iinc 2 1, 3) := by decide +kernel
theorem dX1_dropTerm_29 : decode cX1_dropTerm 29 = .ok (.goto (-25), 3) := by decide +kernel
theorem dX1_dropTerm_32 : decode cX1_dropTerm 32 = .ok (.aload_n 0, 1) := by decide +kernel
theorem dX1_dropTerm_33 : decode cX1_dropTerm 33 = .ok (.dup, 1) := by decide +kernel
theorem dX1_dropTerm_34 : decode cX1_dropTerm 34 = .ok (.getfield 34, 3) := by decide +kernel
theorem dX1_dropTerm_37 : decode cX1_dropTerm 37 = .ok (.iconst 1, 1) := by decide +kernel
theorem dX1_dropTerm_38 : decode cX1_dropTerm 38 = .ok (.isub, 1) := by decide +kernel
theorem dX1_dropTerm_39 : decode cX1_dropTerm 39 = .ok (.putfield 34, 3) := by decide +kernel
theorem dX1_dropTerm_42 : decode cX1_dropTerm 42 = .ok (.return_, 1) := by decide +kernel
theorem dX1_tryTimes_0 : decode cX1_tryTimes 0 = .ok (.aload_n 0, 1) := by decide +kernel
theorem dX1_tryTimes_1 : decode cX1_tryTimes 1 = .ok (.dup, 1) := by decide +kernel
theorem dX1_tryTimes_2 : decode cX1_tryTimes 2 = .ok (.getfield 37, 3) := by decide +kernel
theorem dX1_tryTimes_5 : decode cX1_tryTimes 5 = .ok (.iload_n 2, 1) := by decide +kernel
theorem dX1_tryTimes_6 : decode cX1_tryTimes 6 = .ok (.aload_n 0, 1) := by decide +kernel
theorem dX1_tryTimes_7 : decode cX1_tryTimes 7 = .ok (.getfield 15, 3) := by decide +kernel
theorem dX1_tryTimes_10 : decode cX1_tryTimes 10 = .ok (.iload_n 1, 1) := by decide +kernel
theorem dX1_tryTimes_11 : decode cX1_tryTimes 11 = .ok (.iaload, 1) := by decide +kernel
theorem dX1_tryTimes_12 : decode cX1_tryTimes 12 = .ok (.isub, 1) := by decide +kernel
theorem dX1_tryTimes_13 : decode cX1_tryTimes 13 = .ok (.iadd, 1) := by decide +kernel
theorem dX1_tryTimes_14 : decode cX1_tryTimes 14 = .ok (.putfield 37, 3) := by decide +kernel
theorem dX1_tryTimes_17 : decode cX1_tryTimes 17 = .ok (.aload_n 0, 1) := by decide +kernel
theorem dX1_tryTimes_18 : decode cX1_tryTimes 18 = .ok (.getfield 15, 3) := by decide +kernel
theorem dX1_tryTimes_21 : decode cX1_tryTimes 21 = .ok (.iload_n 1, 1) := by decide +kernel
theorem dX1_tryTimes_22 : decode cX1_tryTimes 22 = .ok (.iload_n 2, 1) := by decide +kernel
theorem dX1_tryTimes_23 : decode cX1_tryTimes 23 = .ok (.iastore, 1) := by decide +kernel
theorem dX1_tryTimes_24 : decode cX1_tryTimes 24 = .ok (.return_, 1) := by decide +kernel
set_option maxRecDepth 20000 in
theorem ggX1_tryNothing_J7_fill_53178 : GoodIn wsX1_tryNothing wsJ7_fill_53178 := goodIn_r _ [6] (by decide +kernel) (by decide +kernel)
set_option maxRecDepth 20000 in
theorem gX1_tryNothing_J7_fill_53178 : GoodIn wsX1_tryNothing (va_wsS RX1 53 yJ7_fill_53178 wsJ7_fill_53178) := goodIn_app (goodIn_of _ (by decide +kernel)) ggX1_tryNothing_J7_fill_53178
theorem dX1_tryNothing_0 : decode cX1_tryNothing 0 = .ok (.aload_n 0, 1) := by decide +kernel
theorem dX1_tryNothing_1 : decode cX1_tryNothing 1 = .ok (.getfield 15, 3) := by decide +kernel
theorem dX1_tryNothing_4 : decode cX1_tryNothing 4 = .ok (.iconst 0, 1) := by decide +kernel
theorem dX1_tryNothing_5 : decode cX1_tryNothing 5 = .ok (.invokestatic 53, 3) := by decide +kernel
theorem dX1_tryNothing_8 : decode cX1_tryNothing 8 = .ok (.aload_n 0, 1) := by decide +kernel
theorem dX1_tryNothing_9 : decode cX1_tryNothing 9 = .ok (.iconst 0, 1) := by decide +kernel
theorem dX1_tryNothing_10 : decode cX1_tryNothing 10 = .ok (.putfield 37, 3) := by decide +kernel
theorem dX1_tryNothing_13 : decode cX1_tryNothing 13 = .ok (.return_, 1) := by decide +kernel
set_option maxRecDepth 20000 in
theorem ggX1_takePlan_X1_tryTimes : GoodIn wsX1_takePlan wsX1_tryTimes := goodIn_r _ [5, 6, 7, 8, 9, 10, 11, 12, 13, 14, 15, 16, 17, 18] (by decide +kernel) (by decide +kernel)
set_option maxRecDepth 20000 in
theorem gX1_takePlan_X1_tryTimes : GoodIn wsX1_takePlan (wsV RX1 69 RX1 yX1_tryTimes wsX1_tryTimes) := goodIn_app (goodIn_of _ (by decide +kernel)) ggX1_takePlan_X1_tryTimes
theorem dX1_takePlan_0 : decode cX1_takePlan 0 = .ok (.iconst 0, 1) := by decide +kernel
theorem dX1_takePlan_1 : decode cX1_takePlan 1 = .ok (.istore_n 2, 1) := by decide +kernel
theorem dX1_takePlan_2 : decode cX1_takePlan 2 = .ok (.iload_n 2, 1) := by decide +kernel
theorem dX1_takePlan_3 : decode cX1_takePlan 3 = .ok (.bipush 64, 2) := by decide +kernel
theorem dX1_takePlan_5 : decode cX1_takePlan 5 = .ok (.if_icmp .ge 17, 3) := by decide +kernel
theorem dX1_takePlan_8 : decode cX1_takePlan 8 = .ok (.aload_n 0, 1) := by decide +kernel
theorem dX1_takePlan_9 : decode cX1_takePlan 9 = .ok (.iload_n 2, 1) := by decide +kernel
theorem dX1_takePlan_10 : decode cX1_takePlan 10 = .ok (.aload_n 1, 1) := by decide +kernel
theorem dX1_takePlan_11 : decode cX1_takePlan 11 = .ok (.iload_n 2, 1) := by decide +kernel
theorem dX1_takePlan_12 : decode cX1_takePlan 12 = .ok (.iaload, 1) := by decide +kernel
theorem dX1_takePlan_13 : decode cX1_takePlan 13 = .ok (.invokevirtual 69, 3) := by decide +kernel
theorem dX1_takePlan_16 : decode cX1_takePlan 16 = .ok (.iinc 2 1, 3) := by decide +kernel
theorem dX1_takePlan_19 : decode cX1_takePlan 19 = .ok (.goto (-17), 3) := by decide +kernel
theorem dX1_takePlan_22 : decode cX1_takePlan 22 = .ok (.return_, 1) := by decide +kernel
theorem dX1_triedSettings_0 : decode cX1_triedSettings 0 = .ok (.iconst 0, 1) := by decide +kernel
theorem dX1_triedSettings_1 : decode cX1_triedSettings 1 = .ok (.istore_n 1, 1) := by decide +kernel
theorem dX1_triedSettings_2 : decode cX1_triedSettings 2 = .ok (.iconst 0, 1) := by decide +kernel
theorem dX1_triedSettings_3 : decode cX1_triedSettings 3 = .ok (.istore_n 2, 1) := by decide +kernel
theorem dX1_triedSettings_4 : decode cX1_triedSettings 4 = .ok (.iload_n 2, 1) := by decide +kernel
theorem dX1_triedSettings_5 : decode cX1_triedSettings 5 = .ok (.bipush 64, 2) := by decide +kernel
theorem dX1_triedSettings_7 : decode cX1_triedSettings 7 = .ok (.if_icmp .ge 26, 3) := by decide +kernel
theorem dX1_triedSettings_10 : decode cX1_triedSettings 10 = .ok (.iload_n 1, 1) := by decide +kernel
theorem dX1_triedSettings_11 : decode cX1_triedSettings 11 = .ok (.aload_n 0, 1) := by decide +kernel
theorem dX1_triedSettings_12 : decode cX1_triedSettings 12 = .ok (.getfield 15, 3) := by decide +kernel
theorem dX1_triedSettings_15 : decode cX1_triedSettings 15 = .ok (.iload_n 2, 1) := by decide +kernel
theorem dX1_triedSettings_16 : decode cX1_triedSettings 16 = .ok (.iaload, 1) := by decide +kernel
theorem dX1_triedSettings_17 : decode cX1_triedSettings 17 = .ok (.ifCond .le 7, 3) := by decide +kernel
theorem dX1_triedSettings_20 : decode cX1_triedSettings 20 = .ok (.iconst 1, 1) := by decide +kernel
theorem dX1_triedSettings_21 : decode cX1_triedSettings 21 = .ok (.goto 4, 3) := by decide +kernel
theorem dX1_triedSettings_24 : decode cX1_triedSettings 24 = .ok (.iconst 0, 1) := by decide +kernel
theorem dX1_triedSettings_25 : decode cX1_triedSettings 25 = .ok (.iadd, 1) := by decide +kernel
theorem dX1_triedSettings_26 : decode cX1_triedSettings 26 = .ok (.istore_n 1, 1) := by decide +kernel
theorem dX1_triedSettings_27 : decode cX1_triedSettings 27 = .ok (.iinc 2 1, 3) := by decide +kernel
theorem dX1_triedSettings_30 : decode cX1_triedSettings 30 = .ok (.goto (-26), 3) := by decide +kernel
theorem dX1_triedSettings_33 : decode cX1_triedSettings 33 = .ok (.iload_n 1, 1) := by decide +kernel
theorem dX1_triedSettings_34 : decode cX1_triedSettings 34 = .ok (.ireturn, 1) := by decide +kernel
set_option maxRecDepth 20000 in
theorem ggX1_markOf_J6_bitCount_0f7a4 : GoodIn wsX1_markOf wsJ6_bitCount_0f7a4 := goodIn_r _ [4, 5, 6, 7] (by decide +kernel) (by decide +kernel)
set_option maxRecDepth 20000 in
theorem gX1_markOf_J6_bitCount_0f7a4 : GoodIn wsX1_markOf (va_wsS RX1 73 yJ6_bitCount_0f7a4 wsJ6_bitCount_0f7a4) := goodIn_app (goodIn_of _ (by decide +kernel)) ggX1_markOf_J6_bitCount_0f7a4
theorem dX1_markOf_0 : decode cX1_markOf 0 = .ok (.iload_n 0, 1) := by decide +kernel
theorem dX1_markOf_1 : decode cX1_markOf 1 = .ok (.iload_n 1, 1) := by decide +kernel
theorem dX1_markOf_2 : decode cX1_markOf 2 = .ok (.iconst (-1), 1) := by decide +kernel
theorem dX1_markOf_3 : decode cX1_markOf 3 = .ok (.ixor, 1) := by decide +kernel
theorem dX1_markOf_4 : decode cX1_markOf 4 = .ok (.iand, 1) := by decide +kernel
theorem dX1_markOf_5 : decode cX1_markOf 5 = .ok (.invokestatic 73, 3) := by decide +kernel
theorem dX1_markOf_8 : decode cX1_markOf 8 = .ok (.iconst 1, 1) := by decide +kernel
theorem dX1_markOf_9 : decode cX1_markOf 9 = .ok (.iand, 1) := by decide +kernel
theorem dX1_markOf_10 : decode cX1_markOf 10 = .ok (.ifCond .ne 7, 3) := by decide +kernel
theorem dX1_markOf_13 : decode cX1_markOf 13 = .ok (.iconst 1, 1) := by decide +kernel
theorem dX1_markOf_14 : decode cX1_markOf 14 = .ok (.goto 4, 3) := by decide +kernel
theorem dX1_markOf_17 : decode cX1_markOf 17 = .ok (.iconst (-1), 1) := by decide +kernel
theorem dX1_markOf_18 : decode cX1_markOf 18 = .ok (.ireturn, 1) := by decide +kernel
set_option maxRecDepth 20000 in
theorem ggX1_signsAt_J6_bitCount_0f7a4 : GoodIn wsX1_signsAt wsJ6_bitCount_0f7a4 := goodIn_r _ [6, 7, 8, 9] (by decide +kernel) (by decide +kernel)
set_option maxRecDepth 20000 in
theorem gX1_signsAt_J6_bitCount_0f7a4 : GoodIn wsX1_signsAt (va_wsS RX1 73 yJ6_bitCount_0f7a4 wsJ6_bitCount_0f7a4) := goodIn_app (goodIn_of _ (by decide +kernel)) ggX1_signsAt_J6_bitCount_0f7a4
theorem dX1_signsAt_0 : decode cX1_signsAt 0 = .ok (.iconst 0, 1) := by decide +kernel
theorem dX1_signsAt_1 : decode cX1_signsAt 1 = .ok (.istore_n 2, 1) := by decide +kernel
theorem dX1_signsAt_2 : decode cX1_signsAt 2 = .ok (.iconst 0, 1) := by decide +kernel
theorem dX1_signsAt_3 : decode cX1_signsAt 3 = .ok (.istore_n 3, 1) := by decide +kernel
theorem dX1_signsAt_4 : decode cX1_signsAt 4 = .ok (.iload_n 3, 1) := by decide +kernel
theorem dX1_signsAt_5 : decode cX1_signsAt 5 = .ok (.aload_n 0, 1) := by decide +kernel
theorem dX1_signsAt_6 : decode cX1_signsAt 6 = .ok (.getfield 34, 3) := by decide +kernel
theorem dX1_signsAt_9 : decode cX1_signsAt 9 = .ok (.if_icmp .ge 29, 3) := by decide +kernel
theorem dX1_signsAt_12 : decode cX1_signsAt 12 = .ok (.iload_n 2, 1) := by decide +kernel
theorem dX1_signsAt_13 : decode cX1_signsAt 13 = .ok (.aload_n 0, 1) := by decide +kernel
theorem dX1_signsAt_14 : decode cX1_signsAt 14 = .ok (.getfield 9, 3) := by decide +kernel
theorem dX1_signsAt_17 : decode cX1_signsAt 17 = .ok (.iload_n 3, 1) := by decide +kernel
theorem dX1_signsAt_18 : decode cX1_signsAt 18 = .ok (.iaload, 1) := by decide +kernel
theorem dX1_signsAt_19 : decode cX1_signsAt 19 = .ok (.iload_n 1, 1) := by decide +kernel
theorem dX1_signsAt_20 : decode cX1_signsAt 20 = .ok (.iconst (-1), 1) := by decide +kernel
theorem dX1_signsAt_21 : decode cX1_signsAt 21 = .ok (.ixor, 1) := by decide +kernel
theorem dX1_signsAt_22 : decode cX1_signsAt 22 = .ok (.iand, 1) := by decide +kernel
theorem dX1_signsAt_23 : decode cX1_signsAt 23 = .ok (.invokestatic 73, 3) := by decide +kernel
theorem dX1_signsAt_26 : decode cX1_signsAt 26 = .ok (.iconst 1, 1) := by decide +kernel
theorem dX1_signsAt_27 : decode cX1_signsAt 27 = .ok (.iand, 1) := by decide +kernel
theorem dX1_signsAt_28 : decode cX1_signsAt 28 = .ok (.iload_n 3, 1) := by decide +kernel
theorem dX1_signsAt_29 : decode cX1_signsAt 29 = .ok (.ishl, 1) := by decide +kernel
theorem dX1_signsAt_30 : decode cX1_signsAt 30 = .ok (.ior, 1) := by decide +kernel
theorem dX1_signsAt_31 : decode cX1_signsAt 31 = .ok (.istore_n 2, 1) := by decide +kernel
theorem dX1_signsAt_32 : decode cX1_signsAt 32 = .ok (.iinc 3 1, 3) := by decide +kernel
theorem dX1_signsAt_35 : decode cX1_signsAt 35 = .ok (.goto (-31), 3) := by decide +kernel
theorem dX1_signsAt_38 : decode cX1_signsAt 38 = .ok (.iload_n 2, 1) := by decide +kernel
theorem dX1_signsAt_39 : decode cX1_signsAt 39 = .ok (.ireturn, 1) := by decide +kernel
theorem dX1_kindOf_0 : decode cX1_kindOf 0 = .ok (.iconst 1, 1) := by decide +kernel
theorem dX1_kindOf_1 : decode cX1_kindOf 1 = .ok (.aload_n 0, 1) := by decide +kernel
theorem dX1_kindOf_2 : decode cX1_kindOf 2 = .ok (.getfield 34, 3) := by decide +kernel
theorem dX1_kindOf_5 : decode cX1_kindOf 5 = .ok (.ishl, 1) := by decide +kernel
theorem dX1_kindOf_6 : decode cX1_kindOf 6 = .ok (.iconst 1, 1) := by decide +kernel
theorem dX1_kindOf_7 : decode cX1_kindOf 7 = .ok (.isub, 1) := by decide +kernel
theorem dX1_kindOf_8 : decode cX1_kindOf 8 = .ok (.istore_n 2, 1) := by decide +kernel
theorem dX1_kindOf_9 : decode cX1_kindOf 9 = .ok (.iload_n 1, 1) := by decide +kernel
theorem dX1_kindOf_10 : decode cX1_kindOf 10 = .ok (.iconst 1, 1) := by decide +kernel
theorem dX1_kindOf_11 : decode cX1_kindOf 11 = .ok (.iand, 1) := by decide +kernel
theorem dX1_kindOf_12 : decode cX1_kindOf 12 = .ok (.ifCond .ne 7, 3) := by decide +kernel
theorem dX1_kindOf_15 : decode cX1_kindOf 15 = .ok (.iload_n 1, 1) := by decide +kernel
theorem dX1_kindOf_16 : decode cX1_kindOf 16 = .ok (.goto 8, 3) := by decide +kernel
theorem dX1_kindOf_19 : decode cX1_kindOf 19 = .ok (.iload_n 2, 1) := by decide +kernel
theorem dX1_kindOf_20 : decode cX1_kindOf 20 = .ok (.iload_n 1, 1) := by decide +kernel
theorem dX1_kindOf_21 : decode cX1_kindOf 21 = .ok (.iconst (-1), 1) := by decide +kernel
theorem dX1_kindOf_22 : decode cX1_kindOf 22 = .ok (.ixor, 1) := by decide +kernel
theorem dX1_kindOf_23 : decode cX1_kindOf 23 = .ok (.iand, 1) := by decide +kernel
theorem dX1_kindOf_24 : decode cX1_kindOf 24 = .ok (.iconst 1, 1) := by decide +kernel
theorem dX1_kindOf_25 : decode cX1_kindOf 25 = .ok (.ishr, 1) := by decide +kernel
theorem dX1_kindOf_26 : decode cX1_kindOf 26 = .ok (.ireturn, 1) := by decide +kernel
theorem dX1_wordCount_0 : decode cX1_wordCount 0 = .ok (.iconst 0, 1) := by decide +kernel
theorem dX1_wordCount_1 : decode cX1_wordCount 1 = .ok (.istore_n 1, 1) := by decide +kernel
theorem dX1_wordCount_2 : decode cX1_wordCount 2 = .ok (.iconst 0, 1) := by decide +kernel
theorem dX1_wordCount_3 : decode cX1_wordCount 3 = .ok (.istore_n 2, 1) := by decide +kernel
theorem dX1_wordCount_4 : decode cX1_wordCount 4 = .ok (.iload_n 2, 1) := by decide +kernel
theorem dX1_wordCount_5 : decode cX1_wordCount 5 = .ok (.iconst 4, 1) := by decide +kernel
theorem dX1_wordCount_6 : decode cX1_wordCount 6 = .ok (.if_icmp .ge 26, 3) := by decide +kernel
theorem dX1_wordCount_9 : decode cX1_wordCount 9 = .ok (.iload_n 1, 1) := by decide +kernel
theorem dX1_wordCount_10 : decode cX1_wordCount 10 = .ok (.aload_n 0, 1) := by decide +kernel
theorem dX1_wordCount_11 : decode cX1_wordCount 11 = .ok (.getfield 18, 3) := by decide +kernel
theorem dX1_wordCount_14 : decode cX1_wordCount 14 = .ok (.iload_n 2, 1) := by decide +kernel
theorem dX1_wordCount_15 : decode cX1_wordCount 15 = .ok (.iaload, 1) := by decide +kernel
theorem dX1_wordCount_16 : decode cX1_wordCount 16 = .ok (.ifCond .eq 7, 3) := by decide +kernel
theorem dX1_wordCount_19 : decode cX1_wordCount 19 = .ok (.iconst 1, 1) := by decide +kernel
theorem dX1_wordCount_20 : decode cX1_wordCount 20 = .ok (.goto 4, 3) := by decide +kernel
theorem dX1_wordCount_23 : decode cX1_wordCount 23 = .ok (.iconst 0, 1) := by decide +kernel
theorem dX1_wordCount_24 : decode cX1_wordCount 24 = .ok (.iadd, 1) := by decide +kernel
theorem dX1_wordCount_25 : decode cX1_wordCount 25 = .ok (.istore_n 1, 1) := by decide +kernel
theorem dX1_wordCount_26 : decode cX1_wordCount 26 = .ok (.iinc 2 1, 3) := by decide +kernel
theorem dX1_wordCount_29 : decode cX1_wordCount 29 = .ok (.goto (-25), 3) := by decide +kernel
theorem dX1_wordCount_32 : decode cX1_wordCount 32 = .ok (.iload_n 1, 1) := by decide +kernel
theorem dX1_wordCount_33 : decode cX1_wordCount 33 = .ok (.ireturn, 1) := by decide +kernel
set_option maxRecDepth 20000 in
theorem ggX1_isInPart_X1_markOf : GoodIn wsX1_isInPart wsX1_markOf := goodIn_r _ [6, 7, 8, 9, 10, 11, 12, 13] (by decide +kernel) (by decide +kernel)
set_option maxRecDepth 20000 in
theorem gX1_isInPart_X1_markOf : GoodIn wsX1_isInPart (va_wsS RX1 79 yX1_markOf wsX1_markOf) := goodIn_app (goodIn_of _ (by decide +kernel)) ggX1_isInPart_X1_markOf
theorem dX1_isInPart_0 : decode cX1_isInPart 0 = .ok (.iconst 0, 1) := by decide +kernel
theorem dX1_isInPart_1 : decode cX1_isInPart 1 = .ok (.istore_n 2, 1) := by decide +kernel
theorem dX1_isInPart_2 : decode cX1_isInPart 2 = .ok (.iload_n 2, 1) := by decide +kernel
theorem dX1_isInPart_3 : decode cX1_isInPart 3 = .ok (.iconst 4, 1) := by decide +kernel
theorem dX1_isInPart_4 : decode cX1_isInPart 4 = .ok (.if_icmp .ge 39, 3) := by decide +kernel
theorem dX1_isInPart_7 : decode cX1_isInPart 7 = .ok (.aload_n 0, 1) := by decide +kernel
theorem dX1_isInPart_8 : decode cX1_isInPart 8 = .ok (.getfield 18, 3) := by decide +kernel
theorem dX1_isInPart_11 : decode cX1_isInPart 11 = .ok (.iload_n 2, 1) := by decide +kernel
theorem dX1_isInPart_12 : decode cX1_isInPart 12 = .ok (.iaload, 1) := by decide +kernel
theorem dX1_isInPart_13 : decode cX1_isInPart 13 = .ok (.ifCond .eq 24, 3) := by decide +kernel
theorem dX1_isInPart_16 : decode cX1_isInPart 16 = .ok (.aload_n 0, 1) := by decide +kernel
theorem dX1_isInPart_17 : decode cX1_isInPart 17 = .ok (.getfield 18, 3) := by decide +kernel
theorem dX1_isInPart_20 : decode cX1_isInPart 20 = .ok (.iload_n 2, 1) := by decide +kernel
theorem dX1_isInPart_21 : decode cX1_isInPart 21 = .ok (.iaload, 1) := by decide +kernel
theorem dX1_isInPart_22 : decode cX1_isInPart 22 = .ok (.iload_n 1, 1) := by decide +kernel
theorem dX1_isInPart_23 : decode cX1_isInPart 23 = .ok (.invokestatic 79, 3) := by decide +kernel
theorem dX1_isInPart_26 : decode cX1_isInPart 26 = .ok (.aload_n 0, 1) := by decide +kernel
theorem dX1_isInPart_27 : decode cX1_isInPart 27 = .ok (.getfield 21, 3) := by decide +kernel
theorem dX1_isInPart_30 : decode cX1_isInPart 30 = .ok (.iload_n 2, 1) := by decide +kernel
theorem dX1_isInPart_31 : decode cX1_isInPart 31 = .ok (.iaload, 1) := by decide +kernel
theorem dX1_isInPart_32 : decode cX1_isInPart 32 = .ok (.if_icmp .eq 5, 3) := by decide +kernel
theorem dX1_isInPart_35 : decode cX1_isInPart 35 = .ok (.iconst 0, 1) := by decide +kernel
theorem dX1_isInPart_36 : decode cX1_isInPart 36 = .ok (.ireturn, 1) := by decide +kernel
theorem dX1_isInPart_37 : decode cX1_isInPart 37 = .ok (.iinc 2 1, 3) := by decide +kernel
theorem dX1_isInPart_40 : decode cX1_isInPart 40 = .ok (.goto (-38), 3) := by decide +kernel
theorem dX1_isInPart_43 : decode cX1_isInPart 43 = .ok (.iconst 1, 1) := by decide +kernel
theorem dX1_isInPart_44 : decode cX1_isInPart 44 = .ok (.ireturn, 1) := by decide +kernel
set_option maxRecDepth 20000 in
theorem ggX1_productsWithout_X1_multiplied : GoodIn wsX1_productsWithout wsX1_multiplied := goodIn_r _ [5, 6, 7, 4, 8] (by decide +kernel) (by decide +kernel)
set_option maxRecDepth 20000 in
theorem gX1_productsWithout_X1_multiplied : GoodIn wsX1_productsWithout (va_wsS RX1 83 yX1_multiplied wsX1_multiplied) := goodIn_app (goodIn_of _ (by decide +kernel)) ggX1_productsWithout_X1_multiplied
theorem dX1_productsWithout_0 : decode cX1_productsWithout 0 = .ok (.lconst 1, 1) := by decide +kernel
theorem dX1_productsWithout_1 : decode cX1_productsWithout 1 = .ok (.lstore_n 2, 1) := by decide +kernel
theorem dX1_productsWithout_2 : decode cX1_productsWithout 2 = .ok (.iconst 0, 1) := by decide +kernel
theorem dX1_productsWithout_3 : decode cX1_productsWithout 3 = .ok (.istore 4, 2) := by decide +kernel
theorem dX1_productsWithout_5 : decode cX1_productsWithout 5 = .ok (.iload 4, 2) := by decide +kernel
theorem dX1_productsWithout_7 : decode cX1_productsWithout 7 = .ok (.iconst 4, 1) := by decide +kernel
theorem dX1_productsWithout_8 : decode cX1_productsWithout 8 = .ok (.if_icmp .ge 39, 3) := by decide +kernel
theorem dX1_productsWithout_11 : decode cX1_productsWithout 11 = .ok (.iload 4, 2) := by decide +kernel
theorem dX1_productsWithout_13 : decode cX1_productsWithout 13 = .ok (.iload_n 1, 1) := by decide +kernel
theorem dX1_productsWithout_14 : decode cX1_productsWithout 14 = .ok (.if_icmp .eq 27, 3) := by decide +kernel
theorem dX1_productsWithout_17 : decode cX1_productsWithout 17 = .ok (.aload_n 0, 1) := by decide +kernel
theorem dX1_productsWithout_18 : decode cX1_productsWithout 18 = .ok (.getfield 18, 3) := by decide +kernel
theorem dX1_productsWithout_21 : decode cX1_productsWithout 21 = .ok (.iload 4, 2) := by decide +kernel
theorem dX1_productsWithout_23 : decode cX1_productsWithout 23 = .ok (.iaload, 1) := by decide +kernel
theorem dX1_productsWithout_24 : decode cX1_productsWithout 24 = .ok (.ifCond .eq 17, 3) := by decide +kernel
theorem dX1_productsWithout_27 : decode cX1_productsWithout 27 = .ok (.lload_n 2, 1) := by decide +kernel
theorem dX1_productsWithout_28 : decode cX1_productsWithout 28 = .ok (.lload_n 2, 1) := by decide +kernel
theorem dX1_productsWithout_29 : decode cX1_productsWithout 29 = .ok (.aload_n 0, 1) := by decide +kernel
theorem dX1_productsWithout_30 : decode cX1_productsWithout 30 = .ok (.getfield 18, 3) := by decide +kernel
theorem dX1_productsWithout_33 : decode cX1_productsWithout 33 = .ok (.iload 4, 2) := by decide +kernel
theorem dX1_productsWithout_35 : decode cX1_productsWithout 35 = .ok (.iaload, 1) := by decide +kernel
theorem dX1_productsWithout_36 : decode cX1_productsWithout 36 = .ok (.invokestatic 83, 3) := by decide +kernel
theorem dX1_productsWithout_39 : decode cX1_productsWithout 39 = .ok (.lor, 1) := by decide +kernel
theorem dX1_productsWithout_40 : decode cX1_productsWithout 40 = .ok (.lstore_n 2, 1) := by decide +kernel
theorem dX1_productsWithout_41 : decode cX1_productsWithout 41 = .ok (.iinc 4 1, 3) := by decide +kernel
theorem dX1_productsWithout_44 : decode cX1_productsWithout 44 = .ok (.goto (-39), 3) := by decide +kernel
theorem dX1_productsWithout_47 : decode cX1_productsWithout 47 = .ok (.lload_n 2, 1) := by decide +kernel
theorem dX1_productsWithout_48 : decode cX1_productsWithout 48 = .ok (.lreturn, 1) := by decide +kernel
set_option maxRecDepth 20000 in
theorem ggX1_multiplied_X1_hasMember : GoodIn wsX1_multiplied wsX1_hasMember := goodIn_r _ [4] (by decide +kernel) (by decide +kernel)
set_option maxRecDepth 20000 in
theorem gX1_multiplied_X1_hasMember : GoodIn wsX1_multiplied (va_wsS RX1 87 yX1_hasMember wsX1_hasMember) := goodIn_app (goodIn_of _ (by decide +kernel)) ggX1_multiplied_X1_hasMember
theorem dX1_multiplied_0 : decode cX1_multiplied 0 = .ok (.lconst 0, 1) := by decide +kernel
theorem dX1_multiplied_1 : decode cX1_multiplied 1 = .ok (.lstore_n 3, 1) := by decide +kernel
theorem dX1_multiplied_2 : decode cX1_multiplied 2 = .ok (.iconst 0, 1) := by decide +kernel
theorem dX1_multiplied_3 : decode cX1_multiplied 3 = .ok (.istore 5, 2) := by decide +kernel
theorem dX1_multiplied_5 : decode cX1_multiplied 5 = .ok (.iload 5, 2) := by decide +kernel
theorem dX1_multiplied_7 : decode cX1_multiplied 7 = .ok (.bipush 64, 2) := by decide +kernel
theorem dX1_multiplied_9 : decode cX1_multiplied 9 = .ok (.if_icmp .ge 27, 3) := by decide +kernel
theorem dX1_multiplied_12 : decode cX1_multiplied 12 = .ok (.lload_n 0, 1) := by decide +kernel
theorem dX1_multiplied_13 : decode cX1_multiplied 13 = .ok (.iload 5, 2) := by decide +kernel
theorem dX1_multiplied_15 : decode cX1_multiplied 15 = .ok (.invokestatic 87, 3) := by decide +kernel
theorem dX1_multiplied_18 : decode cX1_multiplied 18 = .ok (.ifCond .eq 12, 3) := by decide +kernel
theorem dX1_multiplied_21 : decode cX1_multiplied 21 = .ok (.lload_n 3, 1) := by decide +kernel
theorem dX1_multiplied_22 : decode cX1_multiplied 22 = .ok (.lconst 1, 1) := by decide +kernel
theorem dX1_multiplied_23 : decode cX1_multiplied 23 = .ok (.iload 5, 2) := by decide +kernel
theorem dX1_multiplied_25 : decode cX1_multiplied 25 = .ok (.iload_n 2, 1) := by decide +kernel
theorem dX1_multiplied_26 : decode cX1_multiplied 26 = .ok (.ixor, 1) := by decide +kernel
theorem dX1_multiplied_27 : decode cX1_multiplied 27 = .ok (.lshl, 1) := by decide +kernel
theorem dX1_multiplied_28 : decode cX1_multiplied 28 = .ok (.lor, 1) := by decide +kernel
theorem dX1_multiplied_29 : decode cX1_multiplied 29 = .ok (.lstore_n 3, 1) := by decide +kernel
theorem dX1_multiplied_30 : decode cX1_multiplied 30 = .ok (.iinc 5 1, 3) := by decide +kernel
theorem dX1_multiplied_33 : decode cX1_multiplied 33 = .ok (.goto (-28), 3) := by decide +kernel
theorem dX1_multiplied_36 : decode cX1_multiplied 36 = .ok (.lload_n 3, 1) := by decide +kernel
theorem dX1_multiplied_37 : decode cX1_multiplied 37 = .ok (.lreturn, 1) := by decide +kernel
theorem dX1_hasMember_0 : decode cX1_hasMember 0 = .ok (.lload_n 0, 1) := by decide +kernel
theorem dX1_hasMember_1 : decode cX1_hasMember 1 = .ok (.iload_n 2, 1) := by decide +kernel
theorem dX1_hasMember_2 : decode cX1_hasMember 2 = .ok (.lushr, 1) := by decide +kernel
theorem dX1_hasMember_3 : decode cX1_hasMember 3 = .ok (.lconst 1, 1) := by decide +kernel
theorem dX1_hasMember_4 : decode cX1_hasMember 4 = .ok (.land, 1) := by decide +kernel
theorem dX1_hasMember_5 : decode cX1_hasMember 5 = .ok (.lconst 0, 1) := by decide +kernel
theorem dX1_hasMember_6 : decode cX1_hasMember 6 = .ok (.lcmp, 1) := by decide +kernel
theorem dX1_hasMember_7 : decode cX1_hasMember 7 = .ok (.ifCond .eq 7, 3) := by decide +kernel
theorem dX1_hasMember_10 : decode cX1_hasMember 10 = .ok (.iconst 1, 1) := by decide +kernel
theorem dX1_hasMember_11 : decode cX1_hasMember 11 = .ok (.goto 4, 3) := by decide +kernel
theorem dX1_hasMember_14 : decode cX1_hasMember 14 = .ok (.iconst 0, 1) := by decide +kernel
theorem dX1_hasMember_15 : decode cX1_hasMember 15 = .ok (.ireturn, 1) := by decide +kernel
theorem dX1_seeOne_0 : decode cX1_seeOne 0 = .ok (.aload_n 0, 1) := by decide +kernel
theorem dX1_seeOne_1 : decode cX1_seeOne 1 = .ok (.getfield 24, 3) := by decide +kernel
theorem dX1_seeOne_4 : decode cX1_seeOne 4 = .ok (.iload_n 1, 1) := by decide +kernel
theorem dX1_seeOne_5 : decode cX1_seeOne 5 = .ok (.dup2, 1) := by decide +kernel
theorem dX1_seeOne_6 : decode cX1_seeOne 6 = .ok (.iaload, 1) := by decide +kernel
theorem dX1_seeOne_7 : decode cX1_seeOne 7 = .ok (.iconst 1, 1) := by decide +kernel
theorem dX1_seeOne_8 : decode cX1_seeOne 8 = .ok (.iadd, 1) := by decide +kernel
theorem dX1_seeOne_9 : decode cX1_seeOne 9 = .ok (.iastore, 1) := by decide +kernel
theorem dX1_seeOne_10 : decode cX1_seeOne 10 = .ok (.aload_n 0, 1) := by decide +kernel
theorem dX1_seeOne_11 : decode cX1_seeOne 11 = .ok (.getfield 27, 3) := by decide +kernel
theorem dX1_seeOne_14 : decode cX1_seeOne 14 = .ok (.iload_n 1, 1) := by decide +kernel
theorem dX1_seeOne_15 : decode cX1_seeOne 15 = .ok (.dup2, 1) := by decide +kernel
theorem dX1_seeOne_16 : decode cX1_seeOne 16 = .ok (.iaload, 1) := by decide +kernel
theorem dX1_seeOne_17 : decode cX1_seeOne 17 = .ok (.iload_n 2, 1) := by decide +kernel
theorem dX1_seeOne_18 : decode cX1_seeOne 18 = .ok (.iadd, 1) := by decide +kernel
theorem dX1_seeOne_19 : decode cX1_seeOne 19 = .ok (.iastore, 1) := by decide +kernel
theorem dX1_seeOne_20 : decode cX1_seeOne 20 = .ok (.aload_n 0, 1) := by decide +kernel
theorem dX1_seeOne_21 : decode cX1_seeOne 21 = .ok (.dup, 1) := by decide +kernel
theorem dX1_seeOne_22 : decode cX1_seeOne 22 = .ok (.getfield 43, 3) := by decide +kernel
theorem dX1_seeOne_25 : decode cX1_seeOne 25 = .ok (.iload_n 2, 1) := by decide +kernel
theorem dX1_seeOne_26 : decode cX1_seeOne 26 = .ok (.iload_n 2, 1) := by decide +kernel
theorem dX1_seeOne_27 : decode cX1_seeOne 27 = .ok (.imul, 1) := by decide +kernel
theorem dX1_seeOne_28 : decode cX1_seeOne 28 = .ok (.i2l, 1) := by decide +kernel
theorem dX1_seeOne_29 : decode cX1_seeOne 29 = .ok (.ladd, 1) := by decide +kernel
theorem dX1_seeOne_30 : decode cX1_seeOne 30 = .ok (.putfield 43, 3) := by decide +kernel
theorem dX1_seeOne_33 : decode cX1_seeOne 33 = .ok (.aload_n 0, 1) := by decide +kernel
theorem dX1_seeOne_34 : decode cX1_seeOne 34 = .ok (.dup, 1) := by decide +kernel
theorem dX1_seeOne_35 : decode cX1_seeOne 35 = .ok (.getfield 40, 3) := by decide +kernel
theorem dX1_seeOne_38 : decode cX1_seeOne 38 = .ok (.iconst 1, 1) := by decide +kernel
theorem dX1_seeOne_39 : decode cX1_seeOne 39 = .ok (.iadd, 1) := by decide +kernel
theorem dX1_seeOne_40 : decode cX1_seeOne 40 = .ok (.putfield 40, 3) := by decide +kernel
theorem dX1_seeOne_43 : decode cX1_seeOne 43 = .ok (.return_, 1) := by decide +kernel
set_option maxRecDepth 20000 in
theorem ggX1_seeNothing_J7_fill_53178 : GoodIn wsX1_seeNothing wsJ7_fill_53178 := goodIn_r _ [8] (by decide +kernel) (by decide +kernel)
set_option maxRecDepth 20000 in
theorem gX1_seeNothing_J7_fill_53178 : GoodIn wsX1_seeNothing (va_wsS RX1 53 yJ7_fill_53178 wsJ7_fill_53178) := goodIn_app (goodIn_of _ (by decide +kernel)) ggX1_seeNothing_J7_fill_53178
theorem dX1_seeNothing_0 : decode cX1_seeNothing 0 = .ok (.aload_n 0, 1) := by decide +kernel
theorem dX1_seeNothing_1 : decode cX1_seeNothing 1 = .ok (.getfield 24, 3) := by decide +kernel
theorem dX1_seeNothing_4 : decode cX1_seeNothing 4 = .ok (.iconst 0, 1) := by decide +kernel
theorem dX1_seeNothing_5 : decode cX1_seeNothing 5 = .ok (.invokestatic 53, 3) := by decide +kernel
theorem dX1_seeNothing_8 : decode cX1_seeNothing 8 = .ok (.aload_n 0, 1) := by decide +kernel
theorem dX1_seeNothing_9 : decode cX1_seeNothing 9 = .ok (.getfield 27, 3) := by decide +kernel
theorem dX1_seeNothing_12 : decode cX1_seeNothing 12 = .ok (.iconst 0, 1) := by decide +kernel
theorem dX1_seeNothing_13 : decode cX1_seeNothing 13 = .ok (.invokestatic 53, 3) := by decide +kernel
theorem dX1_seeNothing_16 : decode cX1_seeNothing 16 = .ok (.aload_n 0, 1) := by decide +kernel
theorem dX1_seeNothing_17 : decode cX1_seeNothing 17 = .ok (.lconst 0, 1) := by decide +kernel
theorem dX1_seeNothing_18 : decode cX1_seeNothing 18 = .ok (.putfield 43, 3) := by decide +kernel
theorem dX1_seeNothing_21 : decode cX1_seeNothing 21 = .ok (.aload_n 0, 1) := by decide +kernel
theorem dX1_seeNothing_22 : decode cX1_seeNothing 22 = .ok (.iconst 0, 1) := by decide +kernel
theorem dX1_seeNothing_23 : decode cX1_seeNothing 23 = .ok (.putfield 40, 3) := by decide +kernel
theorem dX1_seeNothing_26 : decode cX1_seeNothing 26 = .ok (.return_, 1) := by decide +kernel
theorem dX2_init_0 : decode cX2_init 0 = .ok (.aload_n 0, 1) := by decide +kernel
theorem dX2_init_1 : decode cX2_init 1 = .ok (.invokespecial 3, 3) := by decide +kernel
theorem dX2_init_4 : decode cX2_init 4 = .ok (.aload_n 0, 1) := by decide +kernel
theorem dX2_init_5 : decode cX2_init 5 = .ok (.bipush 15, 2) := by decide +kernel
theorem dX2_init_7 : decode cX2_init 7 = .ok (.newarray .long, 2) := by decide +kernel
theorem dX2_init_9 : decode cX2_init 9 = .ok (.putfield 9, 3) := by decide +kernel
theorem dX2_init_12 : decode cX2_init 12 = .ok (.aload_n 0, 1) := by decide +kernel
theorem dX2_init_13 : decode cX2_init 13 = .ok (.iconst 5, 1) := by decide +kernel
theorem dX2_init_14 : decode cX2_init 14 = .ok (.newarray .boolean, 2) := by decide +kernel
theorem dX2_init_16 : decode cX2_init 16 = .ok (.putfield 15, 3) := by decide +kernel
theorem dX2_init_19 : decode cX2_init 19 = .ok (.aload_n 0, 1) := by decide +kernel
theorem dX2_init_20 : decode cX2_init 20 = .ok (.iconst 1, 1) := by decide +kernel
theorem dX2_init_21 : decode cX2_init 21 = .ok (.putfield 19, 3) := by decide +kernel
theorem dX2_init_24 : decode cX2_init 24 = .ok (.aload_n 0, 1) := by decide +kernel
theorem dX2_init_25 : decode cX2_init 25 = .ok (.lconst 1, 1) := by decide +kernel
theorem dX2_init_26 : decode cX2_init 26 = .ok (.putfield 23, 3) := by decide +kernel
theorem dX2_init_29 : decode cX2_init 29 = .ok (.return_, 1) := by decide +kernel
theorem dX2_cellAt_0 : decode cX2_cellAt 0 = .ok (.iload_n 0, 1) := by decide +kernel
theorem dX2_cellAt_1 : decode cX2_cellAt 1 = .ok (.iload_n 1, 1) := by decide +kernel
theorem dX2_cellAt_2 : decode cX2_cellAt 2 = .ok (.if_icmp .lt 13, 3) := by decide +kernel
theorem dX2_cellAt_5 : decode cX2_cellAt 5 = .ok (.getstatic 27, 3) := by decide +kernel
theorem dX2_cellAt_8 : decode cX2_cellAt 8 = .ok (.iload_n 0, 1) := by decide +kernel
theorem dX2_cellAt_9 : decode cX2_cellAt 9 = .ok (.iaload, 1) := by decide +kernel
theorem dX2_cellAt_10 : decode cX2_cellAt 10 = .ok (.iload_n 1, 1) := by decide +kernel
theorem dX2_cellAt_11 : decode cX2_cellAt 11 = .ok (.iadd, 1) := by decide +kernel
theorem dX2_cellAt_12 : decode cX2_cellAt 12 = .ok (.goto 10, 3) := by decide +kernel
theorem dX2_cellAt_15 : decode cX2_cellAt 15 = .ok (.getstatic 27, 3) := by decide +kernel
theorem dX2_cellAt_18 : decode cX2_cellAt 18 = .ok (.iload_n 1, 1) := by decide +kernel
theorem dX2_cellAt_19 : decode cX2_cellAt 19 = .ok (.iaload, 1) := by decide +kernel
theorem dX2_cellAt_20 : decode cX2_cellAt 20 = .ok (.iload_n 0, 1) := by decide +kernel
theorem dX2_cellAt_21 : decode cX2_cellAt 21 = .ok (.iadd, 1) := by decide +kernel
theorem dX2_cellAt_22 : decode cX2_cellAt 22 = .ok (.ireturn, 1) := by decide +kernel
theorem dX2_copyFrom_0 : decode cX2_copyFrom 0 = .ok (.aload_n 0, 1) := by decide +kernel
theorem dX2_copyFrom_1 : decode cX2_copyFrom 1 = .ok (.aload_n 1, 1) := by decide +kernel
theorem dX2_copyFrom_2 : decode cX2_copyFrom 2 = .ok (.getfield 19, 3) := by decide +kernel
theorem dX2_copyFrom_5 : decode cX2_copyFrom 5 = .ok (.putfield 19, 3) := by decide +kernel
theorem dX2_copyFrom_8 : decode cX2_copyFrom 8 = .ok (.aload_n 1, 1) := by decide +kernel
theorem dX2_copyFrom_9 : decode cX2_copyFrom 9 = .ok (.getfield 9, 3) := by decide +kernel
theorem dX2_copyFrom_12 : decode cX2_copyFrom 12 = .ok (.iconst 0, 1) := by decide +kernel
theorem dX2_copyFrom_13 : decode cX2_copyFrom 13 = .ok (.aload_n 0, 1) := by decide +kernel
theorem dX2_copyFrom_14 : decode cX2_copyFrom 14 = .ok (.getfield 9, 3) := by decide +kernel
theorem dX2_copyFrom_17 : decode cX2_copyFrom 17 = .ok (.iconst 0, 1) := by decide +kernel
theorem dX2_copyFrom_18 : decode cX2_copyFrom 18 = .ok (.bipush 15, 2) := by decide +kernel
theorem dX2_copyFrom_20 : decode cX2_copyFrom 20 = .ok (.invokestatic 31, 3) := by decide +kernel
theorem dX2_copyFrom_23 : decode cX2_copyFrom 23 = .ok (.return_, 1) := by decide +kernel
set_option maxRecDepth 20000 in
theorem ggX2_empty_J7_fill_d0a16 : GoodIn wsX2_empty wsJ7_fill_d0a16 := goodIn_r _ [6] (by decide +kernel) (by decide +kernel)
set_option maxRecDepth 20000 in
theorem gX2_empty_J7_fill_d0a16 : GoodIn wsX2_empty (va_wsS RX2 37 yJ7_fill_d0a16 wsJ7_fill_d0a16) := goodIn_app (goodIn_of _ (by decide +kernel)) ggX2_empty_J7_fill_d0a16
theorem dX2_empty_0 : decode cX2_empty 0 = .ok (.aload_n 0, 1) := by decide +kernel
theorem dX2_empty_1 : decode cX2_empty 1 = .ok (.iload_n 1, 1) := by decide +kernel
theorem dX2_empty_2 : decode cX2_empty 2 = .ok (.putfield 19, 3) := by decide +kernel
theorem dX2_empty_5 : decode cX2_empty 5 = .ok (.aload_n 0, 1) := by decide +kernel
theorem dX2_empty_6 : decode cX2_empty 6 = .ok (.getfield 9, 3) := by decide +kernel
theorem dX2_empty_9 : decode cX2_empty 9 = .ok (.lconst 0, 1) := by decide +kernel
theorem dX2_empty_10 : decode cX2_empty 10 = .ok (.invokestatic 37, 3) := by decide +kernel
theorem dX2_empty_13 : decode cX2_empty 13 = .ok (.return_, 1) := by decide +kernel
set_option maxRecDepth 20000 in
theorem ggX2_fill_X2_empty : GoodIn wsX2_fill wsX2_empty := goodIn_r _ [6, 7, 8, 9, 10, 11, 12, 48, 49, 50, 51, 52] (by decide +kernel) (by decide +kernel)
set_option maxRecDepth 20000 in
theorem gX2_fill_X2_empty : GoodIn wsX2_fill (wsV RX2 48 RX2 yX2_empty wsX2_empty) := goodIn_app (goodIn_of _ (by decide +kernel)) ggX2_fill_X2_empty
set_option maxRecDepth 20000 in
theorem ggX2_fill_X1_settingCount : GoodIn wsX2_fill wsX1_settingCount := goodIn_r _ [17, 18, 37, 38, 39, 40, 41, 42, 43, 44, 45, 46, 47] (by decide +kernel) (by decide +kernel)
set_option maxRecDepth 20000 in
theorem gX2_fill_X1_settingCount : GoodIn wsX2_fill (wsV RX2 52 RX1 yX1_settingCount wsX1_settingCount) := goodIn_app (goodIn_of _ (by decide +kernel)) ggX2_fill_X1_settingCount
set_option maxRecDepth 20000 in
theorem ggX2_fill_X1_signsAt : GoodIn wsX2_fill wsX1_signsAt := goodIn_r _ [22, 23, 24, 25, 26, 27, 28, 29, 30, 31, 37, 38, 39, 40, 41, 42, 43, 44, 45, 46, 47] (by decide +kernel) (by decide +kernel)
set_option maxRecDepth 20000 in
theorem gX2_fill_X1_signsAt : GoodIn wsX2_fill (wsV RX2 56 RX1 yX1_signsAt wsX1_signsAt) := goodIn_app (goodIn_of _ (by decide +kernel)) ggX2_fill_X1_signsAt
set_option maxRecDepth 20000 in
theorem ggX2_fill_X2_shift : GoodIn wsX2_fill wsX2_shift := goodIn_r _ [35, 7, 36, 8, 48, 49, 50, 51, 52] (by decide +kernel) (by decide +kernel)
set_option maxRecDepth 20000 in
theorem gX2_fill_X2_shift : GoodIn wsX2_fill (wsV RX2 60 RX2 yX2_shift wsX2_shift) := goodIn_app (goodIn_of _ (by decide +kernel)) ggX2_fill_X2_shift
theorem dX2_fill_0 : decode cX2_fill 0 = .ok (.aload_n 0, 1) := by decide +kernel
theorem dX2_fill_1 : decode cX2_fill 1 = .ok (.aload_n 1, 1) := by decide +kernel
theorem dX2_fill_2 : decode cX2_fill 2 = .ok (.getfield 43, 3) := by decide +kernel
theorem dX2_fill_5 : decode cX2_fill 5 = .ok (.invokevirtual 48, 3) := by decide +kernel
theorem dX2_fill_8 : decode cX2_fill 8 = .ok (.aload_n 1, 1) := by decide +kernel
theorem dX2_fill_9 : decode cX2_fill 9 = .ok (.invokevirtual 52, 3) := by decide +kernel
theorem dX2_fill_12 : decode cX2_fill 12 = .ok (.istore_n 3, 1) := by decide +kernel
theorem dX2_fill_13 : decode cX2_fill 13 = .ok (.iconst 0, 1) := by decide +kernel
theorem dX2_fill_14 : decode cX2_fill 14 = .ok (.istore 4, 2) := by decide +kernel
theorem dX2_fill_16 : decode cX2_fill 16 = .ok (.iload 4, 2) := by decide +kernel
theorem dX2_fill_18 : decode cX2_fill 18 = .ok (.iload_n 3, 1) := by decide +kernel
theorem dX2_fill_19 : decode cX2_fill 19 = .ok (.if_icmp .ge 30, 3) := by decide +kernel
theorem dX2_fill_22 : decode cX2_fill 22 = .ok (.aload_n 2, 1) := by decide +kernel
theorem dX2_fill_23 : decode cX2_fill 23 = .ok (.iload 4, 2) := by decide +kernel
theorem dX2_fill_25 : decode cX2_fill 25 = .ok (.iaload, 1) := by decide +kernel
theorem dX2_fill_26 : decode cX2_fill 26 = .ok (.ifCond .le 17, 3) := by decide +kernel
theorem dX2_fill_29 : decode cX2_fill 29 = .ok (.aload_n 0, 1) := by decide +kernel
theorem dX2_fill_30 : decode cX2_fill 30 = .ok (.aload_n 1, 1) := by decide +kernel
theorem dX2_fill_31 : decode cX2_fill 31 = .ok (.iload 4, 2) := by decide +kernel
theorem dX2_fill_33 : decode cX2_fill 33 = .ok (.invokevirtual 56, 3) := by decide +kernel
theorem dX2_fill_36 : decode cX2_fill 36 = .ok (.aload_n 2, 1) := by decide +kernel
theorem dX2_fill_37 : decode cX2_fill 37 = .ok (.iload 4, 2) := by decide +kernel
theorem dX2_fill_39 : decode cX2_fill 39 = .ok (.iaload, 1) := by decide +kernel
theorem dX2_fill_40 : decode cX2_fill 40 = .ok (.invokevirtual 60, 3) := by decide +kernel
theorem dX2_fill_43 : decode cX2_fill 43 = .ok (.iinc 4 1, 3) := by decide +kernel
theorem dX2_fill_46 : decode cX2_fill 46 = .ok (.goto (-30), 3) := by decide +kernel
theorem dX2_fill_49 : decode cX2_fill 49 = .ok (.return_, 1) := by decide +kernel
theorem dX2_shift_0 : decode cX2_shift 0 = .ok (.iconst 0, 1) := by decide +kernel
theorem dX2_shift_1 : decode cX2_shift 1 = .ok (.istore_n 3, 1) := by decide +kernel
theorem dX2_shift_2 : decode cX2_shift 2 = .ok (.iload_n 3, 1) := by decide +kernel
theorem dX2_shift_3 : decode cX2_shift 3 = .ok (.aload_n 0, 1) := by decide +kernel
theorem dX2_shift_4 : decode cX2_shift 4 = .ok (.getfield 19, 3) := by decide +kernel
theorem dX2_shift_7 : decode cX2_shift 7 = .ok (.if_icmp .ge 69, 3) := by decide +kernel
theorem dX2_shift_10 : decode cX2_shift 10 = .ok (.getstatic 27, 3) := by decide +kernel
theorem dX2_shift_13 : decode cX2_shift 13 = .ok (.iload_n 3, 1) := by decide +kernel
theorem dX2_shift_14 : decode cX2_shift 14 = .ok (.iaload, 1) := by decide +kernel
theorem dX2_shift_15 : decode cX2_shift 15 = .ok (.istore 4, 2) := by decide +kernel
theorem dX2_shift_17 : decode cX2_shift 17 = .ok (.iload_n 1, 1) := by decide +kernel
theorem dX2_shift_18 : decode cX2_shift 18 = .ok (.iload_n 3, 1) := by decide +kernel
theorem dX2_shift_19 : decode cX2_shift 19 = .ok (.ishr, 1) := by decide +kernel
theorem dX2_shift_20 : decode cX2_shift 20 = .ok (.istore 5, 2) := by decide +kernel
theorem dX2_shift_22 : decode cX2_shift 22 = .ok (.iconst 0, 1) := by decide +kernel
theorem dX2_shift_23 : decode cX2_shift 23 = .ok (.istore 6, 2) := by decide +kernel
theorem dX2_shift_25 : decode cX2_shift 25 = .ok (.iload 6, 2) := by decide +kernel
theorem dX2_shift_27 : decode cX2_shift 27 = .ok (.iload_n 3, 1) := by decide +kernel
theorem dX2_shift_28 : decode cX2_shift 28 = .ok (.if_icmp .gt 42, 3) := by decide +kernel
theorem dX2_shift_31 : decode cX2_shift 31 = .ok (.aload_n 0, 1) := by decide +kernel
theorem dX2_shift_32 : decode cX2_shift 32 = .ok (.getfield 9, 3) := by decide +kernel
theorem dX2_shift_35 : decode cX2_shift 35 = .ok (.iload 4, 2) := by decide +kernel
theorem dX2_shift_37 : decode cX2_shift 37 = .ok (.iload 6, 2) := by decide +kernel
theorem dX2_shift_39 : decode cX2_shift 39 = .ok (.iadd, 1) := by decide +kernel
theorem dX2_shift_40 : decode cX2_shift 40 = .ok (.dup2, 1) := by decide +kernel
theorem dX2_shift_41 : decode cX2_shift 41 = .ok (.laload, 1) := by decide +kernel
theorem dX2_shift_42 : decode cX2_shift 42 = .ok (.iload 5, 2) := by decide +kernel
theorem dX2_shift_44 : decode cX2_shift 44 = .ok (.iload_n 1, 1) := by decide +kernel
theorem dX2_shift_45 : decode cX2_shift 45 = .ok (.iload 6, 2) := by decide +kernel
theorem dX2_shift_47 : decode cX2_shift 47 = .ok (.ishr, 1) := by decide +kernel
theorem dX2_shift_48 : decode cX2_shift 48 = .ok (.ixor, 1) := by decide +kernel
theorem dX2_shift_49 : decode cX2_shift 49 = .ok (.iconst 1, 1) := by decide +kernel
theorem dX2_shift_50 : decode cX2_shift 50 = .ok (.iand, 1) := by decide +kernel
theorem dX2_shift_51 : decode cX2_shift 51 = .ok (.ifCond .ne 8, 3) := by decide +kernel
theorem dX2_shift_54 : decode cX2_shift 54 = .ok (.iload_n 2, 1) := by decide +kernel
theorem dX2_shift_55 : decode cX2_shift 55 = .ok (.i2l, 1) := by decide +kernel
theorem dX2_shift_56 : decode cX2_shift 56 = .ok (.goto 6, 3) := by decide +kernel
theorem dX2_shift_59 : decode cX2_shift 59 = .ok (.iload_n 2, 1) := by decide +kernel
theorem dX2_shift_60 : decode cX2_shift 60 = .ok (.ineg, 1) := by decide +kernel
theorem dX2_shift_61 : decode cX2_shift 61 = .ok (.i2l, 1) := by decide +kernel
theorem dX2_shift_62 : decode cX2_shift 62 = .ok (.ladd, 1) := by decide +kernel
theorem dX2_shift_63 : decode cX2_shift 63 = .ok (.lastore, 1) := by decide +kernel
theorem dX2_shift_64 : decode cX2_shift 64 = .ok (.iinc 6 1, 3) := by decide +kernel
theorem dX2_shift_67 : decode cX2_shift 67 = .ok (.goto (-42), 3) := by decide +kernel
theorem dX2_shift_70 : decode cX2_shift 70 = .ok (.iinc 3 1, 3) := by decide +kernel
theorem dX2_shift_73 : decode cX2_shift 73 = .ok (.goto (-71), 3) := by decide +kernel
theorem dX2_shift_76 : decode cX2_shift 76 = .ok (.return_, 1) := by decide +kernel
theorem dX2_determinant_0 : decode cX2_determinant 0 = .ok (.lconst 1, 1) := by decide +kernel
theorem dX2_determinant_1 : decode cX2_determinant 1 = .ok (.lstore_n 1, 1) := by decide +kernel
theorem dX2_determinant_2 : decode cX2_determinant 2 = .ok (.iconst 0, 1) := by decide +kernel
theorem dX2_determinant_3 : decode cX2_determinant 3 = .ok (.istore_n 3, 1) := by decide +kernel
theorem dX2_determinant_4 : decode cX2_determinant 4 = .ok (.iload_n 3, 1) := by decide +kernel
theorem dX2_determinant_5 : decode cX2_determinant 5 = .ok (.aload_n 0, 1) := by decide +kernel
theorem dX2_determinant_6 : decode cX2_determinant 6 = .ok (.getfield 19, 3) := by decide +kernel
theorem dX2_determinant_9 : decode cX2_determinant 9 = .ok (.iconst 1, 1) := by decide +kernel
theorem dX2_determinant_10 : decode cX2_determinant 10 = .ok (.isub, 1) := by decide +kernel
theorem dX2_determinant_11 : decode cX2_determinant 11 = .ok (.if_icmp .ge 135, 3) := by decide +kernel
theorem dX2_determinant_14 : decode cX2_determinant 14 = .ok (.aload_n 0, 1) := by decide +kernel
theorem dX2_determinant_15 : decode cX2_determinant 15 = .ok (.getfield 9, 3) := by decide +kernel
theorem dX2_determinant_18 : decode cX2_determinant 18 = .ok (.getstatic 27, 3) := by decide +kernel
theorem dX2_determinant_21 : decode cX2_determinant 21 = .ok (.iload_n 3, 1) := by decide +kernel
theorem dX2_determinant_22 : decode cX2_determinant 22 = .ok (.iaload, 1) := by decide +kernel
theorem dX2_determinant_23 : decode cX2_determinant 23 = .ok (.iload_n 3, 1) := by decide +kernel
theorem dX2_determinant_24 : decode cX2_determinant 24 = .ok (.iadd, 1) := by decide +kernel
theorem dX2_determinant_25 : decode cX2_determinant 25 = .ok (.laload, 1) := by decide +kernel
theorem dX2_determinant_26 : decode cX2_determinant 26 = .ok (.lstore 4, 2) := by decide +kernel
theorem dX2_determinant_28 : decode cX2_determinant 28 = .ok (.lload 4, 2) := by decide +kernel
theorem dX2_determinant_30 : decode cX2_determinant 30 = .ok (.lconst 0, 1) := by decide +kernel
theorem dX2_determinant_31 : decode cX2_determinant 31 = .ok (.lcmp, 1) := by decide +kernel
theorem dX2_determinant_32 : decode cX2_determinant 32 = .ok (.ifCond .gt 5, 3) := by decide +kernel
theorem dX2_determinant_35 : decode cX2_determinant 35 = .ok (.lconst 0, 1) := by decide +kernel
theorem dX2_determinant_36 : decode cX2_determinant 36 = .ok (.lreturn, 1) := by decide +kernel
theorem dX2_determinant_37 : decode cX2_determinant 37 = .ok (.iload_n 3, 1) := by decide +kernel
theorem dX2_determinant_38 : decode cX2_determinant 38 = .ok (.iconst 1, 1) := by decide +kernel
theorem dX2_determinant_39 : decode cX2_determinant 39 = .ok (.iadd, 1) := by decide +kernel
theorem dX2_determinant_40 : decode cX2_determinant 40 = .ok (.istore 6, 2) := by decide +kernel
theorem dX2_determinant_42 : decode cX2_determinant 42 = .ok (.iload 6, 2) := by decide +kernel
theorem dX2_determinant_44 : decode cX2_determinant 44 = .ok (.aload_n 0, 1) := by decide +kernel
theorem dX2_determinant_45 : decode cX2_determinant 45 = .ok (.getfield 19, 3) := by decide +kernel
theorem dX2_determinant_48 : decode cX2_determinant 48 = .ok (.if_icmp .ge 89, 3) := by decide +kernel
theorem dX2_determinant_51 : decode cX2_determinant 51 = .ok (.aload_n 0, 1) := by decide +kernel
theorem dX2_determinant_52 : decode cX2_determinant 52 = .ok (.getfield 9, 3) := by decide +kernel
theorem dX2_determinant_55 : decode cX2_determinant 55 = .ok (.getstatic 27, 3) := by decide +kernel
theorem dX2_determinant_58 : decode cX2_determinant 58 = .ok (.iload 6, 2) := by decide +kernel
theorem dX2_determinant_60 : decode cX2_determinant 60 = .ok (.iaload, 1) := by decide +kernel
theorem dX2_determinant_61 : decode cX2_determinant 61 = .ok (.iload_n 3, 1) := by decide +kernel
theorem dX2_determinant_62 : decode cX2_determinant 62 = .ok (.iadd, 1) := by decide +kernel
theorem dX2_determinant_63 : decode cX2_determinant 63 = .ok (.laload, 1) := by decide +kernel
theorem dX2_determinant_64 : decode cX2_determinant 64 = .ok (.lstore 7, 2) := by decide +kernel
theorem dX2_determinant_66 : decode cX2_determinant 66 = .ok (.iload_n 3, 1) := by decide +kernel
theorem dX2_determinant_67 : decode cX2_determinant 67 = .ok (.iconst 1, 1) := by decide +kernel
theorem dX2_determinant_68 : decode cX2_determinant 68 = .ok (.iadd, 1) := by decide +kernel
theorem dX2_determinant_69 : decode cX2_determinant 69 = .ok (.istore 9, 2) := by decide +kernel
theorem dX2_determinant_71 : decode cX2_determinant 71 = .ok (.iload 9, 2) := by decide +kernel
theorem dX2_determinant_73 : decode cX2_determinant 73 = .ok (.iload 6, 2) := by decide +kernel
theorem dX2_determinant_75 : decode cX2_determinant 75 = .ok (.if_icmp .gt 56, 3) := by decide +kernel
theorem dX2_determinant_78 : decode cX2_determinant 78 = .ok (.getstatic 27, 3) := by decide +kernel
theorem dX2_determinant_81 : decode cX2_determinant 81 = .ok (.iload 6, 2) := by decide +kernel
theorem dX2_determinant_83 : decode cX2_determinant 83 = .ok (.iaload, 1) := by decide +kernel
theorem dX2_determinant_84 : decode cX2_determinant 84 = .ok (.iload 9, 2) := by decide +kernel
theorem dX2_determinant_86 : decode cX2_determinant 86 = .ok (.iadd, 1) := by decide +kernel
theorem dX2_determinant_87 : decode cX2_determinant 87 = .ok (.istore 10, 2) := by decide +kernel
theorem dX2_determinant_89 : decode cX2_determinant 89 = .ok (.aload_n 0, 1) := by decide +kernel
theorem dX2_determinant_90 : decode cX2_determinant 90 = .ok (.getfield 9, 3) := by decide +kernel
theorem dX2_determinant_93 : decode cX2_determinant 93 = .ok (.iload 10, 2) := by decide +kernel
theorem dX2_determinant_95 : decode cX2_determinant 95 = .ok (.aload_n 0, 1) := by decide +kernel
theorem dX2_determinant_96 : decode cX2_determinant 96 = .ok (.getfield 9, 3) := by decide +kernel
theorem dX2_determinant_99 : decode cX2_determinant 99 = .ok (.iload 10, 2) := by decide +kernel
theorem dX2_determinant_101 : decode cX2_determinant 101 = .ok (.laload, 1) := by decide +kernel
theorem dX2_determinant_102 : decode cX2_determinant 102 = .ok (.lload 4, 2) := by decide +kernel
theorem dX2_determinant_104 : decode cX2_determinant 104 = .ok (.lmul, 1) := by decide +kernel
theorem dX2_determinant_105 : decode cX2_determinant 105 = .ok (.lload 7, 2) := by decide +kernel
theorem dX2_determinant_107 : decode cX2_determinant 107 = .ok (.aload_n 0, 1) := by decide +kernel
theorem dX2_determinant_108 : decode cX2_determinant 108 = .ok (.getfield 9, 3) := by decide +kernel
theorem dX2_determinant_111 : decode cX2_determinant 111 = .ok (.getstatic 27, 3) := by decide +kernel
theorem dX2_determinant_114 : decode cX2_determinant 114 = .ok (.iload 9, 2) := by decide +kernel
theorem dX2_determinant_116 : decode cX2_determinant 116 = .ok (.iaload, 1) := by decide +kernel
theorem dX2_determinant_117 : decode cX2_determinant 117 = .ok (.iload_n 3, 1) := by decide +kernel
theorem dX2_determinant_118 : decode cX2_determinant 118 = .ok (.iadd, 1) := by decide +kernel
theorem dX2_determinant_119 : decode cX2_determinant 119 = .ok (.laload, 1) := by decide +kernel
theorem dX2_determinant_120 : decode cX2_determinant 120 = .ok (.lmul, 1) := by decide +kernel
theorem dX2_determinant_121 : decode cX2_determinant 121 = .ok (.lsub, 1) := by decide +kernel
theorem dX2_determinant_122 : decode cX2_determinant 122 = .ok (.lload_n 1, 1) := by decide +kernel
theorem dX2_determinant_123 : decode cX2_determinant 123 = .ok (.ldiv, 1) := by decide +kernel
theorem dX2_determinant_124 : decode cX2_determinant 124 = .ok (.lastore, 1) := by decide +kernel
theorem dX2_determinant_125 : decode cX2_determinant 125 = .ok (.iinc 9 1, 3) := by decide +kernel
theorem dX2_determinant_128 : decode cX2_determinant 128 = .ok (.goto (-57), 3) := by decide +kernel
theorem dX2_determinant_131 : decode cX2_determinant 131 = .ok (.iinc 6 1, 3) := by decide +kernel
theorem dX2_determinant_134 : decode cX2_determinant 134 = .ok (.goto (-92), 3) := by decide +kernel
theorem dX2_determinant_137 : decode cX2_determinant 137 = .ok (.lload 4, 2) := by decide +kernel
theorem dX2_determinant_139 : decode cX2_determinant 139 = .ok (.lstore_n 1, 1) := by decide +kernel
theorem dX2_determinant_140 : decode cX2_determinant 140 = .ok (.iinc 3 1, 3) := by decide +kernel
theorem dX2_determinant_143 : decode cX2_determinant 143 = .ok (.goto (-139), 3) := by decide +kernel
theorem dX2_determinant_146 : decode cX2_determinant 146 = .ok (.aload_n 0, 1) := by decide +kernel
theorem dX2_determinant_147 : decode cX2_determinant 147 = .ok (.getfield 9, 3) := by decide +kernel
theorem dX2_determinant_150 : decode cX2_determinant 150 = .ok (.getstatic 27, 3) := by decide +kernel
theorem dX2_determinant_153 : decode cX2_determinant 153 = .ok (.aload_n 0, 1) := by decide +kernel
theorem dX2_determinant_154 : decode cX2_determinant 154 = .ok (.getfield 19, 3) := by decide +kernel
theorem dX2_determinant_157 : decode cX2_determinant 157 = .ok (.iconst 1, 1) := by decide +kernel
theorem dX2_determinant_158 : decode cX2_determinant 158 = .ok (.isub, 1) := by decide +kernel
theorem dX2_determinant_159 : decode cX2_determinant 159 = .ok (.iaload, 1) := by decide +kernel
theorem dX2_determinant_160 : decode cX2_determinant 160 = .ok (.aload_n 0, 1) := by decide +kernel
theorem dX2_determinant_161 : decode cX2_determinant 161 = .ok (.getfield 19, 3) := by decide +kernel
theorem dX2_determinant_164 : decode cX2_determinant 164 = .ok (.iadd, 1) := by decide +kernel
theorem dX2_determinant_165 : decode cX2_determinant 165 = .ok (.iconst 1, 1) := by decide +kernel
theorem dX2_determinant_166 : decode cX2_determinant 166 = .ok (.isub, 1) := by decide +kernel
theorem dX2_determinant_167 : decode cX2_determinant 167 = .ok (.laload, 1) := by decide +kernel
theorem dX2_determinant_168 : decode cX2_determinant 168 = .ok (.lreturn, 1) := by decide +kernel
set_option maxRecDepth 20000 in
theorem ggX2_sweep_X2_sweepLine : GoodIn wsX2_sweep wsX2_sweepLine := goodIn_r _ [11, 1, 3, 4, 5, 12, 13, 10, 14, 15, 16, 17, 18, 19] (by decide +kernel) (by decide +kernel)
set_option maxRecDepth 20000 in
theorem gX2_sweep_X2_sweepLine : GoodIn wsX2_sweep (wsV RX2 67 RX2 yX2_sweepLine wsX2_sweepLine) := goodIn_app (goodIn_of _ (by decide +kernel)) ggX2_sweep_X2_sweepLine
theorem dX2_sweep_0 : decode cX2_sweep 0 = .ok (.aload_n 0, 1) := by decide +kernel
theorem dX2_sweep_1 : decode cX2_sweep 1 = .ok (.lconst 1, 1) := by decide +kernel
theorem dX2_sweep_2 : decode cX2_sweep 2 = .ok (.putfield 23, 3) := by decide +kernel
theorem dX2_sweep_5 : decode cX2_sweep 5 = .ok (.aload_n 0, 1) := by decide +kernel
theorem dX2_sweep_6 : decode cX2_sweep 6 = .ok (.iconst 0, 1) := by decide +kernel
theorem dX2_sweep_7 : decode cX2_sweep 7 = .ok (.putfield 64, 3) := by decide +kernel
theorem dX2_sweep_10 : decode cX2_sweep 10 = .ok (.iconst 0, 1) := by decide +kernel
theorem dX2_sweep_11 : decode cX2_sweep 11 = .ok (.istore_n 1, 1) := by decide +kernel
theorem dX2_sweep_12 : decode cX2_sweep 12 = .ok (.iload_n 1, 1) := by decide +kernel
theorem dX2_sweep_13 : decode cX2_sweep 13 = .ok (.aload_n 0, 1) := by decide +kernel
theorem dX2_sweep_14 : decode cX2_sweep 14 = .ok (.getfield 19, 3) := by decide +kernel
theorem dX2_sweep_17 : decode cX2_sweep 17 = .ok (.if_icmp .ge 66, 3) := by decide +kernel
theorem dX2_sweep_20 : decode cX2_sweep 20 = .ok (.aload_n 0, 1) := by decide +kernel
theorem dX2_sweep_21 : decode cX2_sweep 21 = .ok (.getfield 9, 3) := by decide +kernel
theorem dX2_sweep_24 : decode cX2_sweep 24 = .ok (.getstatic 27, 3) := by decide +kernel
theorem dX2_sweep_27 : decode cX2_sweep 27 = .ok (.iload_n 1, 1) := by decide +kernel
theorem dX2_sweep_28 : decode cX2_sweep 28 = .ok (.iaload, 1) := by decide +kernel
theorem dX2_sweep_29 : decode cX2_sweep 29 = .ok (.iload_n 1, 1) := by decide +kernel
theorem dX2_sweep_30 : decode cX2_sweep 30 = .ok (.iadd, 1) := by decide +kernel
theorem dX2_sweep_31 : decode cX2_sweep 31 = .ok (.laload, 1) := by decide +kernel
theorem dX2_sweep_32 : decode cX2_sweep 32 = .ok (.lstore_n 2, 1) := by decide +kernel
theorem dX2_sweep_33 : decode cX2_sweep 33 = .ok (.aload_n 0, 1) := by decide +kernel
theorem dX2_sweep_34 : decode cX2_sweep 34 = .ok (.getfield 15, 3) := by decide +kernel
theorem dX2_sweep_37 : decode cX2_sweep 37 = .ok (.iload_n 1, 1) := by decide +kernel
theorem dX2_sweep_38 : decode cX2_sweep 38 = .ok (.lload_n 2, 1) := by decide +kernel
theorem dX2_sweep_39 : decode cX2_sweep 39 = .ok (.lconst 0, 1) := by decide +kernel
theorem dX2_sweep_40 : decode cX2_sweep 40 = .ok (.lcmp, 1) := by decide +kernel
theorem dX2_sweep_41 : decode cX2_sweep 41 = .ok (.ifCond .le 7, 3) := by decide +kernel
theorem dX2_sweep_44 : decode cX2_sweep 44 = .ok (.iconst 1, 1) := by decide +kernel
theorem dX2_sweep_45 : decode cX2_sweep 45 = .ok (.goto 4, 3) := by decide +kernel
theorem dX2_sweep_48 : decode cX2_sweep 48 = .ok (.iconst 0, 1) := by decide +kernel
theorem dX2_sweep_49 : decode cX2_sweep 49 = .ok (.bastore, 1) := by decide +kernel
theorem dX2_sweep_50 : decode cX2_sweep 50 = .ok (.lload_n 2, 1) := by decide +kernel
theorem dX2_sweep_51 : decode cX2_sweep 51 = .ok (.lconst 0, 1) := by decide +kernel
theorem dX2_sweep_52 : decode cX2_sweep 52 = .ok (.lcmp, 1) := by decide +kernel
theorem dX2_sweep_53 : decode cX2_sweep 53 = .ok (.ifCond .le 24, 3) := by decide +kernel
theorem dX2_sweep_56 : decode cX2_sweep 56 = .ok (.aload_n 0, 1) := by decide +kernel
theorem dX2_sweep_57 : decode cX2_sweep 57 = .ok (.iload_n 1, 1) := by decide +kernel
theorem dX2_sweep_58 : decode cX2_sweep 58 = .ok (.lload_n 2, 1) := by decide +kernel
theorem dX2_sweep_59 : decode cX2_sweep 59 = .ok (.invokevirtual 67, 3) := by decide +kernel
theorem dX2_sweep_62 : decode cX2_sweep 62 = .ok (.aload_n 0, 1) := by decide +kernel
theorem dX2_sweep_63 : decode cX2_sweep 63 = .ok (.lload_n 2, 1) := by decide +kernel
theorem dX2_sweep_64 : decode cX2_sweep 64 = .ok (.putfield 23, 3) := by decide +kernel
theorem dX2_sweep_67 : decode cX2_sweep 67 = .ok (.aload_n 0, 1) := by decide +kernel
theorem dX2_sweep_68 : decode cX2_sweep 68 = .ok (.dup, 1) := by decide +kernel
theorem dX2_sweep_69 : decode cX2_sweep 69 = .ok (.getfield 64, 3) := by decide +kernel
theorem dX2_sweep_72 : decode cX2_sweep 72 = .ok (.iconst 1, 1) := by decide +kernel
theorem dX2_sweep_73 : decode cX2_sweep 73 = .ok (.iadd, 1) := by decide +kernel
theorem dX2_sweep_74 : decode cX2_sweep 74 = .ok (.putfield 64, 3) := by decide +kernel
theorem dX2_sweep_77 : decode cX2_sweep 77 = .ok (.iinc 1 1, 3) := by decide +kernel
theorem dX2_sweep_80 : decode cX2_sweep 80 = .ok (.goto (-68), 3) := by decide +kernel
theorem dX2_sweep_83 : decode cX2_sweep 83 = .ok (.return_, 1) := by decide +kernel
set_option maxRecDepth 20000 in
theorem ggX2_sweepLine_X2_cellAt : GoodIn wsX2_sweepLine wsX2_cellAt := goodIn_r _ [8, 4] (by decide +kernel) (by decide +kernel)
set_option maxRecDepth 20000 in
theorem gX2_sweepLine_X2_cellAt : GoodIn wsX2_sweepLine (va_wsS RX2 71 yX2_cellAt wsX2_cellAt) := goodIn_app (goodIn_of _ (by decide +kernel)) ggX2_sweepLine_X2_cellAt
theorem dX2_sweepLine_0 : decode cX2_sweepLine 0 = .ok (.aload_n 0, 1) := by decide +kernel
theorem dX2_sweepLine_1 : decode cX2_sweepLine 1 = .ok (.getfield 23, 3) := by decide +kernel
theorem dX2_sweepLine_4 : decode cX2_sweepLine 4 = .ok (.lconst 1, 1) := by decide +kernel
theorem dX2_sweepLine_5 : decode cX2_sweepLine 5 = .ok (.lcmp, 1) := by decide +kernel
theorem dX2_sweepLine_6 : decode cX2_sweepLine 6 = .ok (.ifCond .ge 4, 3) := by decide +kernel
theorem dX2_sweepLine_9 : decode cX2_sweepLine 9 = .ok (.return_, 1) := by decide +kernel
theorem dX2_sweepLine_10 : decode cX2_sweepLine 10 = .ok (.iconst 0, 1) := by decide +kernel
theorem dX2_sweepLine_11 : decode cX2_sweepLine 11 = .ok (.istore 4, 2) := by decide +kernel
theorem dX2_sweepLine_13 : decode cX2_sweepLine 13 = .ok (.iload 4, 2) := by decide +kernel
theorem dX2_sweepLine_15 : decode cX2_sweepLine 15 = .ok (.aload_n 0, 1) := by decide +kernel
theorem dX2_sweepLine_16 : decode cX2_sweepLine 16 = .ok (.getfield 19, 3) := by decide +kernel
theorem dX2_sweepLine_19 : decode cX2_sweepLine 19 = .ok (.if_icmp .ge 97, 3) := by decide +kernel
theorem dX2_sweepLine_22 : decode cX2_sweepLine 22 = .ok (.aload_n 0, 1) := by decide +kernel
theorem dX2_sweepLine_23 : decode cX2_sweepLine 23 = .ok (.getfield 9, 3) := by decide +kernel
theorem dX2_sweepLine_26 : decode cX2_sweepLine 26 = .ok (.iload 4, 2) := by decide +kernel
theorem dX2_sweepLine_28 : decode cX2_sweepLine 28 = .ok (.iload_n 1, 1) := by decide +kernel
theorem dX2_sweepLine_29 : decode cX2_sweepLine 29 = .ok (.invokestatic 71, 3) := by decide +kernel
theorem dX2_sweepLine_32 : decode cX2_sweepLine 32 = .ok (.laload, 1) := by decide +kernel
theorem dX2_sweepLine_33 : decode cX2_sweepLine 33 = .ok (.lstore 5, 2) := by decide +kernel
theorem dX2_sweepLine_35 : decode cX2_sweepLine 35 = .ok (.iconst 0, 1) := by decide +kernel
theorem dX2_sweepLine_36 : decode cX2_sweepLine 36 = .ok (.istore 7, 2) := by decide +kernel
theorem dX2_sweepLine_38 : decode cX2_sweepLine 38 = .ok (.iload 7, 2) := by decide +kernel
theorem dX2_sweepLine_40 : decode cX2_sweepLine 40 = .ok (.iload 4, 2) := by decide +kernel
theorem dX2_sweepLine_42 : decode cX2_sweepLine 42 = .ok (.if_icmp .gt 68, 3) := by decide +kernel
theorem dX2_sweepLine_45 : decode cX2_sweepLine 45 = .ok (.iload 4, 2) := by decide +kernel
theorem dX2_sweepLine_47 : decode cX2_sweepLine 47 = .ok (.iload_n 1, 1) := by decide +kernel
theorem dX2_sweepLine_48 : decode cX2_sweepLine 48 = .ok (.if_icmp .eq 56, 3) := by decide +kernel
theorem dX2_sweepLine_51 : decode cX2_sweepLine 51 = .ok (.iload 7, 2) := by decide +kernel
theorem dX2_sweepLine_53 : decode cX2_sweepLine 53 = .ok (.iload_n 1, 1) := by decide +kernel
theorem dX2_sweepLine_54 : decode cX2_sweepLine 54 = .ok (.if_icmp .eq 50, 3) := by decide +kernel
theorem dX2_sweepLine_57 : decode cX2_sweepLine 57 = .ok (.getstatic 27, 3) := by decide +kernel
theorem dX2_sweepLine_60 : decode cX2_sweepLine 60 = .ok (.iload 4, 2) := by decide +kernel
theorem dX2_sweepLine_62 : decode cX2_sweepLine 62 = .ok (.iaload, 1) := by decide +kernel
theorem dX2_sweepLine_63 : decode cX2_sweepLine 63 = .ok (.iload 7, 2) := by decide +kernel
theorem dX2_sweepLine_65 : decode cX2_sweepLine 65 = .ok (.iadd, 1) := by decide +kernel
theorem dX2_sweepLine_66 : decode cX2_sweepLine 66 = .ok (.istore 8, 2) := by decide +kernel
theorem dX2_sweepLine_68 : decode cX2_sweepLine 68 = .ok (.aload_n 0, 1) := by decide +kernel
theorem dX2_sweepLine_69 : decode cX2_sweepLine 69 = .ok (.getfield 9, 3) := by decide +kernel
theorem dX2_sweepLine_72 : decode cX2_sweepLine 72 = .ok (.iload 8, 2) := by decide +kernel
theorem dX2_sweepLine_74 : decode cX2_sweepLine 74 = .ok (.aload_n 0, 1) := by decide +kernel
theorem dX2_sweepLine_75 : decode cX2_sweepLine 75 = .ok (.getfield 9, 3) := by decide +kernel
theorem dX2_sweepLine_78 : decode cX2_sweepLine 78 = .ok (.iload 8, 2) := by decide +kernel
theorem dX2_sweepLine_80 : decode cX2_sweepLine 80 = .ok (.laload, 1) := by decide +kernel
theorem dX2_sweepLine_81 : decode cX2_sweepLine 81 = .ok (.lload_n 2, 1) := by decide +kernel
theorem dX2_sweepLine_82 : decode cX2_sweepLine 82 = .ok (.lmul, 1) := by decide +kernel
theorem dX2_sweepLine_83 : decode cX2_sweepLine 83 = .ok (.lload 5, 2) := by decide +kernel
theorem dX2_sweepLine_85 : decode cX2_sweepLine 85 = .ok (.aload_n 0, 1) := by decide +kernel
theorem dX2_sweepLine_86 : decode cX2_sweepLine 86 = .ok (.getfield 9, 3) := by decide +kernel
theorem dX2_sweepLine_89 : decode cX2_sweepLine 89 = .ok (.iload 7, 2) := by decide +kernel
theorem dX2_sweepLine_91 : decode cX2_sweepLine 91 = .ok (.iload_n 1, 1) := by decide +kernel
theorem dX2_sweepLine_92 : decode cX2_sweepLine 92 = .ok (.invokestatic 71, 3) := by decide +kernel
theorem dX2_sweepLine_95 : decode cX2_sweepLine 95 = .ok (.laload, 1) := by decide +kernel
theorem dX2_sweepLine_96 : decode cX2_sweepLine 96 = .ok (.lmul, 1) := by decide +kernel
theorem dX2_sweepLine_97 : decode cX2_sweepLine 97 = .ok (.lsub, 1) := by decide +kernel
theorem dX2_sweepLine_98 : decode cX2_sweepLine 98 = .ok (.aload_n 0, 1) := by decide +kernel
theorem dX2_sweepLine_99 : decode cX2_sweepLine 99 = .ok (.getfield 23, 3) := by decide +kernel
theorem dX2_sweepLine_102 : decode cX2_sweepLine 102 = .ok (.ldiv, 1) := by decide +kernel
theorem dX2_sweepLine_103 : decode cX2_sweepLine 103 = .ok (.lastore, 1) := by decide +kernel
theorem dX2_sweepLine_104 : decode cX2_sweepLine 104 = .ok (.iinc 7 1, 3) := by decide +kernel
theorem dX2_sweepLine_107 : decode cX2_sweepLine 107 = .ok (.goto (-69), 3) := by decide +kernel
theorem dX2_sweepLine_110 : decode cX2_sweepLine 110 = .ok (.iinc 4 1, 3) := by decide +kernel
theorem dX2_sweepLine_113 : decode cX2_sweepLine 113 = .ok (.goto (-100), 3) := by decide +kernel
theorem dX2_sweepLine_116 : decode cX2_sweepLine 116 = .ok (.aload_n 0, 1) := by decide +kernel
theorem dX2_sweepLine_117 : decode cX2_sweepLine 117 = .ok (.getfield 9, 3) := by decide +kernel
theorem dX2_sweepLine_120 : decode cX2_sweepLine 120 = .ok (.getstatic 27, 3) := by decide +kernel
theorem dX2_sweepLine_123 : decode cX2_sweepLine 123 = .ok (.iload_n 1, 1) := by decide +kernel
theorem dX2_sweepLine_124 : decode cX2_sweepLine 124 = .ok (.iaload, 1) := by decide +kernel
theorem dX2_sweepLine_125 : decode cX2_sweepLine 125 = .ok (.iload_n 1, 1) := by decide +kernel
theorem dX2_sweepLine_126 : decode cX2_sweepLine 126 = .ok (.iadd, 1) := by decide +kernel
theorem dX2_sweepLine_127 : decode cX2_sweepLine 127 = .ok (.aload_n 0, 1) := by decide +kernel
theorem dX2_sweepLine_128 : decode cX2_sweepLine 128 = .ok (.getfield 23, 3) := by decide +kernel
theorem dX2_sweepLine_131 : decode cX2_sweepLine 131 = .ok (.lneg, 1) := by decide +kernel
theorem dX2_sweepLine_132 : decode cX2_sweepLine 132 = .ok (.lastore, 1) := by decide +kernel
theorem dX2_sweepLine_133 : decode cX2_sweepLine 133 = .ok (.return_, 1) := by decide +kernel
set_option maxRecDepth 20000 in
theorem ggX2_reaches_X2_cellAt : GoodIn wsX2_reaches wsX2_cellAt := goodIn_r _ [8, 9] (by decide +kernel) (by decide +kernel)
set_option maxRecDepth 20000 in
theorem gX2_reaches_X2_cellAt : GoodIn wsX2_reaches (va_wsS RX2 71 yX2_cellAt wsX2_cellAt) := goodIn_app (goodIn_of _ (by decide +kernel)) ggX2_reaches_X2_cellAt
theorem dX2_reaches_0 : decode cX2_reaches 0 = .ok (.iconst 0, 1) := by decide +kernel
theorem dX2_reaches_1 : decode cX2_reaches 1 = .ok (.istore_n 2, 1) := by decide +kernel
theorem dX2_reaches_2 : decode cX2_reaches 2 = .ok (.iload_n 2, 1) := by decide +kernel
theorem dX2_reaches_3 : decode cX2_reaches 3 = .ok (.aload_n 0, 1) := by decide +kernel
theorem dX2_reaches_4 : decode cX2_reaches 4 = .ok (.getfield 19, 3) := by decide +kernel
theorem dX2_reaches_7 : decode cX2_reaches 7 = .ok (.if_icmp .ge 89, 3) := by decide +kernel
theorem dX2_reaches_10 : decode cX2_reaches 10 = .ok (.aload_n 0, 1) := by decide +kernel
theorem dX2_reaches_11 : decode cX2_reaches 11 = .ok (.getfield 15, 3) := by decide +kernel
theorem dX2_reaches_14 : decode cX2_reaches 14 = .ok (.iload_n 2, 1) := by decide +kernel
theorem dX2_reaches_15 : decode cX2_reaches 15 = .ok (.baload, 1) := by decide +kernel
theorem dX2_reaches_16 : decode cX2_reaches 16 = .ok (.ifCond .eq 6, 3) := by decide +kernel
theorem dX2_reaches_19 : decode cX2_reaches 19 = .ok (.goto 71, 3) := by decide +kernel
theorem dX2_reaches_22 : decode cX2_reaches 22 = .ok (.lconst 0, 1) := by decide +kernel
theorem dX2_reaches_23 : decode cX2_reaches 23 = .ok (.lstore_n 3, 1) := by decide +kernel
theorem dX2_reaches_24 : decode cX2_reaches 24 = .ok (.iconst 0, 1) := by decide +kernel
theorem dX2_reaches_25 : decode cX2_reaches 25 = .ok (.istore 5, 2) := by decide +kernel
theorem dX2_reaches_27 : decode cX2_reaches 27 = .ok (.iload 5, 2) := by decide +kernel
theorem dX2_reaches_29 : decode cX2_reaches 29 = .ok (.aload_n 0, 1) := by decide +kernel
theorem dX2_reaches_30 : decode cX2_reaches 30 = .ok (.getfield 19, 3) := by decide +kernel
theorem dX2_reaches_33 : decode cX2_reaches 33 = .ok (.if_icmp .ge 42, 3) := by decide +kernel
theorem dX2_reaches_36 : decode cX2_reaches 36 = .ok (.lload_n 3, 1) := by decide +kernel
theorem dX2_reaches_37 : decode cX2_reaches 37 = .ok (.aload_n 0, 1) := by decide +kernel
theorem dX2_reaches_38 : decode cX2_reaches 38 = .ok (.getfield 15, 3) := by decide +kernel
theorem dX2_reaches_41 : decode cX2_reaches 41 = .ok (.iload 5, 2) := by decide +kernel
theorem dX2_reaches_43 : decode cX2_reaches 43 = .ok (.baload, 1) := by decide +kernel
theorem dX2_reaches_44 : decode cX2_reaches 44 = .ok (.ifCond .eq 22, 3) := by decide +kernel
theorem dX2_reaches_47 : decode cX2_reaches 47 = .ok (.aload_n 1, 1) := by decide +kernel
theorem dX2_reaches_48 : decode cX2_reaches 48 = .ok (.iload 5, 2) := by decide +kernel
theorem dX2_reaches_50 : decode cX2_reaches 50 = .ok (.laload, 1) := by decide +kernel
theorem dX2_reaches_51 : decode cX2_reaches 51 = .ok (.aload_n 0, 1) := by decide +kernel
theorem dX2_reaches_52 : decode cX2_reaches 52 = .ok (.getfield 9, 3) := by decide +kernel
theorem dX2_reaches_55 : decode cX2_reaches 55 = .ok (.iload 5, 2) := by decide +kernel
theorem dX2_reaches_57 : decode cX2_reaches 57 = .ok (.iload_n 2, 1) := by decide +kernel
theorem dX2_reaches_58 : decode cX2_reaches 58 = .ok (.invokestatic 71, 3) := by decide +kernel
theorem dX2_reaches_61 : decode cX2_reaches 61 = .ok (.laload, 1) := by decide +kernel
theorem dX2_reaches_62 : decode cX2_reaches 62 = .ok (.lmul, 1) := by decide +kernel
theorem dX2_reaches_63 : decode cX2_reaches 63 = .ok (.goto 4, 3) := by decide +kernel
theorem dX2_reaches_66 : decode cX2_reaches 66 = .ok (.lconst 0, 1) := by decide +kernel
theorem dX2_reaches_67 : decode cX2_reaches 67 = .ok (.ladd, 1) := by decide +kernel
theorem dX2_reaches_68 : decode cX2_reaches 68 = .ok (.lstore_n 3, 1) := by decide +kernel
theorem dX2_reaches_69 : decode cX2_reaches 69 = .ok (.iinc 5 1, 3) := by decide +kernel
theorem dX2_reaches_72 : decode cX2_reaches 72 = .ok (.goto (-45), 3) := by decide +kernel
theorem dX2_reaches_75 : decode cX2_reaches 75 = .ok (.lload_n 3, 1) := by decide +kernel
theorem dX2_reaches_76 : decode cX2_reaches 76 = .ok (.aload_n 1, 1) := by decide +kernel
theorem dX2_reaches_77 : decode cX2_reaches 77 = .ok (.iload_n 2, 1) := by decide +kernel
theorem dX2_reaches_78 : decode cX2_reaches 78 = .ok (.laload, 1) := by decide +kernel
theorem dX2_reaches_79 : decode cX2_reaches 79 = .ok (.aload_n 0, 1) := by decide +kernel
theorem dX2_reaches_80 : decode cX2_reaches 80 = .ok (.getfield 23, 3) := by decide +kernel
theorem dX2_reaches_83 : decode cX2_reaches 83 = .ok (.lmul, 1) := by decide +kernel
