theorem dX6_spreadAt_0 : decode cX6_spreadAt 0 = .ok (.aload_n 0, 1) := by decide +kernel
theorem dX6_spreadAt_1 : decode cX6_spreadAt 1 = .ok (.getfield 12, 3) := by decide +kernel
theorem dX6_spreadAt_4 : decode cX6_spreadAt 4 = .ok (.iload_n 1, 1) := by decide +kernel
theorem dX6_spreadAt_5 : decode cX6_spreadAt 5 = .ok (.invokevirtual 179, 3) := by decide +kernel
theorem dX6_spreadAt_8 : decode cX6_spreadAt 8 = .ok (.istore_n 2, 1) := by decide +kernel
theorem dX6_spreadAt_9 : decode cX6_spreadAt 9 = .ok (.iconst 0, 1) := by decide +kernel
theorem dX6_spreadAt_10 : decode cX6_spreadAt 10 = .ok (.istore_n 3, 1) := by decide +kernel
theorem dX6_spreadAt_11 : decode cX6_spreadAt 11 = .ok (.iload_n 3, 1) := by decide +kernel
theorem dX6_spreadAt_12 : decode cX6_spreadAt 12 = .ok (.iconst 5, 1) := by decide +kernel
theorem dX6_spreadAt_13 : decode cX6_spreadAt 13 = .ok (.if_icmp .ge 30, 3) := by decide +kernel
theorem dX6_spreadAt_16 : decode cX6_spreadAt 16 = .ok (.aload_n 0, 1) := by decide +kernel
theorem dX6_spreadAt_17 : decode cX6_spreadAt 17 = .ok (.getfield 58, 3) := by decide +kernel
theorem dX6_spreadAt_20 : decode cX6_spreadAt 20 = .ok (.iload_n 3, 1) := by decide +kernel
theorem dX6_spreadAt_21 : decode cX6_spreadAt 21 = .ok (.iload_n 2, 1) := by decide +kernel
theorem dX6_spreadAt_22 : decode cX6_spreadAt 22 = .ok (.iload_n 3, 1) := by decide +kernel
theorem dX6_spreadAt_23 : decode cX6_spreadAt 23 = .ok (.ishr, 1) := by decide +kernel
theorem dX6_spreadAt_24 : decode cX6_spreadAt 24 = .ok (.iconst 1, 1) := by decide +kernel
theorem dX6_spreadAt_25 : decode cX6_spreadAt 25 = .ok (.iand, 1) := by decide +kernel
theorem dX6_spreadAt_26 : decode cX6_spreadAt 26 = .ok (.ifCond .ne 7, 3) := by decide +kernel
theorem dX6_spreadAt_29 : decode cX6_spreadAt 29 = .ok (.lconst 1, 1) := by decide +kernel
theorem dX6_spreadAt_30 : decode cX6_spreadAt 30 = .ok (.goto 6, 3) := by decide +kernel
theorem dX6_spreadAt_33 : decode cX6_spreadAt 33 = .ok (.ldc2_w 158, 3) := by decide +kernel
theorem dX6_spreadAt_36 : decode cX6_spreadAt 36 = .ok (.lastore, 1) := by decide +kernel
theorem dX6_spreadAt_37 : decode cX6_spreadAt 37 = .ok (.iinc 3 1, 3) := by decide +kernel
theorem dX6_spreadAt_40 : decode cX6_spreadAt 40 = .ok (.goto (-29), 3) := by decide +kernel
theorem dX6_spreadAt_43 : decode cX6_spreadAt 43 = .ok (.aload_n 0, 1) := by decide +kernel
theorem dX6_spreadAt_44 : decode cX6_spreadAt 44 = .ok (.getfield 26, 3) := by decide +kernel
theorem dX6_spreadAt_47 : decode cX6_spreadAt 47 = .ok (.aload_n 0, 1) := by decide +kernel
theorem dX6_spreadAt_48 : decode cX6_spreadAt 48 = .ok (.getfield 58, 3) := by decide +kernel
theorem dX6_spreadAt_51 : decode cX6_spreadAt 51 = .ok (.aload_n 0, 1) := by decide +kernel
theorem dX6_spreadAt_52 : decode cX6_spreadAt 52 = .ok (.getfield 58, 3) := by decide +kernel
theorem dX6_spreadAt_55 : decode cX6_spreadAt 55 = .ok (.invokevirtual 160, 3) := by decide +kernel
theorem dX6_spreadAt_58 : decode cX6_spreadAt 58 = .ok (.lreturn, 1) := by decide +kernel
theorem dX6_takeSum_0 : decode cX6_takeSum 0 = .ok (.aload_n 0, 1) := by decide +kernel
theorem dX6_takeSum_1 : decode cX6_takeSum 1 = .ok (.getfield 54, 3) := by decide +kernel
theorem dX6_takeSum_4 : decode cX6_takeSum 4 = .ok (.iconst 0, 1) := by decide +kernel
theorem dX6_takeSum_5 : decode cX6_takeSum 5 = .ok (.iload_n 1, 1) := by decide +kernel
theorem dX6_takeSum_6 : decode cX6_takeSum 6 = .ok (.i2l, 1) := by decide +kernel
theorem dX6_takeSum_7 : decode cX6_takeSum 7 = .ok (.lastore, 1) := by decide +kernel
theorem dX6_takeSum_8 : decode cX6_takeSum 8 = .ok (.aload_n 0, 1) := by decide +kernel
theorem dX6_takeSum_9 : decode cX6_takeSum 9 = .ok (.getfield 54, 3) := by decide +kernel
theorem dX6_takeSum_12 : decode cX6_takeSum 12 = .ok (.iconst 1, 1) := by decide +kernel
theorem dX6_takeSum_13 : decode cX6_takeSum 13 = .ok (.iload_n 2, 1) := by decide +kernel
theorem dX6_takeSum_14 : decode cX6_takeSum 14 = .ok (.i2l, 1) := by decide +kernel
theorem dX6_takeSum_15 : decode cX6_takeSum 15 = .ok (.lastore, 1) := by decide +kernel
theorem dX6_takeSum_16 : decode cX6_takeSum 16 = .ok (.aload_n 0, 1) := by decide +kernel
theorem dX6_takeSum_17 : decode cX6_takeSum 17 = .ok (.getfield 54, 3) := by decide +kernel
theorem dX6_takeSum_20 : decode cX6_takeSum 20 = .ok (.iconst 2, 1) := by decide +kernel
theorem dX6_takeSum_21 : decode cX6_takeSum 21 = .ok (.iload_n 3, 1) := by decide +kernel
theorem dX6_takeSum_22 : decode cX6_takeSum 22 = .ok (.i2l, 1) := by decide +kernel
theorem dX6_takeSum_23 : decode cX6_takeSum 23 = .ok (.lastore, 1) := by decide +kernel
theorem dX6_takeSum_24 : decode cX6_takeSum 24 = .ok (.aload_n 0, 1) := by decide +kernel
theorem dX6_takeSum_25 : decode cX6_takeSum 25 = .ok (.getfield 54, 3) := by decide +kernel
theorem dX6_takeSum_28 : decode cX6_takeSum 28 = .ok (.iconst 3, 1) := by decide +kernel
theorem dX6_takeSum_29 : decode cX6_takeSum 29 = .ok (.iload 4, 2) := by decide +kernel
theorem dX6_takeSum_31 : decode cX6_takeSum 31 = .ok (.i2l, 1) := by decide +kernel
theorem dX6_takeSum_32 : decode cX6_takeSum 32 = .ok (.lastore, 1) := by decide +kernel
theorem dX6_takeSum_33 : decode cX6_takeSum 33 = .ok (.aload_n 0, 1) := by decide +kernel
theorem dX6_takeSum_34 : decode cX6_takeSum 34 = .ok (.getfield 54, 3) := by decide +kernel
theorem dX6_takeSum_37 : decode cX6_takeSum 37 = .ok (.iconst 4, 1) := by decide +kernel
theorem dX6_takeSum_38 : decode cX6_takeSum 38 = .ok (.iload 5, 2) := by decide +kernel
theorem dX6_takeSum_40 : decode cX6_takeSum 40 = .ok (.i2l, 1) := by decide +kernel
theorem dX6_takeSum_41 : decode cX6_takeSum 41 = .ok (.lastore, 1) := by decide +kernel
theorem dX6_takeSum_42 : decode cX6_takeSum 42 = .ok (.iconst 0, 1) := by decide +kernel
theorem dX6_takeSum_43 : decode cX6_takeSum 43 = .ok (.istore 6, 2) := by decide +kernel
theorem dX6_takeSum_45 : decode cX6_takeSum 45 = .ok (.iload 6, 2) := by decide +kernel
theorem dX6_takeSum_47 : decode cX6_takeSum 47 = .ok (.aload_n 0, 1) := by decide +kernel
theorem dX6_takeSum_48 : decode cX6_takeSum 48 = .ok (.getfield 12, 3) := by decide +kernel
theorem dX6_takeSum_51 : decode cX6_takeSum 51 = .ok (.getfield 83, 3) := by decide +kernel
theorem dX6_takeSum_54 : decode cX6_takeSum 54 = .ok (.if_icmp .ge 39, 3) := by decide +kernel
theorem dX6_takeSum_57 : decode cX6_takeSum 57 = .ok (.aload_n 0, 1) := by decide +kernel
theorem dX6_takeSum_58 : decode cX6_takeSum 58 = .ok (.getfield 54, 3) := by decide +kernel
theorem dX6_takeSum_61 : decode cX6_takeSum 61 = .ok (.iload 6, 2) := by decide +kernel
theorem dX6_takeSum_63 : decode cX6_takeSum 63 = .ok (.laload, 1) := by decide +kernel
theorem dX6_takeSum_64 : decode cX6_takeSum 64 = .ok (.ldc2_w 182, 3) := by decide +kernel
theorem dX6_takeSum_67 : decode cX6_takeSum 67 = .ok (.lcmp, 1) := by decide +kernel
theorem dX6_takeSum_68 : decode cX6_takeSum 68 = .ok (.ifCond .lt 17, 3) := by decide +kernel
theorem dX6_takeSum_71 : decode cX6_takeSum 71 = .ok (.aload_n 0, 1) := by decide +kernel
theorem dX6_takeSum_72 : decode cX6_takeSum 72 = .ok (.getfield 54, 3) := by decide +kernel
theorem dX6_takeSum_75 : decode cX6_takeSum 75 = .ok (.iload 6, 2) := by decide +kernel
theorem dX6_takeSum_77 : decode cX6_takeSum 77 = .ok (.laload, 1) := by decide +kernel
theorem dX6_takeSum_78 : decode cX6_takeSum 78 = .ok (.ldc2_w 184, 3) := by decide +kernel
theorem dX6_takeSum_81 : decode cX6_takeSum 81 = .ok (.lcmp, 1) := by decide +kernel
theorem dX6_takeSum_82 : decode cX6_takeSum 82 = .ok (.ifCond .le 5, 3) := by decide +kernel
theorem dX6_takeSum_85 : decode cX6_takeSum 85 = .ok (.iconst 0, 1) := by decide +kernel
theorem dX6_takeSum_86 : decode cX6_takeSum 86 = .ok (.ireturn, 1) := by decide +kernel
theorem dX6_takeSum_87 : decode cX6_takeSum 87 = .ok (.iinc 6 1, 3) := by decide +kernel
theorem dX6_takeSum_90 : decode cX6_takeSum 90 = .ok (.goto (-45), 3) := by decide +kernel
theorem dX6_takeSum_93 : decode cX6_takeSum 93 = .ok (.iconst 1, 1) := by decide +kernel
theorem dX6_takeSum_94 : decode cX6_takeSum 94 = .ok (.ireturn, 1) := by decide +kernel
theorem dX6_isFractionPart_0 : decode cX6_isFractionPart 0 = .ok (.iload_n 0, 1) := by decide +kernel
theorem dX6_isFractionPart_1 : decode cX6_isFractionPart 1 = .ok (.ifCond .eq 8, 3) := by decide +kernel
theorem dX6_isFractionPart_4 : decode cX6_isFractionPart 4 = .ok (.iload_n 0, 1) := by decide +kernel
theorem dX6_isFractionPart_5 : decode cX6_isFractionPart 5 = .ok (.iconst 1, 1) := by decide +kernel
theorem dX6_isFractionPart_6 : decode cX6_isFractionPart 6 = .ok (.if_icmp .ne 7, 3) := by decide +kernel
theorem dX6_isFractionPart_9 : decode cX6_isFractionPart 9 = .ok (.iconst 1, 1) := by decide +kernel
theorem dX6_isFractionPart_10 : decode cX6_isFractionPart 10 = .ok (.goto 4, 3) := by decide +kernel
theorem dX6_isFractionPart_13 : decode cX6_isFractionPart 13 = .ok (.iconst 0, 1) := by decide +kernel
theorem dX6_isFractionPart_14 : decode cX6_isFractionPart 14 = .ok (.ireturn, 1) := by decide +kernel
set_option maxRecDepth 20000 in
theorem ggX6_partOfFraction_X6_commonDivisor : GoodIn wsX6_partOfFraction wsX6_commonDivisor := goodIn_r _ [4, 5, 6, 7, 8] (by decide +kernel) (by decide +kernel)
set_option maxRecDepth 20000 in
theorem gX6_partOfFraction_X6_commonDivisor : GoodIn wsX6_partOfFraction (va_wsS RX6 186 yX6_commonDivisor wsX6_commonDivisor) := goodIn_app (goodIn_of _ (by decide +kernel)) ggX6_partOfFraction_X6_commonDivisor
theorem dX6_partOfFraction_0 : decode cX6_partOfFraction 0 = .ok (.lload_n 0, 1) := by decide +kernel
theorem dX6_partOfFraction_1 : decode cX6_partOfFraction 1 = .ok (.lload_n 2, 1) := by decide +kernel
theorem dX6_partOfFraction_2 : decode cX6_partOfFraction 2 = .ok (.invokestatic 186, 3) := by decide +kernel
theorem dX6_partOfFraction_5 : decode cX6_partOfFraction 5 = .ok (.lstore 5, 2) := by decide +kernel
theorem dX6_partOfFraction_7 : decode cX6_partOfFraction 7 = .ok (.lload 5, 2) := by decide +kernel
theorem dX6_partOfFraction_9 : decode cX6_partOfFraction 9 = .ok (.lconst 0, 1) := by decide +kernel
theorem dX6_partOfFraction_10 : decode cX6_partOfFraction 10 = .ok (.lcmp, 1) := by decide +kernel
theorem dX6_partOfFraction_11 : decode cX6_partOfFraction 11 = .ok (.ifCond .ne 5, 3) := by decide +kernel
theorem dX6_partOfFraction_14 : decode cX6_partOfFraction 14 = .ok (.lconst 0, 1) := by decide +kernel
theorem dX6_partOfFraction_15 : decode cX6_partOfFraction 15 = .ok (.lreturn, 1) := by decide +kernel
theorem dX6_partOfFraction_16 : decode cX6_partOfFraction 16 = .ok (.iload 4, 2) := by decide +kernel
theorem dX6_partOfFraction_18 : decode cX6_partOfFraction 18 = .ok (.ifCond .ne 7, 3) := by decide +kernel
theorem dX6_partOfFraction_21 : decode cX6_partOfFraction 21 = .ok (.lload_n 0, 1) := by decide +kernel
theorem dX6_partOfFraction_22 : decode cX6_partOfFraction 22 = .ok (.goto 4, 3) := by decide +kernel
theorem dX6_partOfFraction_25 : decode cX6_partOfFraction 25 = .ok (.lload_n 2, 1) := by decide +kernel
theorem dX6_partOfFraction_26 : decode cX6_partOfFraction 26 = .ok (.lload 5, 2) := by decide +kernel
theorem dX6_partOfFraction_28 : decode cX6_partOfFraction 28 = .ok (.ldiv, 1) := by decide +kernel
theorem dX6_partOfFraction_29 : decode cX6_partOfFraction 29 = .ok (.lreturn, 1) := by decide +kernel
theorem dX6_commonDivisor_0 : decode cX6_commonDivisor 0 = .ok (.lload_n 0, 1) := by decide +kernel
theorem dX6_commonDivisor_1 : decode cX6_commonDivisor 1 = .ok (.invokestatic 190, 3) := by decide +kernel
theorem dX6_commonDivisor_4 : decode cX6_commonDivisor 4 = .ok (.lstore 4, 2) := by decide +kernel
theorem dX6_commonDivisor_6 : decode cX6_commonDivisor 6 = .ok (.lload_n 2, 1) := by decide +kernel
theorem dX6_commonDivisor_7 : decode cX6_commonDivisor 7 = .ok (.invokestatic 190, 3) := by decide +kernel
theorem dX6_commonDivisor_10 : decode cX6_commonDivisor 10 = .ok (.lstore 6, 2) := by decide +kernel
theorem dX6_commonDivisor_12 : decode cX6_commonDivisor 12 = .ok (.iconst 0, 1) := by decide +kernel
theorem dX6_commonDivisor_13 : decode cX6_commonDivisor 13 = .ok (.istore 8, 2) := by decide +kernel
theorem dX6_commonDivisor_15 : decode cX6_commonDivisor 15 = .ok (.iload 8, 2) := by decide +kernel
theorem dX6_commonDivisor_17 : decode cX6_commonDivisor 17 = .ok (.bipush 100, 2) := by decide +kernel
theorem dX6_commonDivisor_19 : decode cX6_commonDivisor 19 = .ok (.if_icmp .ge 31, 3) := by decide +kernel
theorem dX6_commonDivisor_22 : decode cX6_commonDivisor 22 = .ok (.lload 6, 2) := by decide +kernel
theorem dX6_commonDivisor_24 : decode cX6_commonDivisor 24 = .ok (.lconst 0, 1) := by decide +kernel
theorem dX6_commonDivisor_25 : decode cX6_commonDivisor 25 = .ok (.lcmp, 1) := by decide +kernel
theorem dX6_commonDivisor_26 : decode cX6_commonDivisor 26 = .ok (.ifCond .eq 24, 3) := by decide +kernel
theorem dX6_commonDivisor_29 : decode cX6_commonDivisor 29 = .ok (.lload 4, 2) := by decide +kernel
theorem dX6_commonDivisor_31 : decode cX6_commonDivisor 31 = .ok (.lload 6, 2) := by decide +kernel
theorem dX6_commonDivisor_33 : decode cX6_commonDivisor 33 = .ok (.lrem, 1) := by decide +kernel
theorem dX6_commonDivisor_34 : decode cX6_commonDivisor 34 = .ok (.lstore 9, 2) := by decide +kernel
theorem dX6_commonDivisor_36 : decode cX6_commonDivisor 36 = .ok (.lload 6, 2) := by decide +kernel
theorem dX6_commonDivisor_38 : decode cX6_commonDivisor 38 = .ok (.lstore 4, 2) := by decide +kernel
theorem dX6_commonDivisor_40 : decode cX6_commonDivisor 40 = .ok (.lload 9, 2) := by decide +kernel
theorem dX6_commonDivisor_42 : decode cX6_commonDivisor 42 = .ok (.lstore 6, 2) := by decide +kernel
theorem dX6_commonDivisor_44 : decode cX6_commonDivisor 44 = .ok (.iinc 8 1, 3) := by decide +kernel
theorem dX6_commonDivisor_47 : decode cX6_commonDivisor 47 = .ok (.goto (-32), 3) := by decide +kernel
theorem dX6_commonDivisor_50 : decode cX6_commonDivisor 50 = .ok (.lload 4, 2) := by decide +kernel
theorem dX6_commonDivisor_52 : decode cX6_commonDivisor 52 = .ok (.lreturn, 1) := by decide +kernel
set_option maxRecDepth 20000 in
theorem ggX6_best_X5_find : GoodIn wsX6_best wsX5_find := goodIn_r _ [10, 11, 12, 13, 14, 15, 16, 17, 18, 19, 20, 9, 21, 22, 23, 24, 25, 26, 27, 28, 29, 30, 31, 32, 33, 34, 35, 36, 37, 38, 39, 40, 41, 42, 43, 44, 45, 46, 47, 48, 49, 50, 51, 52, 53, 54, 55, 56, 57, 58, 59, 60, 61, 62, 63, 64, 65, 66, 67, 68, 69, 70, 71, 72, 73, 74, 75, 76, 77, 78, 79, 80, 81, 82, 83, 84, 85, 86, 87, 88, 89, 90, 91, 92, 93, 94, 95, 96, 97, 98, 99, 100, 101, 102, 103, 104, 105, 106, 107, 149, 150, 151, 152, 153, 154, 155, 156, 157, 158, 159, 160, 161, 162, 163, 164, 165, 166, 167, 168, 169, 170, 171, 172, 173, 174, 175, 176, 177, 178] (by decide +kernel) (by decide +kernel)
set_option maxRecDepth 20000 in
theorem gX6_best_X5_find : GoodIn wsX6_best (wsV RX6 196 RX5 yX5_find wsX5_find) := goodIn_app (goodIn_of _ (by decide +kernel)) ggX6_best_X5_find
set_option maxRecDepth 20000 in
theorem ggX6_best_X3_keep : GoodIn wsX6_best wsX3_keep := goodIn_r _ [112, 113, 114, 115, 116, 63, 64, 65, 117, 118, 119, 41, 120, 43, 48, 121, 122, 123, 49, 124, 33, 34, 35, 125, 126, 127, 128, 129, 179, 180, 181, 163, 164, 165, 166, 167, 168, 169, 170, 171, 172, 173] (by decide +kernel) (by decide +kernel)
set_option maxRecDepth 20000 in
theorem gX6_best_X3_keep : GoodIn wsX6_best (wsV RX6 68 RX3 yX3_keep wsX3_keep) := goodIn_app (goodIn_of _ (by decide +kernel)) ggX6_best_X3_keep
set_option maxRecDepth 20000 in
theorem ggX6_best_X1_takePlan : GoodIn wsX6_best wsX1_takePlan := goodIn_r _ [133, 134, 135, 136, 41, 137, 121, 125, 163, 164, 165, 166, 167, 168, 169, 170, 171, 172, 173] (by decide +kernel) (by decide +kernel)
set_option maxRecDepth 20000 in
theorem gX6_best_X1_takePlan : GoodIn wsX6_best (wsV RX6 206 RX1 yX1_takePlan wsX1_takePlan) := goodIn_app (goodIn_of _ (by decide +kernel)) ggX6_best_X1_takePlan
theorem dX6_best_0 : decode cX6_best 0 = .ok (.iload_n 1, 1) := by decide +kernel
theorem dX6_best_1 : decode cX6_best 1 = .ok (.ifCond .lt 9, 3) := by decide +kernel
theorem dX6_best_4 : decode cX6_best 4 = .ok (.iload_n 1, 1) := by decide +kernel
theorem dX6_best_5 : decode cX6_best 5 = .ok (.bipush 40, 2) := by decide +kernel
theorem dX6_best_7 : decode cX6_best 7 = .ok (.if_icmp .le 5, 3) := by decide +kernel
theorem dX6_best_10 : decode cX6_best 10 = .ok (.iconst 0, 1) := by decide +kernel
theorem dX6_best_11 : decode cX6_best 11 = .ok (.ireturn, 1) := by decide +kernel
theorem dX6_best_12 : decode cX6_best 12 = .ok (.aload_n 0, 1) := by decide +kernel
theorem dX6_best_13 : decode cX6_best 13 = .ok (.getfield 36, 3) := by decide +kernel
theorem dX6_best_16 : decode cX6_best 16 = .ok (.aload_n 0, 1) := by decide +kernel
theorem dX6_best_17 : decode cX6_best 17 = .ok (.getfield 12, 3) := by decide +kernel
theorem dX6_best_20 : decode cX6_best 20 = .ok (.iload_n 1, 1) := by decide +kernel
theorem dX6_best_21 : decode cX6_best 21 = .ok (.invokevirtual 196, 3) := by decide +kernel
theorem dX6_best_24 : decode cX6_best 24 = .ok (.aload_n 0, 1) := by decide +kernel
theorem dX6_best_25 : decode cX6_best 25 = .ok (.getfield 36, 3) := by decide +kernel
theorem dX6_best_28 : decode cX6_best 28 = .ok (.getfield 200, 3) := by decide +kernel
theorem dX6_best_31 : decode cX6_best 31 = .ok (.iconst 1, 1) := by decide +kernel
theorem dX6_best_32 : decode cX6_best 32 = .ok (.if_icmp .ge 5, 3) := by decide +kernel
theorem dX6_best_35 : decode cX6_best 35 = .ok (.iconst 0, 1) := by decide +kernel
theorem dX6_best_36 : decode cX6_best 36 = .ok (.ireturn, 1) := by decide +kernel
theorem dX6_best_37 : decode cX6_best 37 = .ok (.aload_n 0, 1) := by decide +kernel
theorem dX6_best_38 : decode cX6_best 38 = .ok (.getfield 19, 3) := by decide +kernel
theorem dX6_best_41 : decode cX6_best 41 = .ok (.aload_n 0, 1) := by decide +kernel
theorem dX6_best_42 : decode cX6_best 42 = .ok (.getfield 12, 3) := by decide +kernel
theorem dX6_best_45 : decode cX6_best 45 = .ok (.invokevirtual 68, 3) := by decide +kernel
theorem dX6_best_48 : decode cX6_best 48 = .ok (.aload_n 0, 1) := by decide +kernel
theorem dX6_best_49 : decode cX6_best 49 = .ok (.getfield 12, 3) := by decide +kernel
theorem dX6_best_52 : decode cX6_best 52 = .ok (.aload_n 0, 1) := by decide +kernel
theorem dX6_best_53 : decode cX6_best 53 = .ok (.getfield 36, 3) := by decide +kernel
theorem dX6_best_56 : decode cX6_best 56 = .ok (.getfield 203, 3) := by decide +kernel
theorem dX6_best_59 : decode cX6_best 59 = .ok (.invokevirtual 206, 3) := by decide +kernel
theorem dX6_best_62 : decode cX6_best 62 = .ok (.iconst 1, 1) := by decide +kernel
theorem dX6_best_63 : decode cX6_best 63 = .ok (.ireturn, 1) := by decide +kernel
set_option maxRecDepth 20000 in
theorem ggX6_bests_X5_find : GoodIn wsX6_bests wsX5_find := goodIn_r _ [8, 9, 10, 11, 12, 13, 14, 15, 16, 17, 18, 7, 19, 20, 21, 22, 23, 24, 25, 26, 27, 28, 29, 30, 31, 32, 33, 34, 35, 36, 37, 38, 39, 40, 41, 42, 43, 44, 45, 46, 47, 48, 49, 50, 51, 52, 53, 54, 55, 56, 57, 58, 59, 60, 61, 62, 63, 64, 65, 66, 67, 68, 69, 70, 71, 72, 73, 74, 75, 76, 77, 78, 79, 80, 81, 82, 83, 84, 85, 86, 87, 88, 89, 90, 91, 92, 93, 94, 95, 96, 97, 98, 99, 100, 101, 102, 103, 104, 105, 117, 118, 119, 120, 121, 122, 123, 124, 125, 126, 127, 128, 129, 130, 131, 132, 133, 134, 135, 136, 137, 138, 139, 140, 141, 142, 143, 144, 145, 146] (by decide +kernel) (by decide +kernel)
set_option maxRecDepth 20000 in
theorem gX6_bests_X5_find : GoodIn wsX6_bests (wsV RX6 196 RX5 yX5_find wsX5_find) := goodIn_app (goodIn_of _ (by decide +kernel)) ggX6_bests_X5_find
theorem dX6_bests_0 : decode cX6_bests 0 = .ok (.iload_n 1, 1) := by decide +kernel
theorem dX6_bests_1 : decode cX6_bests 1 = .ok (.ifCond .lt 9, 3) := by decide +kernel
theorem dX6_bests_4 : decode cX6_bests 4 = .ok (.iload_n 1, 1) := by decide +kernel
theorem dX6_bests_5 : decode cX6_bests 5 = .ok (.bipush 40, 2) := by decide +kernel
theorem dX6_bests_7 : decode cX6_bests 7 = .ok (.if_icmp .le 5, 3) := by decide +kernel
theorem dX6_bests_10 : decode cX6_bests 10 = .ok (.iconst (-1), 1) := by decide +kernel
theorem dX6_bests_11 : decode cX6_bests 11 = .ok (.ireturn, 1) := by decide +kernel
theorem dX6_bests_12 : decode cX6_bests 12 = .ok (.aload_n 0, 1) := by decide +kernel
theorem dX6_bests_13 : decode cX6_bests 13 = .ok (.getfield 36, 3) := by decide +kernel
theorem dX6_bests_16 : decode cX6_bests 16 = .ok (.aload_n 0, 1) := by decide +kernel
theorem dX6_bests_17 : decode cX6_bests 17 = .ok (.getfield 12, 3) := by decide +kernel
theorem dX6_bests_20 : decode cX6_bests 20 = .ok (.iload_n 1, 1) := by decide +kernel
theorem dX6_bests_21 : decode cX6_bests 21 = .ok (.invokevirtual 196, 3) := by decide +kernel
theorem dX6_bests_24 : decode cX6_bests 24 = .ok (.aload_n 0, 1) := by decide +kernel
theorem dX6_bests_25 : decode cX6_bests 25 = .ok (.getfield 36, 3) := by decide +kernel
theorem dX6_bests_28 : decode cX6_bests 28 = .ok (.getfield 200, 3) := by decide +kernel
theorem dX6_bests_31 : decode cX6_bests 31 = .ok (.ireturn, 1) := by decide +kernel
set_option maxRecDepth 20000 in
theorem ggX6_swap_X6_prepareSwaps : GoodIn wsX6_swap wsX6_prepareSwaps := goodIn_r _ [10, 2, 3, 4, 11, 12, 13, 14, 15, 16, 17, 18, 19, 20, 21, 22, 23, 24, 25, 26, 27, 28, 29, 30, 31, 32, 33, 34, 35, 36, 37, 38, 39, 40, 41, 42, 43, 44, 45, 46, 47, 48, 49, 50, 51, 52, 53, 54, 55, 56, 57, 58, 59, 60, 107, 108, 109, 110, 111, 112, 113, 114, 115, 116, 117, 118, 119, 120, 121, 122, 123, 124, 125, 126, 127, 128, 129, 130, 131, 132, 133] (by decide +kernel) (by decide +kernel)
set_option maxRecDepth 20000 in
theorem gX6_swap_X6_prepareSwaps : GoodIn wsX6_swap (wsV RX6 210 RX6 yX6_prepareSwaps wsX6_prepareSwaps) := goodIn_app (goodIn_of _ (by decide +kernel)) ggX6_swap_X6_prepareSwaps
set_option maxRecDepth 20000 in
theorem ggX6_swap_X2_copyFrom : GoodIn wsX6_swap wsX2_copyFrom := goodIn_r _ [64, 24, 25, 65, 66, 67, 68, 129, 130, 131, 132, 133] (by decide +kernel) (by decide +kernel)
set_option maxRecDepth 20000 in
theorem gX6_swap_X2_copyFrom : GoodIn wsX6_swap (wsV RX6 213 RX2 yX2_copyFrom wsX2_copyFrom) := goodIn_app (goodIn_of _ (by decide +kernel)) ggX6_swap_X2_copyFrom
set_option maxRecDepth 20000 in
theorem ggX6_swap_X2_determinant : GoodIn wsX6_swap wsX2_determinant := goodIn_r _ [72, 24, 25, 53, 129, 130, 131, 132, 133] (by decide +kernel) (by decide +kernel)
set_option maxRecDepth 20000 in
theorem gX6_swap_X2_determinant : GoodIn wsX6_swap (wsV RX6 143 RX2 yX2_determinant wsX2_determinant) := goodIn_app (goodIn_of _ (by decide +kernel)) ggX6_swap_X2_determinant
set_option maxRecDepth 20000 in
theorem ggX6_swap_X1_settingCount : GoodIn wsX6_swap wsX1_settingCount := goodIn_r _ [34, 35, 118, 119, 120, 121, 122, 123, 124, 125, 126, 127, 128] (by decide +kernel) (by decide +kernel)
set_option maxRecDepth 20000 in
theorem gX6_swap_X1_settingCount : GoodIn wsX6_swap (wsV RX6 126 RX1 yX1_settingCount wsX1_settingCount) := goodIn_app (goodIn_of _ (by decide +kernel)) ggX6_swap_X1_settingCount
set_option maxRecDepth 20000 in
theorem ggX6_swap_X6_worthOfSwap : GoodIn wsX6_swap wsX6_worthOfSwap := goodIn_r _ [76, 13, 11, 12, 1, 2, 3, 61, 62, 63, 17, 64, 24, 25, 65, 66, 67, 68, 56, 37, 38, 33, 39, 40, 41, 42, 43, 44, 45, 46, 47, 48, 77, 50, 51, 52, 53, 69, 70, 71, 72, 107, 108, 109, 110, 111, 112, 113, 114, 115, 116, 117, 129, 130, 131, 132, 133, 118, 119, 120, 121, 122, 123, 124, 125, 126, 127, 128] (by decide +kernel) (by decide +kernel)
set_option maxRecDepth 20000 in
theorem gX6_swap_X6_worthOfSwap : GoodIn wsX6_swap (wsV RX6 217 RX6 yX6_worthOfSwap wsX6_worthOfSwap) := goodIn_app (goodIn_of _ (by decide +kernel)) ggX6_swap_X6_worthOfSwap
set_option maxRecDepth 20000 in
theorem ggX6_swap_X3_keep : GoodIn wsX6_swap wsX3_keep := goodIn_r _ [82, 83, 84, 85, 86, 87, 88, 89, 90, 91, 92, 33, 93, 35, 40, 94, 95, 96, 41, 97, 66, 67, 68, 98, 99, 100, 101, 102, 134, 135, 136, 118, 119, 120, 121, 122, 123, 124, 125, 126, 127, 128] (by decide +kernel) (by decide +kernel)
set_option maxRecDepth 20000 in
theorem gX6_swap_X3_keep : GoodIn wsX6_swap (wsV RX6 68 RX3 yX3_keep wsX3_keep) := goodIn_app (goodIn_of _ (by decide +kernel)) ggX6_swap_X3_keep
set_option maxRecDepth 20000 in
theorem ggX6_swap_X1_tryTimes : GoodIn wsX6_swap wsX1_tryTimes := goodIn_r _ [106, 94, 98, 118, 119, 120, 121, 122, 123, 124, 125, 126, 127, 128] (by decide +kernel) (by decide +kernel)
set_option maxRecDepth 20000 in
theorem gX6_swap_X1_tryTimes : GoodIn wsX6_swap (wsV RX6 99 RX1 yX1_tryTimes wsX1_tryTimes) := goodIn_app (goodIn_of _ (by decide +kernel)) ggX6_swap_X1_tryTimes
theorem dX6_swap_0 : decode cX6_swap 0 = .ok (.aload_n 0, 1) := by decide +kernel
theorem dX6_swap_1 : decode cX6_swap 1 = .ok (.invokevirtual 210, 3) := by decide +kernel
theorem dX6_swap_4 : decode cX6_swap 4 = .ok (.aload_n 0, 1) := by decide +kernel
theorem dX6_swap_5 : decode cX6_swap 5 = .ok (.getfield 30, 3) := by decide +kernel
theorem dX6_swap_8 : decode cX6_swap 8 = .ok (.aload_n 0, 1) := by decide +kernel
theorem dX6_swap_9 : decode cX6_swap 9 = .ok (.getfield 26, 3) := by decide +kernel
theorem dX6_swap_12 : decode cX6_swap 12 = .ok (.invokevirtual 213, 3) := by decide +kernel
theorem dX6_swap_15 : decode cX6_swap 15 = .ok (.aload_n 0, 1) := by decide +kernel
theorem dX6_swap_16 : decode cX6_swap 16 = .ok (.getfield 30, 3) := by decide +kernel
theorem dX6_swap_19 : decode cX6_swap 19 = .ok (.invokevirtual 143, 3) := by decide +kernel
theorem dX6_swap_22 : decode cX6_swap 22 = .ok (.lstore_n 1, 1) := by decide +kernel
theorem dX6_swap_23 : decode cX6_swap 23 = .ok (.iconst (-1), 1) := by decide +kernel
theorem dX6_swap_24 : decode cX6_swap 24 = .ok (.istore_n 3, 1) := by decide +kernel
theorem dX6_swap_25 : decode cX6_swap 25 = .ok (.iconst (-1), 1) := by decide +kernel
theorem dX6_swap_26 : decode cX6_swap 26 = .ok (.istore 4, 2) := by decide +kernel
theorem dX6_swap_28 : decode cX6_swap 28 = .ok (.aload_n 0, 1) := by decide +kernel
theorem dX6_swap_29 : decode cX6_swap 29 = .ok (.getfield 12, 3) := by decide +kernel
theorem dX6_swap_32 : decode cX6_swap 32 = .ok (.invokevirtual 126, 3) := by decide +kernel
theorem dX6_swap_35 : decode cX6_swap 35 = .ok (.istore 5, 2) := by decide +kernel
theorem dX6_swap_37 : decode cX6_swap 37 = .ok (.iconst 0, 1) := by decide +kernel
theorem dX6_swap_38 : decode cX6_swap 38 = .ok (.istore 6, 2) := by decide +kernel
theorem dX6_swap_40 : decode cX6_swap 40 = .ok (.iload 6, 2) := by decide +kernel
theorem dX6_swap_42 : decode cX6_swap 42 = .ok (.iload 5, 2) := by decide +kernel
theorem dX6_swap_44 : decode cX6_swap 44 = .ok (.if_icmp .ge 90, 3) := by decide +kernel
theorem dX6_swap_47 : decode cX6_swap 47 = .ok (.iconst 0, 1) := by decide +kernel
theorem dX6_swap_48 : decode cX6_swap 48 = .ok (.istore 7, 2) := by decide +kernel
theorem dX6_swap_50 : decode cX6_swap 50 = .ok (.iload 7, 2) := by decide +kernel
theorem dX6_swap_52 : decode cX6_swap 52 = .ok (.iload 5, 2) := by decide +kernel
theorem dX6_swap_54 : decode cX6_swap 54 = .ok (.if_icmp .ge 74, 3) := by decide +kernel
theorem dX6_swap_57 : decode cX6_swap 57 = .ok (.iload 7, 2) := by decide +kernel
theorem dX6_swap_59 : decode cX6_swap 59 = .ok (.iload 6, 2) := by decide +kernel
theorem dX6_swap_61 : decode cX6_swap 61 = .ok (.if_icmp .eq 61, 3) := by decide +kernel
theorem dX6_swap_64 : decode cX6_swap 64 = .ok (.aload_n 0, 1) := by decide +kernel
theorem dX6_swap_65 : decode cX6_swap 65 = .ok (.getfield 12, 3) := by decide +kernel
theorem dX6_swap_68 : decode cX6_swap 68 = .ok (.getfield 96, 3) := by decide +kernel
theorem dX6_swap_71 : decode cX6_swap 71 = .ok (.iload 6, 2) := by decide +kernel
theorem dX6_swap_73 : decode cX6_swap 73 = .ok (.iaload, 1) := by decide +kernel
theorem dX6_swap_74 : decode cX6_swap 74 = .ok (.ifCond .eq 48, 3) := by decide +kernel
theorem dX6_swap_77 : decode cX6_swap 77 = .ok (.aload_n 0, 1) := by decide +kernel
theorem dX6_swap_78 : decode cX6_swap 78 = .ok (.getfield 12, 3) := by decide +kernel
theorem dX6_swap_81 : decode cX6_swap 81 = .ok (.getfield 96, 3) := by decide +kernel
theorem dX6_swap_84 : decode cX6_swap 84 = .ok (.iload 7, 2) := by decide +kernel
theorem dX6_swap_86 : decode cX6_swap 86 = .ok (.iaload, 1) := by decide +kernel
theorem dX6_swap_87 : decode cX6_swap 87 = .ok (.bipush 9, 2) := by decide +kernel
theorem dX6_swap_89 : decode cX6_swap 89 = .ok (.if_icmp .lt 6, 3) := by decide +kernel
theorem dX6_swap_92 : decode cX6_swap 92 = .ok (.goto 30, 3) := by decide +kernel
theorem dX6_swap_95 : decode cX6_swap 95 = .ok (.aload_n 0, 1) := by decide +kernel
theorem dX6_swap_96 : decode cX6_swap 96 = .ok (.iload 6, 2) := by decide +kernel
theorem dX6_swap_98 : decode cX6_swap 98 = .ok (.iload 7, 2) := by decide +kernel
theorem dX6_swap_100 : decode cX6_swap 100 = .ok (.invokevirtual 217, 3) := by decide +kernel
theorem dX6_swap_103 : decode cX6_swap 103 = .ok (.lstore 8, 2) := by decide +kernel
theorem dX6_swap_105 : decode cX6_swap 105 = .ok (.lload 8, 2) := by decide +kernel
theorem dX6_swap_107 : decode cX6_swap 107 = .ok (.lload_n 1, 1) := by decide +kernel
theorem dX6_swap_108 : decode cX6_swap 108 = .ok (.lcmp, 1) := by decide +kernel
theorem dX6_swap_109 : decode cX6_swap 109 = .ok (.ifCond .le 13, 3) := by decide +kernel
theorem dX6_swap_112 : decode cX6_swap 112 = .ok (.lload 8, 2) := by decide +kernel
theorem dX6_swap_114 : decode cX6_swap 114 = .ok (.lstore_n 1, 1) := by decide +kernel
theorem dX6_swap_115 : decode cX6_swap 115 = .ok (.iload 6, 2) := by decide +kernel
theorem dX6_swap_117 : decode cX6_swap 117 = .ok (.istore_n 3, 1) := by decide +kernel
theorem dX6_swap_118 : decode cX6_swap 118 = .ok (.iload 7, 2) := by decide +kernel
theorem dX6_swap_120 : decode cX6_swap 120 = .ok (.istore 4, 2) := by decide +kernel
theorem dX6_swap_122 : decode cX6_swap 122 = .ok (.iinc 7 1, 3) := by decide +kernel
theorem dX6_swap_125 : decode cX6_swap 125 = .ok (.goto (-75), 3) := by decide +kernel
theorem dX6_swap_128 : decode cX6_swap 128 = .ok (.iinc 6 1, 3) := by decide +kernel
theorem dX6_swap_131 : decode cX6_swap 131 = .ok (.goto (-91), 3) := by decide +kernel
theorem dX6_swap_134 : decode cX6_swap 134 = .ok (.iload_n 3, 1) := by decide +kernel
theorem dX6_swap_135 : decode cX6_swap 135 = .ok (.iconst (-1), 1) := by decide +kernel
theorem dX6_swap_136 : decode cX6_swap 136 = .ok (.if_icmp .eq 9, 3) := by decide +kernel
theorem dX6_swap_139 : decode cX6_swap 139 = .ok (.iload 4, 2) := by decide +kernel
theorem dX6_swap_141 : decode cX6_swap 141 = .ok (.iconst (-1), 1) := by decide +kernel
theorem dX6_swap_142 : decode cX6_swap 142 = .ok (.if_icmp .ne 5, 3) := by decide +kernel
theorem dX6_swap_145 : decode cX6_swap 145 = .ok (.iconst 0, 1) := by decide +kernel
theorem dX6_swap_146 : decode cX6_swap 146 = .ok (.ireturn, 1) := by decide +kernel
theorem dX6_swap_147 : decode cX6_swap 147 = .ok (.aload_n 0, 1) := by decide +kernel
theorem dX6_swap_148 : decode cX6_swap 148 = .ok (.getfield 19, 3) := by decide +kernel
theorem dX6_swap_151 : decode cX6_swap 151 = .ok (.aload_n 0, 1) := by decide +kernel
theorem dX6_swap_152 : decode cX6_swap 152 = .ok (.getfield 12, 3) := by decide +kernel
theorem dX6_swap_155 : decode cX6_swap 155 = .ok (.invokevirtual 68, 3) := by decide +kernel
theorem dX6_swap_158 : decode cX6_swap 158 = .ok (.aload_n 0, 1) := by decide +kernel
theorem dX6_swap_159 : decode cX6_swap 159 = .ok (.getfield 12, 3) := by decide +kernel
theorem dX6_swap_162 : decode cX6_swap 162 = .ok (.iload_n 3, 1) := by decide +kernel
theorem dX6_swap_163 : decode cX6_swap 163 = .ok (.aload_n 0, 1) := by decide +kernel
theorem dX6_swap_164 : decode cX6_swap 164 = .ok (.getfield 12, 3) := by decide +kernel
theorem dX6_swap_167 : decode cX6_swap 167 = .ok (.getfield 96, 3) := by decide +kernel
theorem dX6_swap_170 : decode cX6_swap 170 = .ok (.iload_n 3, 1) := by decide +kernel
theorem dX6_swap_171 : decode cX6_swap 171 = .ok (.iaload, 1) := by decide +kernel
theorem dX6_swap_172 : decode cX6_swap 172 = .ok (.iconst 1, 1) := by decide +kernel
theorem dX6_swap_173 : decode cX6_swap 173 = .ok (.isub, 1) := by decide +kernel
theorem dX6_swap_174 : decode cX6_swap 174 = .ok (.invokevirtual 99, 3) := by decide +kernel
theorem dX6_swap_177 : decode cX6_swap 177 = .ok (.aload_n 0, 1) := by decide +kernel
theorem dX6_swap_178 : decode cX6_swap 178 = .ok (.getfield 12, 3) := by decide +kernel
theorem dX6_swap_181 : decode cX6_swap 181 = .ok (.iload 4, 2) := by decide +kernel
theorem dX6_swap_183 : decode cX6_swap 183 = .ok (.aload_n 0, 1) := by decide +kernel
theorem dX6_swap_184 : decode cX6_swap 184 = .ok (.getfield 12, 3) := by decide +kernel
theorem dX6_swap_187 : decode cX6_swap 187 = .ok (.getfield 96, 3) := by decide +kernel
theorem dX6_swap_190 : decode cX6_swap 190 = .ok (.iload 4, 2) := by decide +kernel
theorem dX6_swap_192 : decode cX6_swap 192 = .ok (.iaload, 1) := by decide +kernel
theorem dX6_swap_193 : decode cX6_swap 193 = .ok (.iconst 1, 1) := by decide +kernel
theorem dX6_swap_194 : decode cX6_swap 194 = .ok (.iadd, 1) := by decide +kernel
theorem dX6_swap_195 : decode cX6_swap 195 = .ok (.invokevirtual 99, 3) := by decide +kernel
theorem dX6_swap_198 : decode cX6_swap 198 = .ok (.iconst 1, 1) := by decide +kernel
theorem dX6_swap_199 : decode cX6_swap 199 = .ok (.ireturn, 1) := by decide +kernel
set_option maxRecDepth 20000 in
theorem ggX6_prepareSwaps_X2_fill : GoodIn wsX6_prepareSwaps wsX2_fill := goodIn_r _ [11, 12, 13, 14, 15, 10, 16, 17, 18, 19, 20, 21, 22, 23, 24, 25, 26, 27, 28, 29, 30, 31, 32, 33, 34, 35, 36, 37, 38, 39, 40, 41, 42, 43, 44, 45, 46, 65, 66, 67, 68, 69, 70, 71, 72, 73, 74, 75, 76, 77, 78, 79, 80] (by decide +kernel) (by decide +kernel)
set_option maxRecDepth 20000 in
theorem gX6_prepareSwaps_X2_fill : GoodIn wsX6_prepareSwaps (wsV RX6 133 RX2 yX2_fill wsX2_fill) := goodIn_app (goodIn_of _ (by decide +kernel)) ggX6_prepareSwaps_X2_fill
set_option maxRecDepth 20000 in
theorem ggX6_prepareSwaps_J7_fill_d0a16 : GoodIn wsX6_prepareSwaps wsJ7_fill_d0a16 := goodIn_r _ [22] (by decide +kernel) (by decide +kernel)
set_option maxRecDepth 20000 in
theorem gX6_prepareSwaps_J7_fill_d0a16 : GoodIn wsX6_prepareSwaps (va_wsS RX6 221 yJ7_fill_d0a16 wsJ7_fill_d0a16) := goodIn_app (goodIn_of _ (by decide +kernel)) ggX6_prepareSwaps_J7_fill_d0a16
set_option maxRecDepth 20000 in
theorem ggX6_prepareSwaps_X1_settingCount : GoodIn wsX6_prepareSwaps wsX1_settingCount := goodIn_r _ [27, 28, 65, 66, 67, 68, 69, 70, 71, 72, 73, 74, 75] (by decide +kernel) (by decide +kernel)
set_option maxRecDepth 20000 in
theorem gX6_prepareSwaps_X1_settingCount : GoodIn wsX6_prepareSwaps (wsV RX6 126 RX1 yX1_settingCount wsX1_settingCount) := goodIn_app (goodIn_of _ (by decide +kernel)) ggX6_prepareSwaps_X1_settingCount
set_option maxRecDepth 20000 in
theorem ggX6_prepareSwaps_X1_signsAt : GoodIn wsX6_prepareSwaps wsX1_signsAt := goodIn_r _ [32, 33, 34, 35, 36, 37, 38, 39, 40, 41, 65, 66, 67, 68, 69, 70, 71, 72, 73, 74, 75] (by decide +kernel) (by decide +kernel)
set_option maxRecDepth 20000 in
theorem gX6_prepareSwaps_X1_signsAt : GoodIn wsX6_prepareSwaps (wsV RX6 179 RX1 yX1_signsAt wsX1_signsAt) := goodIn_app (goodIn_of _ (by decide +kernel)) ggX6_prepareSwaps_X1_signsAt
set_option maxRecDepth 20000 in
theorem ggX6_prepareSwaps_X1_kindOf : GoodIn wsX6_prepareSwaps wsX1_kindOf := goodIn_r _ [53, 33, 65, 66, 67, 68, 69, 70, 71, 72, 73, 74, 75] (by decide +kernel) (by decide +kernel)
set_option maxRecDepth 20000 in
theorem gX6_prepareSwaps_X1_kindOf : GoodIn wsX6_prepareSwaps (wsV RX6 226 RX1 yX1_kindOf wsX1_kindOf) := goodIn_app (goodIn_of _ (by decide +kernel)) ggX6_prepareSwaps_X1_kindOf
theorem dX6_prepareSwaps_0 : decode cX6_prepareSwaps 0 = .ok (.aload_n 0, 1) := by decide +kernel
theorem dX6_prepareSwaps_1 : decode cX6_prepareSwaps 1 = .ok (.getfield 26, 3) := by decide +kernel
theorem dX6_prepareSwaps_4 : decode cX6_prepareSwaps 4 = .ok (.aload_n 0, 1) := by decide +kernel
theorem dX6_prepareSwaps_5 : decode cX6_prepareSwaps 5 = .ok (.getfield 12, 3) := by decide +kernel
theorem dX6_prepareSwaps_8 : decode cX6_prepareSwaps 8 = .ok (.aload_n 0, 1) := by decide +kernel
theorem dX6_prepareSwaps_9 : decode cX6_prepareSwaps 9 = .ok (.getfield 12, 3) := by decide +kernel
theorem dX6_prepareSwaps_12 : decode cX6_prepareSwaps 12 = .ok (.getfield 96, 3) := by decide +kernel
theorem dX6_prepareSwaps_15 : decode cX6_prepareSwaps 15 = .ok (.invokevirtual 133, 3) := by decide +kernel
theorem dX6_prepareSwaps_18 : decode cX6_prepareSwaps 18 = .ok (.aload_n 0, 1) := by decide +kernel
theorem dX6_prepareSwaps_19 : decode cX6_prepareSwaps 19 = .ok (.getfield 65, 3) := by decide +kernel
theorem dX6_prepareSwaps_22 : decode cX6_prepareSwaps 22 = .ok (.ldc2_w 158, 3) := by decide +kernel
theorem dX6_prepareSwaps_25 : decode cX6_prepareSwaps 25 = .ok (.invokestatic 221, 3) := by decide +kernel
theorem dX6_prepareSwaps_28 : decode cX6_prepareSwaps 28 = .ok (.aload_n 0, 1) := by decide +kernel
theorem dX6_prepareSwaps_29 : decode cX6_prepareSwaps 29 = .ok (.getfield 12, 3) := by decide +kernel
theorem dX6_prepareSwaps_32 : decode cX6_prepareSwaps 32 = .ok (.invokevirtual 126, 3) := by decide +kernel
theorem dX6_prepareSwaps_35 : decode cX6_prepareSwaps 35 = .ok (.istore_n 1, 1) := by decide +kernel
theorem dX6_prepareSwaps_36 : decode cX6_prepareSwaps 36 = .ok (.iconst 0, 1) := by decide +kernel
theorem dX6_prepareSwaps_37 : decode cX6_prepareSwaps 37 = .ok (.istore_n 2, 1) := by decide +kernel
theorem dX6_prepareSwaps_38 : decode cX6_prepareSwaps 38 = .ok (.iload_n 2, 1) := by decide +kernel
theorem dX6_prepareSwaps_39 : decode cX6_prepareSwaps 39 = .ok (.iload_n 1, 1) := by decide +kernel
theorem dX6_prepareSwaps_40 : decode cX6_prepareSwaps 40 = .ok (.if_icmp .ge 30, 3) := by decide +kernel
theorem dX6_prepareSwaps_43 : decode cX6_prepareSwaps 43 = .ok (.aload_n 0, 1) := by decide +kernel
theorem dX6_prepareSwaps_44 : decode cX6_prepareSwaps 44 = .ok (.getfield 61, 3) := by decide +kernel
theorem dX6_prepareSwaps_47 : decode cX6_prepareSwaps 47 = .ok (.iload_n 2, 1) := by decide +kernel
theorem dX6_prepareSwaps_48 : decode cX6_prepareSwaps 48 = .ok (.aload_n 0, 1) := by decide +kernel
theorem dX6_prepareSwaps_49 : decode cX6_prepareSwaps 49 = .ok (.getfield 12, 3) := by decide +kernel
theorem dX6_prepareSwaps_52 : decode cX6_prepareSwaps 52 = .ok (.aload_n 0, 1) := by decide +kernel
theorem dX6_prepareSwaps_53 : decode cX6_prepareSwaps 53 = .ok (.getfield 12, 3) := by decide +kernel
theorem dX6_prepareSwaps_56 : decode cX6_prepareSwaps 56 = .ok (.iload_n 2, 1) := by decide +kernel
theorem dX6_prepareSwaps_57 : decode cX6_prepareSwaps 57 = .ok (.invokevirtual 179, 3) := by decide +kernel
theorem dX6_prepareSwaps_60 : decode cX6_prepareSwaps 60 = .ok (.invokevirtual 226, 3) := by decide +kernel
theorem dX6_prepareSwaps_63 : decode cX6_prepareSwaps 63 = .ok (.iastore, 1) := by decide +kernel
theorem dX6_prepareSwaps_64 : decode cX6_prepareSwaps 64 = .ok (.iinc 2 1, 3) := by decide +kernel
theorem dX6_prepareSwaps_67 : decode cX6_prepareSwaps 67 = .ok (.goto (-29), 3) := by decide +kernel
theorem dX6_prepareSwaps_70 : decode cX6_prepareSwaps 70 = .ok (.return_, 1) := by decide +kernel
set_option maxRecDepth 20000 in
theorem ggX6_worthOfSwap_X2_copyFrom : GoodIn wsX6_worthOfSwap wsX2_copyFrom := goodIn_r _ [11, 12, 13, 14, 15, 16, 17, 52, 53, 54, 55, 56] (by decide +kernel) (by decide +kernel)
set_option maxRecDepth 20000 in
theorem gX6_worthOfSwap_X2_copyFrom : GoodIn wsX6_worthOfSwap (wsV RX6 213 RX2 yX2_copyFrom wsX2_copyFrom) := goodIn_app (goodIn_of _ (by decide +kernel)) ggX6_worthOfSwap_X2_copyFrom
set_option maxRecDepth 20000 in
theorem ggX6_worthOfSwap_X1_signsAt : GoodIn wsX6_worthOfSwap wsX1_signsAt := goodIn_r _ [22, 23, 24, 25, 26, 27, 28, 29, 30, 31, 57, 58, 59, 60, 61, 62, 63, 64, 65, 66, 67] (by decide +kernel) (by decide +kernel)
set_option maxRecDepth 20000 in
theorem gX6_worthOfSwap_X1_signsAt : GoodIn wsX6_worthOfSwap (wsV RX6 179 RX1 yX1_signsAt wsX1_signsAt) := goodIn_app (goodIn_of _ (by decide +kernel)) ggX6_worthOfSwap_X1_signsAt
set_option maxRecDepth 20000 in
theorem ggX6_worthOfSwap_X2_shift : GoodIn wsX6_worthOfSwap wsX2_shift := goodIn_r _ [35, 12, 36, 13, 52, 53, 54, 55, 56] (by decide +kernel) (by decide +kernel)
set_option maxRecDepth 20000 in
theorem gX6_worthOfSwap_X2_shift : GoodIn wsX6_worthOfSwap (wsV RX6 229 RX2 yX2_shift wsX2_shift) := goodIn_app (goodIn_of _ (by decide +kernel)) ggX6_worthOfSwap_X2_shift
set_option maxRecDepth 20000 in
theorem ggX6_worthOfSwap_X2_determinant : GoodIn wsX6_worthOfSwap wsX2_determinant := goodIn_r _ [40, 12, 13, 36, 52, 53, 54, 55, 56] (by decide +kernel) (by decide +kernel)
set_option maxRecDepth 20000 in
theorem gX6_worthOfSwap_X2_determinant : GoodIn wsX6_worthOfSwap (wsV RX6 143 RX2 yX2_determinant wsX2_determinant) := goodIn_app (goodIn_of _ (by decide +kernel)) ggX6_worthOfSwap_X2_determinant
theorem dX6_worthOfSwap_0 : decode cX6_worthOfSwap 0 = .ok (.aload_n 0, 1) := by decide +kernel
theorem dX6_worthOfSwap_1 : decode cX6_worthOfSwap 1 = .ok (.getfield 61, 3) := by decide +kernel
theorem dX6_worthOfSwap_4 : decode cX6_worthOfSwap 4 = .ok (.iload_n 1, 1) := by decide +kernel
theorem dX6_worthOfSwap_5 : decode cX6_worthOfSwap 5 = .ok (.iaload, 1) := by decide +kernel
theorem dX6_worthOfSwap_6 : decode cX6_worthOfSwap 6 = .ok (.bipush 16, 2) := by decide +kernel
theorem dX6_worthOfSwap_8 : decode cX6_worthOfSwap 8 = .ok (.imul, 1) := by decide +kernel
theorem dX6_worthOfSwap_9 : decode cX6_worthOfSwap 9 = .ok (.aload_n 0, 1) := by decide +kernel
theorem dX6_worthOfSwap_10 : decode cX6_worthOfSwap 10 = .ok (.getfield 61, 3) := by decide +kernel
theorem dX6_worthOfSwap_13 : decode cX6_worthOfSwap 13 = .ok (.iload_n 2, 1) := by decide +kernel
theorem dX6_worthOfSwap_14 : decode cX6_worthOfSwap 14 = .ok (.iaload, 1) := by decide +kernel
theorem dX6_worthOfSwap_15 : decode cX6_worthOfSwap 15 = .ok (.iadd, 1) := by decide +kernel
theorem dX6_worthOfSwap_16 : decode cX6_worthOfSwap 16 = .ok (.istore_n 3, 1) := by decide +kernel
theorem dX6_worthOfSwap_17 : decode cX6_worthOfSwap 17 = .ok (.aload_n 0, 1) := by decide +kernel
theorem dX6_worthOfSwap_18 : decode cX6_worthOfSwap 18 = .ok (.getfield 65, 3) := by decide +kernel
theorem dX6_worthOfSwap_21 : decode cX6_worthOfSwap 21 = .ok (.iload_n 3, 1) := by decide +kernel
theorem dX6_worthOfSwap_22 : decode cX6_worthOfSwap 22 = .ok (.laload, 1) := by decide +kernel
theorem dX6_worthOfSwap_23 : decode cX6_worthOfSwap 23 = .ok (.ldc2_w 158, 3) := by decide +kernel
theorem dX6_worthOfSwap_26 : decode cX6_worthOfSwap 26 = .ok (.lcmp, 1) := by decide +kernel
theorem dX6_worthOfSwap_27 : decode cX6_worthOfSwap 27 = .ok (.ifCond .ne 59, 3) := by decide +kernel
theorem dX6_worthOfSwap_30 : decode cX6_worthOfSwap 30 = .ok (.aload_n 0, 1) := by decide +kernel
theorem dX6_worthOfSwap_31 : decode cX6_worthOfSwap 31 = .ok (.getfield 30, 3) := by decide +kernel
theorem dX6_worthOfSwap_34 : decode cX6_worthOfSwap 34 = .ok (.aload_n 0, 1) := by decide +kernel
theorem dX6_worthOfSwap_35 : decode cX6_worthOfSwap 35 = .ok (.getfield 26, 3) := by decide +kernel
theorem dX6_worthOfSwap_38 : decode cX6_worthOfSwap 38 = .ok (.invokevirtual 213, 3) := by decide +kernel
theorem dX6_worthOfSwap_41 : decode cX6_worthOfSwap 41 = .ok (.aload_n 0, 1) := by decide +kernel
theorem dX6_worthOfSwap_42 : decode cX6_worthOfSwap 42 = .ok (.getfield 30, 3) := by decide +kernel
theorem dX6_worthOfSwap_45 : decode cX6_worthOfSwap 45 = .ok (.aload_n 0, 1) := by decide +kernel
theorem dX6_worthOfSwap_46 : decode cX6_worthOfSwap 46 = .ok (.getfield 12, 3) := by decide +kernel
theorem dX6_worthOfSwap_49 : decode cX6_worthOfSwap 49 = .ok (.iload_n 1, 1) := by decide +kernel
theorem dX6_worthOfSwap_50 : decode cX6_worthOfSwap 50 = .ok (.invokevirtual 179, 3) := by decide +kernel
theorem dX6_worthOfSwap_53 : decode cX6_worthOfSwap 53 = .ok (.iconst (-1), 1) := by decide +kernel
theorem dX6_worthOfSwap_54 : decode cX6_worthOfSwap 54 = .ok (.invokevirtual 229, 3) := by decide +kernel
theorem dX6_worthOfSwap_57 : decode cX6_worthOfSwap 57 = .ok (.aload_n 0, 1) := by decide +kernel
theorem dX6_worthOfSwap_58 : decode cX6_worthOfSwap 58 = .ok (.getfield 30, 3) := by decide +kernel
theorem dX6_worthOfSwap_61 : decode cX6_worthOfSwap 61 = .ok (.aload_n 0, 1) := by decide +kernel
theorem dX6_worthOfSwap_62 : decode cX6_worthOfSwap 62 = .ok (.getfield 12, 3) := by decide +kernel
theorem dX6_worthOfSwap_65 : decode cX6_worthOfSwap 65 = .ok (.iload_n 2, 1) := by decide +kernel
theorem dX6_worthOfSwap_66 : decode cX6_worthOfSwap 66 = .ok (.invokevirtual 179, 3) := by decide +kernel
theorem dX6_worthOfSwap_69 : decode cX6_worthOfSwap 69 = .ok (.iconst 1, 1) := by decide +kernel
theorem dX6_worthOfSwap_70 : decode cX6_worthOfSwap 70 = .ok (.invokevirtual 229, 3) := by decide +kernel
theorem dX6_worthOfSwap_73 : decode cX6_worthOfSwap 73 = .ok (.aload_n 0, 1) := by decide +kernel
theorem dX6_worthOfSwap_74 : decode cX6_worthOfSwap 74 = .ok (.getfield 65, 3) := by decide +kernel
theorem dX6_worthOfSwap_77 : decode cX6_worthOfSwap 77 = .ok (.iload_n 3, 1) := by decide +kernel
theorem dX6_worthOfSwap_78 : decode cX6_worthOfSwap 78 = .ok (.aload_n 0, 1) := by decide +kernel
theorem dX6_worthOfSwap_79 : decode cX6_worthOfSwap 79 = .ok (.getfield 30, 3) := by decide +kernel
theorem dX6_worthOfSwap_82 : decode cX6_worthOfSwap 82 = .ok (.invokevirtual 143, 3) := by decide +kernel
theorem dX6_worthOfSwap_85 : decode cX6_worthOfSwap 85 = .ok (.lastore, 1) := by decide +kernel
theorem dX6_worthOfSwap_86 : decode cX6_worthOfSwap 86 = .ok (.aload_n 0, 1) := by decide +kernel
theorem dX6_worthOfSwap_87 : decode cX6_worthOfSwap 87 = .ok (.getfield 65, 3) := by decide +kernel
theorem dX6_worthOfSwap_90 : decode cX6_worthOfSwap 90 = .ok (.iload_n 3, 1) := by decide +kernel
theorem dX6_worthOfSwap_91 : decode cX6_worthOfSwap 91 = .ok (.laload, 1) := by decide +kernel
theorem dX6_worthOfSwap_92 : decode cX6_worthOfSwap 92 = .ok (.lreturn, 1) := by decide +kernel
set_option maxRecDepth 20000 in
theorem ggX6_next_X2_fill : GoodIn wsX6_next wsX2_fill := goodIn_r _ [11, 12, 13, 14, 15, 10, 16, 17, 18, 19, 20, 21, 22, 23, 24, 25, 26, 27, 28, 29, 30, 31, 32, 33, 34, 35, 36, 37, 38, 39, 40, 41, 42, 43, 44, 45, 46, 73, 74, 75, 76, 77, 78, 79, 80, 81, 82, 83, 84, 85, 86, 87, 88] (by decide +kernel) (by decide +kernel)
set_option maxRecDepth 20000 in
theorem gX6_next_X2_fill : GoodIn wsX6_next (wsV RX6 133 RX2 yX2_fill wsX2_fill) := goodIn_app (goodIn_of _ (by decide +kernel)) ggX6_next_X2_fill
set_option maxRecDepth 20000 in
theorem ggX6_next_X1_settingCount : GoodIn wsX6_next wsX1_settingCount := goodIn_r _ [27, 28, 73, 74, 75, 76, 77, 78, 79, 80, 81, 82, 83] (by decide +kernel) (by decide +kernel)
set_option maxRecDepth 20000 in
theorem gX6_next_X1_settingCount : GoodIn wsX6_next (wsV RX6 126 RX1 yX1_settingCount wsX1_settingCount) := goodIn_app (goodIn_of _ (by decide +kernel)) ggX6_next_X1_settingCount
set_option maxRecDepth 20000 in
theorem ggX6_next_X2_copyFrom : GoodIn wsX6_next wsX2_copyFrom := goodIn_r _ [51, 17, 18, 52, 53, 54, 55, 84, 85, 86, 87, 88] (by decide +kernel) (by decide +kernel)
set_option maxRecDepth 20000 in
theorem gX6_next_X2_copyFrom : GoodIn wsX6_next (wsV RX6 213 RX2 yX2_copyFrom wsX2_copyFrom) := goodIn_app (goodIn_of _ (by decide +kernel)) ggX6_next_X2_copyFrom
set_option maxRecDepth 20000 in
theorem ggX6_next_X1_signsAt : GoodIn wsX6_next wsX1_signsAt := goodIn_r _ [32, 33, 34, 35, 36, 37, 38, 39, 40, 41, 73, 74, 75, 76, 77, 78, 79, 80, 81, 82, 83] (by decide +kernel) (by decide +kernel)
set_option maxRecDepth 20000 in
theorem gX6_next_X1_signsAt : GoodIn wsX6_next (wsV RX6 179 RX1 yX1_signsAt wsX1_signsAt) := goodIn_app (goodIn_of _ (by decide +kernel)) ggX6_next_X1_signsAt
set_option maxRecDepth 20000 in
theorem ggX6_next_X2_shift : GoodIn wsX6_next wsX2_shift := goodIn_r _ [45, 17, 46, 18, 84, 85, 86, 87, 88] (by decide +kernel) (by decide +kernel)
set_option maxRecDepth 20000 in
theorem gX6_next_X2_shift : GoodIn wsX6_next (wsV RX6 229 RX2 yX2_shift wsX2_shift) := goodIn_app (goodIn_of _ (by decide +kernel)) ggX6_next_X2_shift
set_option maxRecDepth 20000 in
theorem ggX6_next_X2_determinant : GoodIn wsX6_next wsX2_determinant := goodIn_r _ [61, 17, 18, 46, 84, 85, 86, 87, 88] (by decide +kernel) (by decide +kernel)
set_option maxRecDepth 20000 in
theorem gX6_next_X2_determinant : GoodIn wsX6_next (wsV RX6 143 RX2 yX2_determinant wsX2_determinant) := goodIn_app (goodIn_of _ (by decide +kernel)) ggX6_next_X2_determinant
theorem dX6_next_0 : decode cX6_next 0 = .ok (.aload_n 0, 1) := by decide +kernel
theorem dX6_next_1 : decode cX6_next 1 = .ok (.getfield 12, 3) := by decide +kernel
theorem dX6_next_4 : decode cX6_next 4 = .ok (.getfield 93, 3) := by decide +kernel
theorem dX6_next_7 : decode cX6_next 7 = .ok (.bipush 40, 2) := by decide +kernel
theorem dX6_next_9 : decode cX6_next 9 = .ok (.if_icmp .lt 5, 3) := by decide +kernel
theorem dX6_next_12 : decode cX6_next 12 = .ok (.iconst (-1), 1) := by decide +kernel
theorem dX6_next_13 : decode cX6_next 13 = .ok (.ireturn, 1) := by decide +kernel
theorem dX6_next_14 : decode cX6_next 14 = .ok (.aload_n 0, 1) := by decide +kernel
theorem dX6_next_15 : decode cX6_next 15 = .ok (.getfield 26, 3) := by decide +kernel
theorem dX6_next_18 : decode cX6_next 18 = .ok (.aload_n 0, 1) := by decide +kernel
theorem dX6_next_19 : decode cX6_next 19 = .ok (.getfield 12, 3) := by decide +kernel
theorem dX6_next_22 : decode cX6_next 22 = .ok (.aload_n 0, 1) := by decide +kernel
theorem dX6_next_23 : decode cX6_next 23 = .ok (.getfield 12, 3) := by decide +kernel
theorem dX6_next_26 : decode cX6_next 26 = .ok (.getfield 96, 3) := by decide +kernel
theorem dX6_next_29 : decode cX6_next 29 = .ok (.invokevirtual 133, 3) := by decide +kernel
theorem dX6_next_32 : decode cX6_next 32 = .ok (.ldc2_w 158, 3) := by decide +kernel
theorem dX6_next_35 : decode cX6_next 35 = .ok (.lstore_n 1, 1) := by decide +kernel
theorem dX6_next_36 : decode cX6_next 36 = .ok (.iconst (-1), 1) := by decide +kernel
theorem dX6_next_37 : decode cX6_next 37 = .ok (.istore_n 3, 1) := by decide +kernel
theorem dX6_next_38 : decode cX6_next 38 = .ok (.aload_n 0, 1) := by decide +kernel
theorem dX6_next_39 : decode cX6_next 39 = .ok (.getfield 12, 3) := by decide +kernel
theorem dX6_next_42 : decode cX6_next 42 = .ok (.invokevirtual 126, 3) := by decide +kernel
theorem dX6_next_45 : decode cX6_next 45 = .ok (.istore 4, 2) := by decide +kernel
theorem dX6_next_47 : decode cX6_next 47 = .ok (.iconst 0, 1) := by decide +kernel
theorem dX6_next_48 : decode cX6_next 48 = .ok (.istore 5, 2) := by decide +kernel
theorem dX6_next_50 : decode cX6_next 50 = .ok (.iload 5, 2) := by decide +kernel
theorem dX6_next_52 : decode cX6_next 52 = .ok (.iload 4, 2) := by decide +kernel
theorem dX6_next_54 : decode cX6_next 54 = .ok (.if_icmp .ge 77, 3) := by decide +kernel
theorem dX6_next_57 : decode cX6_next 57 = .ok (.aload_n 0, 1) := by decide +kernel
theorem dX6_next_58 : decode cX6_next 58 = .ok (.getfield 12, 3) := by decide +kernel
theorem dX6_next_61 : decode cX6_next 61 = .ok (.getfield 96, 3) := by decide +kernel
theorem dX6_next_64 : decode cX6_next 64 = .ok (.iload 5, 2) := by decide +kernel
theorem dX6_next_66 : decode cX6_next 66 = .ok (.iaload, 1) := by decide +kernel
theorem dX6_next_67 : decode cX6_next 67 = .ok (.bipush 9, 2) := by decide +kernel
theorem dX6_next_69 : decode cX6_next 69 = .ok (.if_icmp .lt 6, 3) := by decide +kernel
theorem dX6_next_72 : decode cX6_next 72 = .ok (.goto 53, 3) := by decide +kernel
theorem dX6_next_75 : decode cX6_next 75 = .ok (.aload_n 0, 1) := by decide +kernel
theorem dX6_next_76 : decode cX6_next 76 = .ok (.getfield 30, 3) := by decide +kernel
theorem dX6_next_79 : decode cX6_next 79 = .ok (.aload_n 0, 1) := by decide +kernel
theorem dX6_next_80 : decode cX6_next 80 = .ok (.getfield 26, 3) := by decide +kernel
theorem dX6_next_83 : decode cX6_next 83 = .ok (.invokevirtual 213, 3) := by decide +kernel
theorem dX6_next_86 : decode cX6_next 86 = .ok (.aload_n 0, 1) := by decide +kernel
theorem dX6_next_87 : decode cX6_next 87 = .ok (.getfield 30, 3) := by decide +kernel
theorem dX6_next_90 : decode cX6_next 90 = .ok (.aload_n 0, 1) := by decide +kernel
theorem dX6_next_91 : decode cX6_next 91 = .ok (.getfield 12, 3) := by decide +kernel
theorem dX6_next_94 : decode cX6_next 94 = .ok (.iload 5, 2) := by decide +kernel
theorem dX6_next_96 : decode cX6_next 96 = .ok (.invokevirtual 179, 3) := by decide +kernel
theorem dX6_next_99 : decode cX6_next 99 = .ok (.iconst 1, 1) := by decide +kernel
theorem dX6_next_100 : decode cX6_next 100 = .ok (.invokevirtual 229, 3) := by decide +kernel
theorem dX6_next_103 : decode cX6_next 103 = .ok (.aload_n 0, 1) := by decide +kernel
theorem dX6_next_104 : decode cX6_next 104 = .ok (.getfield 30, 3) := by decide +kernel
theorem dX6_next_107 : decode cX6_next 107 = .ok (.invokevirtual 143, 3) := by decide +kernel
theorem dX6_next_110 : decode cX6_next 110 = .ok (.lstore 6, 2) := by decide +kernel
theorem dX6_next_112 : decode cX6_next 112 = .ok (.lload 6, 2) := by decide +kernel
theorem dX6_next_114 : decode cX6_next 114 = .ok (.lload_n 1, 1) := by decide +kernel
theorem dX6_next_115 : decode cX6_next 115 = .ok (.lcmp, 1) := by decide +kernel
theorem dX6_next_116 : decode cX6_next 116 = .ok (.ifCond .le 9, 3) := by decide +kernel
theorem dX6_next_119 : decode cX6_next 119 = .ok (.lload 6, 2) := by decide +kernel
theorem dX6_next_121 : decode cX6_next 121 = .ok (.lstore_n 1, 1) := by decide +kernel
theorem dX6_next_122 : decode cX6_next 122 = .ok (.iload 5, 2) := by decide +kernel
theorem dX6_next_124 : decode cX6_next 124 = .ok (.istore_n 3, 1) := by decide +kernel
theorem dX6_next_125 : decode cX6_next 125 = .ok (.iinc 5 1, 3) := by decide +kernel
theorem dX6_next_128 : decode cX6_next 128 = .ok (.goto (-78), 3) := by decide +kernel
theorem dX6_next_131 : decode cX6_next 131 = .ok (.iload_n 3, 1) := by decide +kernel
theorem dX6_next_132 : decode cX6_next 132 = .ok (.ireturn, 1) := by decide +kernel
set_option maxRecDepth 20000 in
theorem ggX6_word_X1_hasNumber : GoodIn wsX6_word wsX1_hasNumber := goodIn_r _ [9, 10, 11, 12, 8, 13, 14, 67, 68, 69, 70, 71, 72, 73, 74, 75, 76, 77] (by decide +kernel) (by decide +kernel)
set_option maxRecDepth 20000 in
theorem gX6_word_X1_hasNumber : GoodIn wsX6_word (wsV RX6 76 RX1 yX1_hasNumber wsX1_hasNumber) := goodIn_app (goodIn_of _ (by decide +kernel)) ggX6_word_X1_hasNumber
set_option maxRecDepth 20000 in
theorem ggX6_word_X1_productsWithout : GoodIn wsX6_word wsX1_productsWithout := goodIn_r _ [18, 19, 20, 21, 8, 22, 23, 24, 25, 67, 68, 69, 70, 71, 72, 73, 74, 75, 76, 77] (by decide +kernel) (by decide +kernel)
set_option maxRecDepth 20000 in
theorem gX6_word_X1_productsWithout : GoodIn wsX6_word (wsV RX6 232 RX1 yX1_productsWithout wsX1_productsWithout) := goodIn_app (goodIn_of _ (by decide +kernel)) ggX6_word_X1_productsWithout
set_option maxRecDepth 20000 in
theorem ggX6_word_X1_hasMember : GoodIn wsX6_word wsX1_hasMember := goodIn_r _ [25] (by decide +kernel) (by decide +kernel)
set_option maxRecDepth 20000 in
theorem gX6_word_X1_hasMember : GoodIn wsX6_word (va_wsS RX6 235 yX1_hasMember wsX1_hasMember) := goodIn_app (goodIn_of _ (by decide +kernel)) ggX6_word_X1_hasMember
set_option maxRecDepth 20000 in
theorem ggX6_word_X3_keep : GoodIn wsX6_word wsX3_keep := goodIn_r _ [31, 32, 33, 34, 35, 36, 37, 38, 39, 40, 41, 8, 42, 14, 43, 44, 45, 46, 47, 48, 49, 50, 51, 52, 19, 53, 54, 55, 78, 79, 80, 67, 68, 69, 70, 71, 72, 73, 74, 75, 76, 77] (by decide +kernel) (by decide +kernel)
set_option maxRecDepth 20000 in
theorem gX6_word_X3_keep : GoodIn wsX6_word (wsV RX6 68 RX3 yX3_keep wsX3_keep) := goodIn_app (goodIn_of _ (by decide +kernel)) ggX6_word_X3_keep
theorem dX6_word_0 : decode cX6_word 0 = .ok (.iload_n 1, 1) := by decide +kernel
theorem dX6_word_1 : decode cX6_word 1 = .ok (.ifCond .lt 19, 3) := by decide +kernel
theorem dX6_word_4 : decode cX6_word 4 = .ok (.iload_n 1, 1) := by decide +kernel
theorem dX6_word_5 : decode cX6_word 5 = .ok (.iconst 4, 1) := by decide +kernel
theorem dX6_word_6 : decode cX6_word 6 = .ok (.if_icmp .ge 14, 3) := by decide +kernel
theorem dX6_word_9 : decode cX6_word 9 = .ok (.aload_n 0, 1) := by decide +kernel
theorem dX6_word_10 : decode cX6_word 10 = .ok (.getfield 12, 3) := by decide +kernel
theorem dX6_word_13 : decode cX6_word 13 = .ok (.iload_n 2, 1) := by decide +kernel
theorem dX6_word_14 : decode cX6_word 14 = .ok (.invokevirtual 76, 3) := by decide +kernel
theorem dX6_word_17 : decode cX6_word 17 = .ok (.ifCond .ne 5, 3) := by decide +kernel
theorem dX6_word_20 : decode cX6_word 20 = .ok (.iconst 0, 1) := by decide +kernel
theorem dX6_word_21 : decode cX6_word 21 = .ok (.ireturn, 1) := by decide +kernel
theorem dX6_word_22 : decode cX6_word 22 = .ok (.iload_n 2, 1) := by decide +kernel
theorem dX6_word_23 : decode cX6_word 23 = .ok (.ifCond .eq 30, 3) := by decide +kernel
theorem dX6_word_26 : decode cX6_word 26 = .ok (.iload_n 3, 1) := by decide +kernel
theorem dX6_word_27 : decode cX6_word 27 = .ok (.iconst 1, 1) := by decide +kernel
theorem dX6_word_28 : decode cX6_word 28 = .ok (.if_icmp .eq 8, 3) := by decide +kernel
theorem dX6_word_31 : decode cX6_word 31 = .ok (.iload_n 3, 1) := by decide +kernel
theorem dX6_word_32 : decode cX6_word 32 = .ok (.iconst (-1), 1) := by decide +kernel
theorem dX6_word_33 : decode cX6_word 33 = .ok (.if_icmp .ne 18, 3) := by decide +kernel
theorem dX6_word_36 : decode cX6_word 36 = .ok (.aload_n 0, 1) := by decide +kernel
theorem dX6_word_37 : decode cX6_word 37 = .ok (.getfield 12, 3) := by decide +kernel
theorem dX6_word_40 : decode cX6_word 40 = .ok (.iload_n 1, 1) := by decide +kernel
theorem dX6_word_41 : decode cX6_word 41 = .ok (.invokevirtual 232, 3) := by decide +kernel
theorem dX6_word_44 : decode cX6_word 44 = .ok (.iload_n 2, 1) := by decide +kernel
theorem dX6_word_45 : decode cX6_word 45 = .ok (.invokestatic 235, 3) := by decide +kernel
theorem dX6_word_48 : decode cX6_word 48 = .ok (.ifCond .eq 5, 3) := by decide +kernel
theorem dX6_word_51 : decode cX6_word 51 = .ok (.iconst 0, 1) := by decide +kernel
theorem dX6_word_52 : decode cX6_word 52 = .ok (.ireturn, 1) := by decide +kernel
theorem dX6_word_53 : decode cX6_word 53 = .ok (.aload_n 0, 1) := by decide +kernel
theorem dX6_word_54 : decode cX6_word 54 = .ok (.getfield 19, 3) := by decide +kernel
theorem dX6_word_57 : decode cX6_word 57 = .ok (.aload_n 0, 1) := by decide +kernel
theorem dX6_word_58 : decode cX6_word 58 = .ok (.getfield 12, 3) := by decide +kernel
theorem dX6_word_61 : decode cX6_word 61 = .ok (.invokevirtual 68, 3) := by decide +kernel
theorem dX6_word_64 : decode cX6_word 64 = .ok (.aload_n 0, 1) := by decide +kernel
theorem dX6_word_65 : decode cX6_word 65 = .ok (.getfield 12, 3) := by decide +kernel
theorem dX6_word_68 : decode cX6_word 68 = .ok (.getfield 239, 3) := by decide +kernel
theorem dX6_word_71 : decode cX6_word 71 = .ok (.iload_n 1, 1) := by decide +kernel
theorem dX6_word_72 : decode cX6_word 72 = .ok (.iload_n 2, 1) := by decide +kernel
theorem dX6_word_73 : decode cX6_word 73 = .ok (.iastore, 1) := by decide +kernel
theorem dX6_word_74 : decode cX6_word 74 = .ok (.aload_n 0, 1) := by decide +kernel
theorem dX6_word_75 : decode cX6_word 75 = .ok (.getfield 12, 3) := by decide +kernel
theorem dX6_word_78 : decode cX6_word 78 = .ok (.getfield 242, 3) := by decide +kernel
theorem dX6_word_81 : decode cX6_word 81 = .ok (.iload_n 1, 1) := by decide +kernel
theorem dX6_word_82 : decode cX6_word 82 = .ok (.iload_n 3, 1) := by decide +kernel
theorem dX6_word_83 : decode cX6_word 83 = .ok (.iastore, 1) := by decide +kernel
theorem dX6_word_84 : decode cX6_word 84 = .ok (.iconst 1, 1) := by decide +kernel
theorem dX6_word_85 : decode cX6_word 85 = .ok (.ireturn, 1) := by decide +kernel
set_option maxRecDepth 20000 in
theorem ggX6_part_X1_settingCount : GoodIn wsX6_part wsX1_settingCount := goodIn_r _ [7, 8, 80, 81, 82, 83, 84, 85, 86, 87, 88, 89, 90] (by decide +kernel) (by decide +kernel)
set_option maxRecDepth 20000 in
theorem gX6_part_X1_settingCount : GoodIn wsX6_part (wsV RX6 126 RX1 yX1_settingCount wsX1_settingCount) := goodIn_app (goodIn_of _ (by decide +kernel)) ggX6_part_X1_settingCount
set_option maxRecDepth 20000 in
theorem ggX6_part_X1_wordCount : GoodIn wsX6_part wsX1_wordCount := goodIn_r _ [12, 13, 80, 81, 82, 83, 84, 85, 86, 87, 88, 89, 90] (by decide +kernel) (by decide +kernel)
set_option maxRecDepth 20000 in
theorem gX6_part_X1_wordCount : GoodIn wsX6_part (wsV RX6 245 RX1 yX1_wordCount wsX1_wordCount) := goodIn_app (goodIn_of _ (by decide +kernel)) ggX6_part_X1_wordCount
set_option maxRecDepth 20000 in
theorem ggX6_part_X3_keep : GoodIn wsX6_part wsX3_keep := goodIn_r _ [18, 19, 20, 21, 22, 23, 24, 25, 26, 27, 28, 6, 29, 8, 30, 31, 32, 33, 34, 35, 36, 37, 38, 39, 13, 40, 41, 42, 91, 92, 93, 80, 81, 82, 83, 84, 85, 86, 87, 88, 89, 90] (by decide +kernel) (by decide +kernel)
set_option maxRecDepth 20000 in
theorem gX6_part_X3_keep : GoodIn wsX6_part (wsV RX6 68 RX3 yX3_keep wsX3_keep) := goodIn_app (goodIn_of _ (by decide +kernel)) ggX6_part_X3_keep
set_option maxRecDepth 20000 in
theorem ggX6_part_X1_tryNothing : GoodIn wsX6_part wsX1_tryNothing := goodIn_r _ [46, 39, 31, 47, 48, 49, 50, 80, 81, 82, 83, 84, 85, 86, 87, 88, 89, 90] (by decide +kernel) (by decide +kernel)
set_option maxRecDepth 20000 in
theorem gX6_part_X1_tryNothing : GoodIn wsX6_part (wsV RX6 103 RX1 yX1_tryNothing wsX1_tryNothing) := goodIn_app (goodIn_of _ (by decide +kernel)) ggX6_part_X1_tryNothing
set_option maxRecDepth 20000 in
theorem ggX6_part_X1_isInPart : GoodIn wsX6_part wsX1_isInPart := goodIn_r _ [54, 13, 40, 55, 56, 6, 57, 58, 59, 60, 61, 62, 63, 64, 80, 81, 82, 83, 84, 85, 86, 87, 88, 89, 90] (by decide +kernel) (by decide +kernel)
set_option maxRecDepth 20000 in
theorem gX6_part_X1_isInPart : GoodIn wsX6_part (wsV RX6 248 RX1 yX1_isInPart wsX1_isInPart) := goodIn_app (goodIn_of _ (by decide +kernel)) ggX6_part_X1_isInPart
set_option maxRecDepth 20000 in
theorem ggX6_part_X1_tryTimes : GoodIn wsX6_part wsX1_tryTimes := goodIn_r _ [68, 31, 39, 80, 81, 82, 83, 84, 85, 86, 87, 88, 89, 90] (by decide +kernel) (by decide +kernel)
set_option maxRecDepth 20000 in
theorem gX6_part_X1_tryTimes : GoodIn wsX6_part (wsV RX6 99 RX1 yX1_tryTimes wsX1_tryTimes) := goodIn_app (goodIn_of _ (by decide +kernel)) ggX6_part_X1_tryTimes
theorem dX6_part_0 : decode cX6_part 0 = .ok (.iload_n 1, 1) := by decide +kernel
theorem dX6_part_1 : decode cX6_part 1 = .ok (.iconst 1, 1) := by decide +kernel
theorem dX6_part_2 : decode cX6_part 2 = .ok (.if_icmp .lt 9, 3) := by decide +kernel
theorem dX6_part_5 : decode cX6_part 5 = .ok (.iload_n 1, 1) := by decide +kernel
theorem dX6_part_6 : decode cX6_part 6 = .ok (.bipush 9, 2) := by decide +kernel
theorem dX6_part_8 : decode cX6_part 8 = .ok (.if_icmp .le 5, 3) := by decide +kernel
theorem dX6_part_11 : decode cX6_part 11 = .ok (.iconst (-1), 1) := by decide +kernel
theorem dX6_part_12 : decode cX6_part 12 = .ok (.ireturn, 1) := by decide +kernel
theorem dX6_part_13 : decode cX6_part 13 = .ok (.iload_n 1, 1) := by decide +kernel
theorem dX6_part_14 : decode cX6_part 14 = .ok (.aload_n 0, 1) := by decide +kernel
theorem dX6_part_15 : decode cX6_part 15 = .ok (.getfield 12, 3) := by decide +kernel
theorem dX6_part_18 : decode cX6_part 18 = .ok (.invokevirtual 126, 3) := by decide +kernel
theorem dX6_part_21 : decode cX6_part 21 = .ok (.aload_n 0, 1) := by decide +kernel
theorem dX6_part_22 : decode cX6_part 22 = .ok (.getfield 12, 3) := by decide +kernel
theorem dX6_part_25 : decode cX6_part 25 = .ok (.invokevirtual 245, 3) := by decide +kernel
theorem dX6_part_28 : decode cX6_part 28 = .ok (.ishr, 1) := by decide +kernel
theorem dX6_part_29 : decode cX6_part 29 = .ok (.imul, 1) := by decide +kernel
theorem dX6_part_30 : decode cX6_part 30 = .ok (.istore_n 2, 1) := by decide +kernel
theorem dX6_part_31 : decode cX6_part 31 = .ok (.iload_n 2, 1) := by decide +kernel
theorem dX6_part_32 : decode cX6_part 32 = .ok (.bipush 40, 2) := by decide +kernel
theorem dX6_part_34 : decode cX6_part 34 = .ok (.if_icmp .le 5, 3) := by decide +kernel
theorem dX6_part_37 : decode cX6_part 37 = .ok (.iconst (-1), 1) := by decide +kernel
theorem dX6_part_38 : decode cX6_part 38 = .ok (.ireturn, 1) := by decide +kernel
theorem dX6_part_39 : decode cX6_part 39 = .ok (.aload_n 0, 1) := by decide +kernel
theorem dX6_part_40 : decode cX6_part 40 = .ok (.getfield 19, 3) := by decide +kernel
theorem dX6_part_43 : decode cX6_part 43 = .ok (.aload_n 0, 1) := by decide +kernel
theorem dX6_part_44 : decode cX6_part 44 = .ok (.getfield 12, 3) := by decide +kernel
theorem dX6_part_47 : decode cX6_part 47 = .ok (.invokevirtual 68, 3) := by decide +kernel
theorem dX6_part_50 : decode cX6_part 50 = .ok (.aload_n 0, 1) := by decide +kernel
theorem dX6_part_51 : decode cX6_part 51 = .ok (.getfield 12, 3) := by decide +kernel
theorem dX6_part_54 : decode cX6_part 54 = .ok (.invokevirtual 103, 3) := by decide +kernel
theorem dX6_part_57 : decode cX6_part 57 = .ok (.aload_n 0, 1) := by decide +kernel
theorem dX6_part_58 : decode cX6_part 58 = .ok (.getfield 12, 3) := by decide +kernel
theorem dX6_part_61 : decode cX6_part 61 = .ok (.invokevirtual 126, 3) := by decide +kernel
theorem dX6_part_64 : decode cX6_part 64 = .ok (.istore_n 3, 1) := by decide +kernel
theorem dX6_part_65 : decode cX6_part 65 = .ok (.iconst 0, 1) := by decide +kernel
theorem dX6_part_66 : decode cX6_part 66 = .ok (.istore 4, 2) := by decide +kernel
theorem dX6_part_68 : decode cX6_part 68 = .ok (.iload 4, 2) := by decide +kernel
theorem dX6_part_70 : decode cX6_part 70 = .ok (.iload_n 3, 1) := by decide +kernel
theorem dX6_part_71 : decode cX6_part 71 = .ok (.if_icmp .ge 31, 3) := by decide +kernel
theorem dX6_part_74 : decode cX6_part 74 = .ok (.aload_n 0, 1) := by decide +kernel
theorem dX6_part_75 : decode cX6_part 75 = .ok (.getfield 12, 3) := by decide +kernel
theorem dX6_part_78 : decode cX6_part 78 = .ok (.iload 4, 2) := by decide +kernel
theorem dX6_part_80 : decode cX6_part 80 = .ok (.invokevirtual 248, 3) := by decide +kernel
theorem dX6_part_83 : decode cX6_part 83 = .ok (.ifCond .eq 13, 3) := by decide +kernel
theorem dX6_part_86 : decode cX6_part 86 = .ok (.aload_n 0, 1) := by decide +kernel
theorem dX6_part_87 : decode cX6_part 87 = .ok (.getfield 12, 3) := by decide +kernel
theorem dX6_part_90 : decode cX6_part 90 = .ok (.iload 4, 2) := by decide +kernel
theorem dX6_part_92 : decode cX6_part 92 = .ok (.iload_n 1, 1) := by decide +kernel
theorem dX6_part_93 : decode cX6_part 93 = .ok (.invokevirtual 99, 3) := by decide +kernel
theorem dX6_part_96 : decode cX6_part 96 = .ok (.iinc 4 1, 3) := by decide +kernel
theorem dX6_part_99 : decode cX6_part 99 = .ok (.goto (-31), 3) := by decide +kernel
theorem dX6_part_102 : decode cX6_part 102 = .ok (.iload_n 2, 1) := by decide +kernel
theorem dX6_part_103 : decode cX6_part 103 = .ok (.ireturn, 1) := by decide +kernel
set_option maxRecDepth 20000 in
theorem ggX6_alike_X1_hasNumber : GoodIn wsX6_alike wsX1_hasNumber := goodIn_r _ [6, 7, 8, 9, 5, 10, 11, 28, 29, 30, 31, 32, 33, 34, 35, 36, 37, 38] (by decide +kernel) (by decide +kernel)
set_option maxRecDepth 20000 in
theorem gX6_alike_X1_hasNumber : GoodIn wsX6_alike (wsV RX6 76 RX1 yX1_hasNumber wsX1_hasNumber) := goodIn_app (goodIn_of _ (by decide +kernel)) ggX6_alike_X1_hasNumber
set_option maxRecDepth 20000 in
theorem ggX6_alike_X1_wordCount : GoodIn wsX6_alike wsX1_wordCount := goodIn_r _ [15, 16, 28, 29, 30, 31, 32, 33, 34, 35, 36, 37, 38] (by decide +kernel) (by decide +kernel)
set_option maxRecDepth 20000 in
theorem gX6_alike_X1_wordCount : GoodIn wsX6_alike (wsV RX6 245 RX1 yX1_wordCount wsX1_wordCount) := goodIn_app (goodIn_of _ (by decide +kernel)) ggX6_alike_X1_wordCount
theorem dX6_alike_0 : decode cX6_alike 0 = .ok (.aload_n 0, 1) := by decide +kernel
theorem dX6_alike_1 : decode cX6_alike 1 = .ok (.getfield 12, 3) := by decide +kernel
theorem dX6_alike_4 : decode cX6_alike 4 = .ok (.iload_n 1, 1) := by decide +kernel
theorem dX6_alike_5 : decode cX6_alike 5 = .ok (.invokevirtual 76, 3) := by decide +kernel
theorem dX6_alike_8 : decode cX6_alike 8 = .ok (.ifCond .eq 15, 3) := by decide +kernel
theorem dX6_alike_11 : decode cX6_alike 11 = .ok (.iconst 1, 1) := by decide +kernel
theorem dX6_alike_12 : decode cX6_alike 12 = .ok (.aload_n 0, 1) := by decide +kernel
theorem dX6_alike_13 : decode cX6_alike 13 = .ok (.getfield 12, 3) := by decide +kernel
theorem dX6_alike_16 : decode cX6_alike 16 = .ok (.invokevirtual 245, 3) := by decide +kernel
theorem dX6_alike_19 : decode cX6_alike 19 = .ok (.ishl, 1) := by decide +kernel
theorem dX6_alike_20 : decode cX6_alike 20 = .ok (.goto 4, 3) := by decide +kernel
theorem dX6_alike_23 : decode cX6_alike 23 = .ok (.iconst (-1), 1) := by decide +kernel
theorem dX6_alike_24 : decode cX6_alike 24 = .ok (.ireturn, 1) := by decide +kernel
set_option maxRecDepth 20000 in
theorem ggX6_alikeOf_X1_hasNumber : GoodIn wsX6_alikeOf wsX1_hasNumber := goodIn_r _ [6, 7, 8, 9, 5, 10, 11, 36, 37, 38, 39, 40, 41, 42, 43, 44, 45, 46] (by decide +kernel) (by decide +kernel)
set_option maxRecDepth 20000 in
theorem gX6_alikeOf_X1_hasNumber : GoodIn wsX6_alikeOf (wsV RX6 76 RX1 yX1_hasNumber wsX1_hasNumber) := goodIn_app (goodIn_of _ (by decide +kernel)) ggX6_alikeOf_X1_hasNumber
set_option maxRecDepth 20000 in
theorem ggX6_alikeOf_X1_productsWithout : GoodIn wsX6_alikeOf wsX1_productsWithout := goodIn_r _ [15, 16, 17, 18, 5, 19, 20, 21, 22, 36, 37, 38, 39, 40, 41, 42, 43, 44, 45, 46] (by decide +kernel) (by decide +kernel)
set_option maxRecDepth 20000 in
theorem gX6_alikeOf_X1_productsWithout : GoodIn wsX6_alikeOf (wsV RX6 232 RX1 yX1_productsWithout wsX1_productsWithout) := goodIn_app (goodIn_of _ (by decide +kernel)) ggX6_alikeOf_X1_productsWithout
set_option maxRecDepth 20000 in
theorem ggX6_alikeOf_X1_settingCount : GoodIn wsX6_alikeOf wsX1_settingCount := goodIn_r _ [10, 11, 36, 37, 38, 39, 40, 41, 42, 43, 44, 45, 46] (by decide +kernel) (by decide +kernel)
set_option maxRecDepth 20000 in
theorem gX6_alikeOf_X1_settingCount : GoodIn wsX6_alikeOf (wsV RX6 126 RX1 yX1_settingCount wsX1_settingCount) := goodIn_app (goodIn_of _ (by decide +kernel)) ggX6_alikeOf_X1_settingCount
set_option maxRecDepth 20000 in
theorem ggX6_alikeOf_X1_hasMember : GoodIn wsX6_alikeOf wsX1_hasMember := goodIn_r _ [22] (by decide +kernel) (by decide +kernel)
set_option maxRecDepth 20000 in
theorem gX6_alikeOf_X1_hasMember : GoodIn wsX6_alikeOf (va_wsS RX6 235 yX1_hasMember wsX1_hasMember) := goodIn_app (goodIn_of _ (by decide +kernel)) ggX6_alikeOf_X1_hasMember
theorem dX6_alikeOf_0 : decode cX6_alikeOf 0 = .ok (.aload_n 0, 1) := by decide +kernel
theorem dX6_alikeOf_1 : decode cX6_alikeOf 1 = .ok (.getfield 12, 3) := by decide +kernel
theorem dX6_alikeOf_4 : decode cX6_alikeOf 4 = .ok (.iload_n 1, 1) := by decide +kernel
theorem dX6_alikeOf_5 : decode cX6_alikeOf 5 = .ok (.invokevirtual 76, 3) := by decide +kernel
theorem dX6_alikeOf_8 : decode cX6_alikeOf 8 = .ok (.ifCond .eq 7, 3) := by decide +kernel
theorem dX6_alikeOf_11 : decode cX6_alikeOf 11 = .ok (.iload_n 2, 1) := by decide +kernel
theorem dX6_alikeOf_12 : decode cX6_alikeOf 12 = .ok (.ifCond .ge 5, 3) := by decide +kernel
theorem dX6_alikeOf_15 : decode cX6_alikeOf 15 = .ok (.iconst (-1), 1) := by decide +kernel
theorem dX6_alikeOf_16 : decode cX6_alikeOf 16 = .ok (.ireturn, 1) := by decide +kernel
theorem dX6_alikeOf_17 : decode cX6_alikeOf 17 = .ok (.aload_n 0, 1) := by decide +kernel
theorem dX6_alikeOf_18 : decode cX6_alikeOf 18 = .ok (.getfield 12, 3) := by decide +kernel
theorem dX6_alikeOf_21 : decode cX6_alikeOf 21 = .ok (.iconst (-1), 1) := by decide +kernel
theorem dX6_alikeOf_22 : decode cX6_alikeOf 22 = .ok (.invokevirtual 232, 3) := by decide +kernel
theorem dX6_alikeOf_25 : decode cX6_alikeOf 25 = .ok (.lstore_n 3, 1) := by decide +kernel
theorem dX6_alikeOf_26 : decode cX6_alikeOf 26 = .ok (.iconst 0, 1) := by decide +kernel
theorem dX6_alikeOf_27 : decode cX6_alikeOf 27 = .ok (.istore 5, 2) := by decide +kernel
theorem dX6_alikeOf_29 : decode cX6_alikeOf 29 = .ok (.aload_n 0, 1) := by decide +kernel
theorem dX6_alikeOf_30 : decode cX6_alikeOf 30 = .ok (.getfield 12, 3) := by decide +kernel
theorem dX6_alikeOf_33 : decode cX6_alikeOf 33 = .ok (.invokevirtual 126, 3) := by decide +kernel
theorem dX6_alikeOf_36 : decode cX6_alikeOf 36 = .ok (.istore 6, 2) := by decide +kernel
theorem dX6_alikeOf_38 : decode cX6_alikeOf 38 = .ok (.iconst 0, 1) := by decide +kernel
theorem dX6_alikeOf_39 : decode cX6_alikeOf 39 = .ok (.istore 7, 2) := by decide +kernel
theorem dX6_alikeOf_41 : decode cX6_alikeOf 41 = .ok (.iload 7, 2) := by decide +kernel
theorem dX6_alikeOf_43 : decode cX6_alikeOf 43 = .ok (.iload 6, 2) := by decide +kernel
theorem dX6_alikeOf_45 : decode cX6_alikeOf 45 = .ok (.if_icmp .ge 32, 3) := by decide +kernel
theorem dX6_alikeOf_48 : decode cX6_alikeOf 48 = .ok (.lload_n 3, 1) := by decide +kernel
theorem dX6_alikeOf_49 : decode cX6_alikeOf 49 = .ok (.iload_n 1, 1) := by decide +kernel
theorem dX6_alikeOf_50 : decode cX6_alikeOf 50 = .ok (.iload 7, 2) := by decide +kernel
theorem dX6_alikeOf_52 : decode cX6_alikeOf 52 = .ok (.ixor, 1) := by decide +kernel
theorem dX6_alikeOf_53 : decode cX6_alikeOf 53 = .ok (.invokestatic 235, 3) := by decide +kernel
theorem dX6_alikeOf_56 : decode cX6_alikeOf 56 = .ok (.ifCond .eq 15, 3) := by decide +kernel
theorem dX6_alikeOf_59 : decode cX6_alikeOf 59 = .ok (.iload 5, 2) := by decide +kernel
theorem dX6_alikeOf_61 : decode cX6_alikeOf 61 = .ok (.iload_n 2, 1) := by decide +kernel
theorem dX6_alikeOf_62 : decode cX6_alikeOf 62 = .ok (.if_icmp .ne 6, 3) := by decide +kernel
theorem dX6_alikeOf_65 : decode cX6_alikeOf 65 = .ok (.iload 7, 2) := by decide +kernel
theorem dX6_alikeOf_67 : decode cX6_alikeOf 67 = .ok (.ireturn, 1) := by decide +kernel
theorem dX6_alikeOf_68 : decode cX6_alikeOf 68 = .ok (.iinc 5 1, 3) := by decide +kernel
theorem dX6_alikeOf_71 : decode cX6_alikeOf 71 = .ok (.iinc 7 1, 3) := by decide +kernel
theorem dX6_alikeOf_74 : decode cX6_alikeOf 74 = .ok (.goto (-33), 3) := by decide +kernel
theorem dX6_alikeOf_77 : decode cX6_alikeOf 77 = .ok (.iconst (-1), 1) := by decide +kernel
theorem dX6_alikeOf_78 : decode cX6_alikeOf 78 = .ok (.ireturn, 1) := by decide +kernel
set_option maxRecDepth 20000 in
theorem ggX6_length_X1_productsWithout : GoodIn wsX6_length wsX1_productsWithout := goodIn_r _ [10, 11, 12, 13, 9, 14, 15, 16, 17, 42, 43, 44, 45, 46, 47, 48, 49, 50, 51, 52] (by decide +kernel) (by decide +kernel)
set_option maxRecDepth 20000 in
theorem gX6_length_X1_productsWithout : GoodIn wsX6_length (wsV RX6 232 RX1 yX1_productsWithout wsX1_productsWithout) := goodIn_app (goodIn_of _ (by decide +kernel)) ggX6_length_X1_productsWithout
set_option maxRecDepth 20000 in
theorem ggX6_length_X1_settingCount : GoodIn wsX6_length wsX1_settingCount := goodIn_r _ [21, 22, 42, 43, 44, 45, 46, 47, 48, 49, 50, 51, 52] (by decide +kernel) (by decide +kernel)
set_option maxRecDepth 20000 in
theorem gX6_length_X1_settingCount : GoodIn wsX6_length (wsV RX6 126 RX1 yX1_settingCount wsX1_settingCount) := goodIn_app (goodIn_of _ (by decide +kernel)) ggX6_length_X1_settingCount
set_option maxRecDepth 20000 in
theorem ggX6_length_X1_hasMember : GoodIn wsX6_length wsX1_hasMember := goodIn_r _ [17] (by decide +kernel) (by decide +kernel)
set_option maxRecDepth 20000 in
theorem gX6_length_X1_hasMember : GoodIn wsX6_length (va_wsS RX6 235 yX1_hasMember wsX1_hasMember) := goodIn_app (goodIn_of _ (by decide +kernel)) ggX6_length_X1_hasMember
set_option maxRecDepth 20000 in
theorem ggX6_length_J6_bitCount_0f7a4 : GoodIn wsX6_length wsJ6_bitCount_0f7a4 := goodIn_r _ [27, 28, 29, 30] (by decide +kernel) (by decide +kernel)
set_option maxRecDepth 20000 in
theorem gX6_length_J6_bitCount_0f7a4 : GoodIn wsX6_length (va_wsS RX6 251 yJ6_bitCount_0f7a4 wsJ6_bitCount_0f7a4) := goodIn_app (goodIn_of _ (by decide +kernel)) ggX6_length_J6_bitCount_0f7a4
theorem dX6_length_0 : decode cX6_length 0 = .ok (.iload_n 1, 1) := by decide +kernel
theorem dX6_length_1 : decode cX6_length 1 = .ok (.ifCond .lt 9, 3) := by decide +kernel
theorem dX6_length_4 : decode cX6_length 4 = .ok (.iload_n 1, 1) := by decide +kernel
theorem dX6_length_5 : decode cX6_length 5 = .ok (.bipush 6, 2) := by decide +kernel
theorem dX6_length_7 : decode cX6_length 7 = .ok (.if_icmp .le 5, 3) := by decide +kernel
theorem dX6_length_10 : decode cX6_length 10 = .ok (.iconst (-1), 1) := by decide +kernel
theorem dX6_length_11 : decode cX6_length 11 = .ok (.ireturn, 1) := by decide +kernel
theorem dX6_length_12 : decode cX6_length 12 = .ok (.aload_n 0, 1) := by decide +kernel
theorem dX6_length_13 : decode cX6_length 13 = .ok (.getfield 12, 3) := by decide +kernel
theorem dX6_length_16 : decode cX6_length 16 = .ok (.iconst (-1), 1) := by decide +kernel
theorem dX6_length_17 : decode cX6_length 17 = .ok (.invokevirtual 232, 3) := by decide +kernel
theorem dX6_length_20 : decode cX6_length 20 = .ok (.lstore_n 2, 1) := by decide +kernel
theorem dX6_length_21 : decode cX6_length 21 = .ok (.iconst 0, 1) := by decide +kernel
theorem dX6_length_22 : decode cX6_length 22 = .ok (.istore 4, 2) := by decide +kernel
theorem dX6_length_24 : decode cX6_length 24 = .ok (.iconst 0, 1) := by decide +kernel
theorem dX6_length_25 : decode cX6_length 25 = .ok (.istore 5, 2) := by decide +kernel
theorem dX6_length_27 : decode cX6_length 27 = .ok (.aload_n 0, 1) := by decide +kernel
theorem dX6_length_28 : decode cX6_length 28 = .ok (.getfield 12, 3) := by decide +kernel
theorem dX6_length_31 : decode cX6_length 31 = .ok (.invokevirtual 126, 3) := by decide +kernel
theorem dX6_length_34 : decode cX6_length 34 = .ok (.istore 6, 2) := by decide +kernel
theorem dX6_length_36 : decode cX6_length 36 = .ok (.iconst 1, 1) := by decide +kernel
theorem dX6_length_37 : decode cX6_length 37 = .ok (.istore 7, 2) := by decide +kernel
theorem dX6_length_39 : decode cX6_length 39 = .ok (.iload 7, 2) := by decide +kernel
theorem dX6_length_41 : decode cX6_length 41 = .ok (.iload 6, 2) := by decide +kernel
theorem dX6_length_43 : decode cX6_length 43 = .ok (.if_icmp .ge 60, 3) := by decide +kernel
theorem dX6_length_46 : decode cX6_length 46 = .ok (.lload_n 2, 1) := by decide +kernel
theorem dX6_length_47 : decode cX6_length 47 = .ok (.iload 7, 2) := by decide +kernel
theorem dX6_length_49 : decode cX6_length 49 = .ok (.invokestatic 235, 3) := by decide +kernel
theorem dX6_length_52 : decode cX6_length 52 = .ok (.ifCond .eq 45, 3) := by decide +kernel
theorem dX6_length_55 : decode cX6_length 55 = .ok (.iload 7, 2) := by decide +kernel
theorem dX6_length_57 : decode cX6_length 57 = .ok (.invokestatic 251, 3) := by decide +kernel
theorem dX6_length_60 : decode cX6_length 60 = .ok (.istore 8, 2) := by decide +kernel
theorem dX6_length_62 : decode cX6_length 62 = .ok (.iload 4, 2) := by decide +kernel
theorem dX6_length_64 : decode cX6_length 64 = .ok (.ifCond .ne 8, 3) := by decide +kernel
theorem dX6_length_67 : decode cX6_length 67 = .ok (.iload 8, 2) := by decide +kernel
theorem dX6_length_69 : decode cX6_length 69 = .ok (.goto 10, 3) := by decide +kernel
theorem dX6_length_72 : decode cX6_length 72 = .ok (.iload 4, 2) := by decide +kernel
theorem dX6_length_74 : decode cX6_length 74 = .ok (.iload 8, 2) := by decide +kernel
theorem dX6_length_76 : decode cX6_length 76 = .ok (.invokestatic 256, 3) := by decide +kernel
theorem dX6_length_79 : decode cX6_length 79 = .ok (.istore 4, 2) := by decide +kernel
theorem dX6_length_81 : decode cX6_length 81 = .ok (.iload 5, 2) := by decide +kernel
theorem dX6_length_83 : decode cX6_length 83 = .ok (.iload 8, 2) := by decide +kernel
theorem dX6_length_85 : decode cX6_length 85 = .ok (.iload_n 1, 1) := by decide +kernel
theorem dX6_length_86 : decode cX6_length 86 = .ok (.if_icmp .ne 7, 3) := by decide +kernel
theorem dX6_length_89 : decode cX6_length 89 = .ok (.iconst 1, 1) := by decide +kernel
theorem dX6_length_90 : decode cX6_length 90 = .ok (.goto 4, 3) := by decide +kernel
theorem dX6_length_93 : decode cX6_length 93 = .ok (.iconst 0, 1) := by decide +kernel
theorem dX6_length_94 : decode cX6_length 94 = .ok (.iadd, 1) := by decide +kernel
theorem dX6_length_95 : decode cX6_length 95 = .ok (.istore 5, 2) := by decide +kernel
theorem dX6_length_97 : decode cX6_length 97 = .ok (.iinc 7 1, 3) := by decide +kernel
theorem dX6_length_100 : decode cX6_length 100 = .ok (.goto (-61), 3) := by decide +kernel
theorem dX6_length_103 : decode cX6_length 103 = .ok (.iload_n 1, 1) := by decide +kernel
theorem dX6_length_104 : decode cX6_length 104 = .ok (.ifCond .ne 8, 3) := by decide +kernel
theorem dX6_length_107 : decode cX6_length 107 = .ok (.iload 4, 2) := by decide +kernel
theorem dX6_length_109 : decode cX6_length 109 = .ok (.goto 5, 3) := by decide +kernel
theorem dX6_length_112 : decode cX6_length 112 = .ok (.iload 5, 2) := by decide +kernel
theorem dX6_length_114 : decode cX6_length 114 = .ok (.ireturn, 1) := by decide +kernel
set_option maxRecDepth 20000 in
theorem ggX6_bestPart_X1_settingCount : GoodIn wsX6_bestPart wsX1_settingCount := goodIn_r _ [12, 13, 93, 94, 95, 96, 97, 98, 99, 100, 101, 102, 103] (by decide +kernel) (by decide +kernel)
set_option maxRecDepth 20000 in
theorem gX6_bestPart_X1_settingCount : GoodIn wsX6_bestPart (wsV RX6 126 RX1 yX1_settingCount wsX1_settingCount) := goodIn_app (goodIn_of _ (by decide +kernel)) ggX6_bestPart_X1_settingCount
set_option maxRecDepth 20000 in
theorem ggX6_bestPart_X4_find : GoodIn wsX6_bestPart wsX4_find := goodIn_r _ [18, 19, 20, 21, 22, 23, 24, 25, 26, 17, 27, 28, 29, 30, 31, 32, 33, 34, 35, 36, 37, 38, 39, 40, 41, 42, 43, 44, 45, 46, 47, 48, 49, 50, 51, 52, 53, 54, 55, 104, 105, 106, 107, 108, 109] (by decide +kernel) (by decide +kernel)
set_option maxRecDepth 20000 in
theorem gX6_bestPart_X4_find : GoodIn wsX6_bestPart (wsV RX6 259 RX4 yX4_find wsX4_find) := goodIn_app (goodIn_of _ (by decide +kernel)) ggX6_bestPart_X4_find
set_option maxRecDepth 20000 in
theorem ggX6_bestPart_X3_keep : GoodIn wsX6_bestPart wsX3_keep := goodIn_r _ [60, 61, 62, 63, 64, 65, 30, 66, 67, 68, 69, 11, 70, 13, 71, 72, 73, 74, 75, 76, 39, 40, 41, 77, 78, 79, 80, 81, 110, 111, 112, 93, 94, 95, 96, 97, 98, 99, 100, 101, 102, 103] (by decide +kernel) (by decide +kernel)
set_option maxRecDepth 20000 in
theorem gX6_bestPart_X3_keep : GoodIn wsX6_bestPart (wsV RX6 68 RX3 yX3_keep wsX3_keep) := goodIn_app (goodIn_of _ (by decide +kernel)) ggX6_bestPart_X3_keep
theorem dX6_bestPart_0 : decode cX6_bestPart 0 = .ok (.iload_n 1, 1) := by decide +kernel
theorem dX6_bestPart_1 : decode cX6_bestPart 1 = .ok (.ifCond .lt 19, 3) := by decide +kernel
theorem dX6_bestPart_4 : decode cX6_bestPart 4 = .ok (.iload_n 1, 1) := by decide +kernel
theorem dX6_bestPart_5 : decode cX6_bestPart 5 = .ok (.iconst 4, 1) := by decide +kernel
theorem dX6_bestPart_6 : decode cX6_bestPart 6 = .ok (.if_icmp .gt 14, 3) := by decide +kernel
theorem dX6_bestPart_9 : decode cX6_bestPart 9 = .ok (.iload_n 1, 1) := by decide +kernel
theorem dX6_bestPart_10 : decode cX6_bestPart 10 = .ok (.aload_n 0, 1) := by decide +kernel
theorem dX6_bestPart_11 : decode cX6_bestPart 11 = .ok (.getfield 12, 3) := by decide +kernel
theorem dX6_bestPart_14 : decode cX6_bestPart 14 = .ok (.getfield 106, 3) := by decide +kernel
theorem dX6_bestPart_17 : decode cX6_bestPart 17 = .ok (.if_icmp .le 5, 3) := by decide +kernel
theorem dX6_bestPart_20 : decode cX6_bestPart 20 = .ok (.iconst 0, 1) := by decide +kernel
theorem dX6_bestPart_21 : decode cX6_bestPart 21 = .ok (.ireturn, 1) := by decide +kernel
theorem dX6_bestPart_22 : decode cX6_bestPart 22 = .ok (.aload_n 0, 1) := by decide +kernel
theorem dX6_bestPart_23 : decode cX6_bestPart 23 = .ok (.getfield 43, 3) := by decide +kernel
theorem dX6_bestPart_26 : decode cX6_bestPart 26 = .ok (.aload_n 0, 1) := by decide +kernel
theorem dX6_bestPart_27 : decode cX6_bestPart 27 = .ok (.getfield 12, 3) := by decide +kernel
theorem dX6_bestPart_30 : decode cX6_bestPart 30 = .ok (.invokevirtual 126, 3) := by decide +kernel
theorem dX6_bestPart_33 : decode cX6_bestPart 33 = .ok (.iload_n 1, 1) := by decide +kernel
theorem dX6_bestPart_34 : decode cX6_bestPart 34 = .ok (.invokevirtual 259, 3) := by decide +kernel
theorem dX6_bestPart_37 : decode cX6_bestPart 37 = .ok (.aload_n 0, 1) := by decide +kernel
theorem dX6_bestPart_38 : decode cX6_bestPart 38 = .ok (.getfield 19, 3) := by decide +kernel
theorem dX6_bestPart_41 : decode cX6_bestPart 41 = .ok (.aload_n 0, 1) := by decide +kernel
theorem dX6_bestPart_42 : decode cX6_bestPart 42 = .ok (.getfield 12, 3) := by decide +kernel
theorem dX6_bestPart_45 : decode cX6_bestPart 45 = .ok (.invokevirtual 68, 3) := by decide +kernel
theorem dX6_bestPart_48 : decode cX6_bestPart 48 = .ok (.iconst 0, 1) := by decide +kernel
theorem dX6_bestPart_49 : decode cX6_bestPart 49 = .ok (.istore_n 2, 1) := by decide +kernel
theorem dX6_bestPart_50 : decode cX6_bestPart 50 = .ok (.iload_n 2, 1) := by decide +kernel
theorem dX6_bestPart_51 : decode cX6_bestPart 51 = .ok (.iconst 4, 1) := by decide +kernel
theorem dX6_bestPart_52 : decode cX6_bestPart 52 = .ok (.if_icmp .ge 46, 3) := by decide +kernel
theorem dX6_bestPart_55 : decode cX6_bestPart 55 = .ok (.aload_n 0, 1) := by decide +kernel
theorem dX6_bestPart_56 : decode cX6_bestPart 56 = .ok (.getfield 12, 3) := by decide +kernel
theorem dX6_bestPart_59 : decode cX6_bestPart 59 = .ok (.getfield 239, 3) := by decide +kernel
theorem dX6_bestPart_62 : decode cX6_bestPart 62 = .ok (.iload_n 2, 1) := by decide +kernel
theorem dX6_bestPart_63 : decode cX6_bestPart 63 = .ok (.iload_n 2, 1) := by decide +kernel
theorem dX6_bestPart_64 : decode cX6_bestPart 64 = .ok (.iload_n 1, 1) := by decide +kernel
theorem dX6_bestPart_65 : decode cX6_bestPart 65 = .ok (.if_icmp .ge 15, 3) := by decide +kernel
theorem dX6_bestPart_68 : decode cX6_bestPart 68 = .ok (.aload_n 0, 1) := by decide +kernel
theorem dX6_bestPart_69 : decode cX6_bestPart 69 = .ok (.getfield 43, 3) := by decide +kernel
theorem dX6_bestPart_72 : decode cX6_bestPart 72 = .ok (.getfield 261, 3) := by decide +kernel
theorem dX6_bestPart_75 : decode cX6_bestPart 75 = .ok (.iload_n 2, 1) := by decide +kernel
theorem dX6_bestPart_76 : decode cX6_bestPart 76 = .ok (.iaload, 1) := by decide +kernel
theorem dX6_bestPart_77 : decode cX6_bestPart 77 = .ok (.goto 4, 3) := by decide +kernel
theorem dX6_bestPart_80 : decode cX6_bestPart 80 = .ok (.iconst 0, 1) := by decide +kernel
theorem dX6_bestPart_81 : decode cX6_bestPart 81 = .ok (.iastore, 1) := by decide +kernel
theorem dX6_bestPart_82 : decode cX6_bestPart 82 = .ok (.aload_n 0, 1) := by decide +kernel
theorem dX6_bestPart_83 : decode cX6_bestPart 83 = .ok (.getfield 12, 3) := by decide +kernel
theorem dX6_bestPart_86 : decode cX6_bestPart 86 = .ok (.getfield 242, 3) := by decide +kernel
theorem dX6_bestPart_89 : decode cX6_bestPart 89 = .ok (.iload_n 2, 1) := by decide +kernel
theorem dX6_bestPart_90 : decode cX6_bestPart 90 = .ok (.iconst 1, 1) := by decide +kernel
theorem dX6_bestPart_91 : decode cX6_bestPart 91 = .ok (.iastore, 1) := by decide +kernel
theorem dX6_bestPart_92 : decode cX6_bestPart 92 = .ok (.iinc 2 1, 3) := by decide +kernel
theorem dX6_bestPart_95 : decode cX6_bestPart 95 = .ok (.goto (-45), 3) := by decide +kernel
theorem dX6_bestPart_98 : decode cX6_bestPart 98 = .ok (.iconst 1, 1) := by decide +kernel
theorem dX6_bestPart_99 : decode cX6_bestPart 99 = .ok (.ireturn, 1) := by decide +kernel
set_option maxRecDepth 20000 in
theorem ggX6_chain_X0_find : GoodIn wsX6_chain wsX0_find := goodIn_r _ [10, 11, 12, 13, 14, 15, 16, 17, 18, 19, 20, 21, 9, 22, 23, 24, 25, 26, 27, 28, 29, 30, 31, 32, 33, 34, 35, 36, 37, 38, 39, 40, 41, 42, 43, 44, 45, 46, 47, 48, 49, 50, 51, 52, 53, 54, 55, 56, 57, 58, 59, 60, 61, 62, 63, 64, 65, 66, 67, 68, 69, 70, 71, 72, 73, 74, 75, 76, 77, 78, 79, 80, 81, 82, 83, 84, 85, 86, 87, 88, 89, 112, 113, 114, 115, 116, 117, 118, 119, 120, 121, 122, 123, 124, 125, 126] (by decide +kernel) (by decide +kernel)
set_option maxRecDepth 20000 in
theorem gX6_chain_X0_find : GoodIn wsX6_chain (wsV RX6 262 RX0 yX0_find wsX0_find) := goodIn_app (goodIn_of _ (by decide +kernel)) ggX6_chain_X0_find
theorem dX6_chain_0 : decode cX6_chain 0 = .ok (.aload_n 0, 1) := by decide +kernel
theorem dX6_chain_1 : decode cX6_chain 1 = .ok (.getfield 12, 3) := by decide +kernel
theorem dX6_chain_4 : decode cX6_chain 4 = .ok (.getfield 93, 3) := by decide +kernel
theorem dX6_chain_7 : decode cX6_chain 7 = .ok (.bipush 12, 2) := by decide +kernel
theorem dX6_chain_9 : decode cX6_chain 9 = .ok (.if_icmp .le 5, 3) := by decide +kernel
theorem dX6_chain_12 : decode cX6_chain 12 = .ok (.iconst (-1), 1) := by decide +kernel
theorem dX6_chain_13 : decode cX6_chain 13 = .ok (.ireturn, 1) := by decide +kernel
theorem dX6_chain_14 : decode cX6_chain 14 = .ok (.aload_n 0, 1) := by decide +kernel
theorem dX6_chain_15 : decode cX6_chain 15 = .ok (.getfield 50, 3) := by decide +kernel
theorem dX6_chain_18 : decode cX6_chain 18 = .ok (.aload_n 0, 1) := by decide +kernel
theorem dX6_chain_19 : decode cX6_chain 19 = .ok (.getfield 12, 3) := by decide +kernel
theorem dX6_chain_22 : decode cX6_chain 22 = .ok (.getfield 96, 3) := by decide +kernel
theorem dX6_chain_25 : decode cX6_chain 25 = .ok (.invokevirtual 262, 3) := by decide +kernel
theorem dX6_chain_28 : decode cX6_chain 28 = .ok (.aload_n 0, 1) := by decide +kernel
theorem dX6_chain_29 : decode cX6_chain 29 = .ok (.getfield 50, 3) := by decide +kernel
theorem dX6_chain_32 : decode cX6_chain 32 = .ok (.getfield 264, 3) := by decide +kernel
theorem dX6_chain_35 : decode cX6_chain 35 = .ok (.ireturn, 1) := by decide +kernel
set_option maxRecDepth 20000 in
theorem ggX6_chainOf_X0_find : GoodIn wsX6_chainOf wsX0_find := goodIn_r _ [10, 11, 12, 13, 14, 15, 16, 17, 18, 19, 20, 21, 9, 22, 23, 24, 25, 26, 27, 28, 29, 30, 31, 32, 33, 34, 35, 36, 37, 38, 39, 40, 41, 42, 43, 44, 45, 46, 47, 48, 49, 50, 51, 52, 53, 54, 55, 56, 57, 58, 59, 60, 61, 62, 63, 64, 65, 66, 67, 68, 69, 70, 71, 72, 73, 74, 75, 76, 77, 78, 79, 80, 81, 82, 83, 84, 85, 86, 87, 88, 89, 112, 113, 114, 115, 116, 117, 118, 119, 120, 121, 122, 123, 124, 125, 126] (by decide +kernel) (by decide +kernel)
set_option maxRecDepth 20000 in
theorem gX6_chainOf_X0_find : GoodIn wsX6_chainOf (wsV RX6 262 RX0 yX0_find wsX0_find) := goodIn_app (goodIn_of _ (by decide +kernel)) ggX6_chainOf_X0_find
theorem dX6_chainOf_0 : decode cX6_chainOf 0 = .ok (.aload_n 0, 1) := by decide +kernel
theorem dX6_chainOf_1 : decode cX6_chainOf 1 = .ok (.getfield 12, 3) := by decide +kernel
theorem dX6_chainOf_4 : decode cX6_chainOf 4 = .ok (.getfield 93, 3) := by decide +kernel
theorem dX6_chainOf_7 : decode cX6_chainOf 7 = .ok (.bipush 12, 2) := by decide +kernel
theorem dX6_chainOf_9 : decode cX6_chainOf 9 = .ok (.if_icmp .gt 18, 3) := by decide +kernel
theorem dX6_chainOf_12 : decode cX6_chainOf 12 = .ok (.iload_n 1, 1) := by decide +kernel
theorem dX6_chainOf_13 : decode cX6_chainOf 13 = .ok (.ifCond .lt 14, 3) := by decide +kernel
theorem dX6_chainOf_16 : decode cX6_chainOf 16 = .ok (.iload_n 1, 1) := by decide +kernel
theorem dX6_chainOf_17 : decode cX6_chainOf 17 = .ok (.aload_n 0, 1) := by decide +kernel
theorem dX6_chainOf_18 : decode cX6_chainOf 18 = .ok (.getfield 12, 3) := by decide +kernel
theorem dX6_chainOf_21 : decode cX6_chainOf 21 = .ok (.getfield 93, 3) := by decide +kernel
theorem dX6_chainOf_24 : decode cX6_chainOf 24 = .ok (.if_icmp .lt 5, 3) := by decide +kernel
theorem dX6_chainOf_27 : decode cX6_chainOf 27 = .ok (.iconst (-1), 1) := by decide +kernel
theorem dX6_chainOf_28 : decode cX6_chainOf 28 = .ok (.ireturn, 1) := by decide +kernel
theorem dX6_chainOf_29 : decode cX6_chainOf 29 = .ok (.aload_n 0, 1) := by decide +kernel
theorem dX6_chainOf_30 : decode cX6_chainOf 30 = .ok (.getfield 50, 3) := by decide +kernel
theorem dX6_chainOf_33 : decode cX6_chainOf 33 = .ok (.aload_n 0, 1) := by decide +kernel
theorem dX6_chainOf_34 : decode cX6_chainOf 34 = .ok (.getfield 12, 3) := by decide +kernel
theorem dX6_chainOf_37 : decode cX6_chainOf 37 = .ok (.getfield 96, 3) := by decide +kernel
theorem dX6_chainOf_40 : decode cX6_chainOf 40 = .ok (.invokevirtual 262, 3) := by decide +kernel
theorem dX6_chainOf_43 : decode cX6_chainOf 43 = .ok (.aload_n 0, 1) := by decide +kernel
theorem dX6_chainOf_44 : decode cX6_chainOf 44 = .ok (.getfield 50, 3) := by decide +kernel
theorem dX6_chainOf_47 : decode cX6_chainOf 47 = .ok (.getfield 267, 3) := by decide +kernel
theorem dX6_chainOf_50 : decode cX6_chainOf 50 = .ok (.iload_n 1, 1) := by decide +kernel
theorem dX6_chainOf_51 : decode cX6_chainOf 51 = .ok (.iaload, 1) := by decide +kernel
theorem dX6_chainOf_52 : decode cX6_chainOf 52 = .ok (.ireturn, 1) := by decide +kernel
set_option maxRecDepth 20000 in
theorem ggX6_see_X1_hasNumber : GoodIn wsX6_see wsX1_hasNumber := goodIn_r _ [8, 9, 10, 11, 7, 12, 13, 59, 60, 61, 62, 63, 64, 65, 66, 67, 68, 69] (by decide +kernel) (by decide +kernel)
set_option maxRecDepth 20000 in
theorem gX6_see_X1_hasNumber : GoodIn wsX6_see (wsV RX6 76 RX1 yX1_hasNumber wsX1_hasNumber) := goodIn_app (goodIn_of _ (by decide +kernel)) ggX6_see_X1_hasNumber
set_option maxRecDepth 20000 in
theorem ggX6_see_X3_keep : GoodIn wsX6_see wsX3_keep := goodIn_r _ [18, 19, 20, 21, 22, 23, 24, 25, 26, 27, 28, 7, 29, 13, 30, 31, 32, 33, 34, 35, 36, 37, 38, 39, 40, 41, 42, 43, 70, 71, 72, 59, 60, 61, 62, 63, 64, 65, 66, 67, 68, 69] (by decide +kernel) (by decide +kernel)
set_option maxRecDepth 20000 in
theorem gX6_see_X3_keep : GoodIn wsX6_see (wsV RX6 68 RX3 yX3_keep wsX3_keep) := goodIn_app (goodIn_of _ (by decide +kernel)) ggX6_see_X3_keep
set_option maxRecDepth 20000 in
theorem ggX6_see_X1_seeOne : GoodIn wsX6_see wsX1_seeOne := goodIn_r _ [47, 42, 43, 33, 32, 59, 60, 61, 62, 63, 64, 65, 66, 67, 68, 69] (by decide +kernel) (by decide +kernel)
set_option maxRecDepth 20000 in
theorem gX6_see_X1_seeOne : GoodIn wsX6_see (wsV RX6 270 RX1 yX1_seeOne wsX1_seeOne) := goodIn_app (goodIn_of _ (by decide +kernel)) ggX6_see_X1_seeOne
theorem dX6_see_0 : decode cX6_see 0 = .ok (.aload_n 0, 1) := by decide +kernel
theorem dX6_see_1 : decode cX6_see 1 = .ok (.getfield 12, 3) := by decide +kernel
theorem dX6_see_4 : decode cX6_see 4 = .ok (.iload_n 1, 1) := by decide +kernel
theorem dX6_see_5 : decode cX6_see 5 = .ok (.invokevirtual 76, 3) := by decide +kernel
theorem dX6_see_8 : decode cX6_see 8 = .ok (.ifCond .eq 17, 3) := by decide +kernel
theorem dX6_see_11 : decode cX6_see 11 = .ok (.iload_n 2, 1) := by decide +kernel
theorem dX6_see_12 : decode cX6_see 12 = .ok (.sipush (-1000), 3) := by decide +kernel
theorem dX6_see_15 : decode cX6_see 15 = .ok (.if_icmp .lt 10, 3) := by decide +kernel
theorem dX6_see_18 : decode cX6_see 18 = .ok (.iload_n 2, 1) := by decide +kernel
theorem dX6_see_19 : decode cX6_see 19 = .ok (.sipush 1000, 3) := by decide +kernel
theorem dX6_see_22 : decode cX6_see 22 = .ok (.if_icmp .le 5, 3) := by decide +kernel
theorem dX6_see_25 : decode cX6_see 25 = .ok (.iconst (-1), 1) := by decide +kernel
theorem dX6_see_26 : decode cX6_see 26 = .ok (.ireturn, 1) := by decide +kernel
theorem dX6_see_27 : decode cX6_see 27 = .ok (.aload_n 0, 1) := by decide +kernel
theorem dX6_see_28 : decode cX6_see 28 = .ok (.getfield 12, 3) := by decide +kernel
theorem dX6_see_31 : decode cX6_see 31 = .ok (.getfield 119, 3) := by decide +kernel
theorem dX6_see_34 : decode cX6_see 34 = .ok (.bipush 60, 2) := by decide +kernel
theorem dX6_see_36 : decode cX6_see 36 = .ok (.if_icmp .lt 5, 3) := by decide +kernel
theorem dX6_see_39 : decode cX6_see 39 = .ok (.iconst (-1), 1) := by decide +kernel
theorem dX6_see_40 : decode cX6_see 40 = .ok (.ireturn, 1) := by decide +kernel
theorem dX6_see_41 : decode cX6_see 41 = .ok (.aload_n 0, 1) := by decide +kernel
theorem dX6_see_42 : decode cX6_see 42 = .ok (.getfield 19, 3) := by decide +kernel
theorem dX6_see_45 : decode cX6_see 45 = .ok (.aload_n 0, 1) := by decide +kernel
theorem dX6_see_46 : decode cX6_see 46 = .ok (.getfield 12, 3) := by decide +kernel
theorem dX6_see_49 : decode cX6_see 49 = .ok (.invokevirtual 68, 3) := by decide +kernel
theorem dX6_see_52 : decode cX6_see 52 = .ok (.aload_n 0, 1) := by decide +kernel
theorem dX6_see_53 : decode cX6_see 53 = .ok (.getfield 12, 3) := by decide +kernel
theorem dX6_see_56 : decode cX6_see 56 = .ok (.iload_n 1, 1) := by decide +kernel
theorem dX6_see_57 : decode cX6_see 57 = .ok (.iload_n 2, 1) := by decide +kernel
theorem dX6_see_58 : decode cX6_see 58 = .ok (.invokevirtual 270, 3) := by decide +kernel
theorem dX6_see_61 : decode cX6_see 61 = .ok (.aload_n 0, 1) := by decide +kernel
theorem dX6_see_62 : decode cX6_see 62 = .ok (.getfield 12, 3) := by decide +kernel
theorem dX6_see_65 : decode cX6_see 65 = .ok (.getfield 119, 3) := by decide +kernel
theorem dX6_see_68 : decode cX6_see 68 = .ok (.ireturn, 1) := by decide +kernel
set_option maxRecDepth 20000 in
theorem ggX6_forget_X3_keep : GoodIn wsX6_forget wsX3_keep := goodIn_r _ [7, 8, 9, 10, 11, 12, 13, 14, 15, 16, 17, 18, 19, 20, 21, 22, 23, 24, 25, 26, 27, 28, 29, 30, 31, 32, 33, 34, 54, 55, 56, 57, 58, 59, 60, 61, 62, 63, 64, 65, 66, 67] (by decide +kernel) (by decide +kernel)
set_option maxRecDepth 20000 in
theorem gX6_forget_X3_keep : GoodIn wsX6_forget (wsV RX6 68 RX3 yX3_keep wsX3_keep) := goodIn_app (goodIn_of _ (by decide +kernel)) ggX6_forget_X3_keep
set_option maxRecDepth 20000 in
theorem ggX6_forget_X1_seeNothing : GoodIn wsX6_forget wsX1_seeNothing := goodIn_r _ [38, 33, 34, 24, 23, 39, 40, 41, 42, 57, 58, 59, 60, 61, 62, 63, 64, 65, 66, 67] (by decide +kernel) (by decide +kernel)
set_option maxRecDepth 20000 in
theorem gX6_forget_X1_seeNothing : GoodIn wsX6_forget (wsV RX6 273 RX1 yX1_seeNothing wsX1_seeNothing) := goodIn_app (goodIn_of _ (by decide +kernel)) ggX6_forget_X1_seeNothing
theorem dX6_forget_0 : decode cX6_forget 0 = .ok (.aload_n 0, 1) := by decide +kernel
theorem dX6_forget_1 : decode cX6_forget 1 = .ok (.getfield 19, 3) := by decide +kernel
theorem dX6_forget_4 : decode cX6_forget 4 = .ok (.aload_n 0, 1) := by decide +kernel
theorem dX6_forget_5 : decode cX6_forget 5 = .ok (.getfield 12, 3) := by decide +kernel
theorem dX6_forget_8 : decode cX6_forget 8 = .ok (.invokevirtual 68, 3) := by decide +kernel
theorem dX6_forget_11 : decode cX6_forget 11 = .ok (.aload_n 0, 1) := by decide +kernel
theorem dX6_forget_12 : decode cX6_forget 12 = .ok (.getfield 12, 3) := by decide +kernel
theorem dX6_forget_15 : decode cX6_forget 15 = .ok (.invokevirtual 273, 3) := by decide +kernel
theorem dX6_forget_18 : decode cX6_forget 18 = .ok (.return_, 1) := by decide +kernel
set_option maxRecDepth 20000 in
theorem ggX6_weight_X6_isFractionPart : GoodIn wsX6_weight wsX6_isFractionPart := goodIn_r _ [9] (by decide +kernel) (by decide +kernel)
set_option maxRecDepth 20000 in
theorem gX6_weight_X6_isFractionPart : GoodIn wsX6_weight (va_wsS RX6 155 yX6_isFractionPart wsX6_isFractionPart) := goodIn_app (goodIn_of _ (by decide +kernel)) ggX6_weight_X6_isFractionPart
set_option maxRecDepth 20000 in
theorem ggX6_weight_X6_takeSum : GoodIn wsX6_weight wsX6_takeSum := goodIn_r _ [13, 3, 14, 15, 16, 17, 101, 102, 103, 104, 105, 106, 107, 108, 109, 110, 111, 117, 118, 119, 120, 121, 122, 123, 124, 125, 126, 127] (by decide +kernel) (by decide +kernel)
set_option maxRecDepth 20000 in
theorem gX6_weight_X6_takeSum : GoodIn wsX6_weight (wsV RX6 147 RX6 yX6_takeSum wsX6_takeSum) := goodIn_app (goodIn_of _ (by decide +kernel)) ggX6_weight_X6_takeSum
set_option maxRecDepth 20000 in
theorem ggX6_weight_X6_sweepSeen : GoodIn wsX6_weight wsX6_sweepSeen := goodIn_r _ [21, 2, 14, 22, 15, 4, 23, 24, 25, 26, 27, 28, 29, 30, 31, 32, 33, 34, 35, 36, 37, 38, 39, 40, 41, 42, 43, 44, 45, 46, 47, 48, 49, 50, 51, 52, 53, 54, 55, 56, 57, 58, 59, 60, 61, 62, 63, 64, 65, 66, 67, 68, 69, 70, 71, 72, 73, 74, 75, 76, 77, 78, 79, 80, 81, 82, 101, 102, 103, 104, 105, 106, 107, 108, 109, 110, 111, 117, 118, 119, 120, 121, 122, 123, 124, 125, 126, 127, 112, 113, 114, 115, 116] (by decide +kernel) (by decide +kernel)
set_option maxRecDepth 20000 in
theorem gX6_weight_X6_sweepSeen : GoodIn wsX6_weight (wsV RX6 278 RX6 yX6_sweepSeen wsX6_sweepSeen) := goodIn_app (goodIn_of _ (by decide +kernel)) ggX6_weight_X6_sweepSeen
set_option maxRecDepth 20000 in
theorem ggX6_weight_X2_reaches : GoodIn wsX6_weight wsX2_reaches := goodIn_r _ [86, 35, 71, 36, 69, 76, 77, 28, 78, 64, 112, 113, 114, 115, 116] (by decide +kernel) (by decide +kernel)
set_option maxRecDepth 20000 in
theorem gX6_weight_X2_reaches : GoodIn wsX6_weight (wsV RX6 151 RX2 yX2_reaches wsX2_reaches) := goodIn_app (goodIn_of _ (by decide +kernel)) ggX6_weight_X2_reaches
set_option maxRecDepth 20000 in
theorem ggX6_weight_X2_measure : GoodIn wsX6_weight wsX2_measure := goodIn_r _ [90, 35, 71, 36, 76, 77, 28, 78, 64, 112, 113, 114, 115, 116] (by decide +kernel) (by decide +kernel)
set_option maxRecDepth 20000 in
theorem gX6_weight_X2_measure : GoodIn wsX6_weight (wsV RX6 160 RX2 yX2_measure wsX2_measure) := goodIn_app (goodIn_of _ (by decide +kernel)) ggX6_weight_X2_measure
set_option maxRecDepth 20000 in
theorem ggX6_weight_X6_partOfFraction : GoodIn wsX6_weight wsX6_partOfFraction := goodIn_r _ [93, 94, 95, 8, 96, 97, 98, 99, 100] (by decide +kernel) (by decide +kernel)
set_option maxRecDepth 20000 in
theorem gX6_weight_X6_partOfFraction : GoodIn wsX6_weight (va_wsS RX6 168 yX6_partOfFraction wsX6_partOfFraction) := goodIn_app (goodIn_of _ (by decide +kernel)) ggX6_weight_X6_partOfFraction
theorem dX6_weight_0 : decode cX6_weight 0 = .ok (.iload 6, 2) := by decide +kernel
theorem dX6_weight_2 : decode cX6_weight 2 = .ok (.invokestatic 155, 3) := by decide +kernel
theorem dX6_weight_5 : decode cX6_weight 5 = .ok (.ifCond .eq 17, 3) := by decide +kernel
theorem dX6_weight_8 : decode cX6_weight 8 = .ok (.aload_n 0, 1) := by decide +kernel
theorem dX6_weight_9 : decode cX6_weight 9 = .ok (.iload_n 1, 1) := by decide +kernel
theorem dX6_weight_10 : decode cX6_weight 10 = .ok (.iload_n 2, 1) := by decide +kernel
theorem dX6_weight_11 : decode cX6_weight 11 = .ok (.iload_n 3, 1) := by decide +kernel
theorem dX6_weight_12 : decode cX6_weight 12 = .ok (.iload 4, 2) := by decide +kernel
theorem dX6_weight_14 : decode cX6_weight 14 = .ok (.iload 5, 2) := by decide +kernel
theorem dX6_weight_16 : decode cX6_weight 16 = .ok (.invokevirtual 147, 3) := by decide +kernel
theorem dX6_weight_19 : decode cX6_weight 19 = .ok (.ifCond .ne 7, 3) := by decide +kernel
theorem dX6_weight_22 : decode cX6_weight 22 = .ok (.ldc2_w 276, 3) := by decide +kernel
theorem dX6_weight_25 : decode cX6_weight 25 = .ok (.lreturn, 1) := by decide +kernel
theorem dX6_weight_26 : decode cX6_weight 26 = .ok (.aload_n 0, 1) := by decide +kernel
theorem dX6_weight_27 : decode cX6_weight 27 = .ok (.invokevirtual 278, 3) := by decide +kernel
theorem dX6_weight_30 : decode cX6_weight 30 = .ok (.aload_n 0, 1) := by decide +kernel
theorem dX6_weight_31 : decode cX6_weight 31 = .ok (.getfield 26, 3) := by decide +kernel
theorem dX6_weight_34 : decode cX6_weight 34 = .ok (.aload_n 0, 1) := by decide +kernel
theorem dX6_weight_35 : decode cX6_weight 35 = .ok (.getfield 54, 3) := by decide +kernel
theorem dX6_weight_38 : decode cX6_weight 38 = .ok (.invokevirtual 151, 3) := by decide +kernel
theorem dX6_weight_41 : decode cX6_weight 41 = .ok (.ifCond .ne 7, 3) := by decide +kernel
theorem dX6_weight_44 : decode cX6_weight 44 = .ok (.ldc2_w 276, 3) := by decide +kernel
theorem dX6_weight_47 : decode cX6_weight 47 = .ok (.lreturn, 1) := by decide +kernel
theorem dX6_weight_48 : decode cX6_weight 48 = .ok (.aload_n 0, 1) := by decide +kernel
theorem dX6_weight_49 : decode cX6_weight 49 = .ok (.getfield 26, 3) := by decide +kernel
theorem dX6_weight_52 : decode cX6_weight 52 = .ok (.aload_n 0, 1) := by decide +kernel
theorem dX6_weight_53 : decode cX6_weight 53 = .ok (.getfield 54, 3) := by decide +kernel
theorem dX6_weight_56 : decode cX6_weight 56 = .ok (.aload_n 0, 1) := by decide +kernel
theorem dX6_weight_57 : decode cX6_weight 57 = .ok (.getfield 58, 3) := by decide +kernel
theorem dX6_weight_60 : decode cX6_weight 60 = .ok (.invokevirtual 160, 3) := by decide +kernel
theorem dX6_weight_63 : decode cX6_weight 63 = .ok (.aload_n 0, 1) := by decide +kernel
theorem dX6_weight_64 : decode cX6_weight 64 = .ok (.getfield 26, 3) := by decide +kernel
theorem dX6_weight_67 : decode cX6_weight 67 = .ok (.getfield 164, 3) := by decide +kernel
theorem dX6_weight_70 : decode cX6_weight 70 = .ok (.iload 6, 2) := by decide +kernel
theorem dX6_weight_72 : decode cX6_weight 72 = .ok (.invokestatic 168, 3) := by decide +kernel
theorem dX6_weight_75 : decode cX6_weight 75 = .ok (.lreturn, 1) := by decide +kernel
set_option maxRecDepth 20000 in
theorem ggX6_miss_X6_isFractionPart : GoodIn wsX6_miss wsX6_isFractionPart := goodIn_r _ [10] (by decide +kernel) (by decide +kernel)
set_option maxRecDepth 20000 in
theorem gX6_miss_X6_isFractionPart : GoodIn wsX6_miss (va_wsS RX6 155 yX6_isFractionPart wsX6_isFractionPart) := goodIn_app (goodIn_of _ (by decide +kernel)) ggX6_miss_X6_isFractionPart
set_option maxRecDepth 20000 in
theorem ggX6_miss_X6_sweepSeen : GoodIn wsX6_miss wsX6_sweepSeen := goodIn_r _ [14, 4, 2, 15, 16, 6, 17, 18, 19, 20, 21, 22, 23, 24, 25, 26, 27, 28, 29, 30, 31, 32, 33, 34, 35, 36, 37, 38, 39, 40, 41, 42, 43, 44, 45, 46, 47, 48, 49, 50, 51, 52, 53, 54, 55, 56, 57, 58, 59, 60, 61, 62, 63, 64, 65, 66, 67, 68, 69, 70, 71, 72, 73, 74, 75, 76, 91, 92, 93, 94, 95, 96, 97, 98, 99, 100, 101, 102, 103, 104, 105, 106, 107, 108, 109, 110, 111, 112, 113, 114, 115, 116, 117] (by decide +kernel) (by decide +kernel)
set_option maxRecDepth 20000 in
theorem gX6_miss_X6_sweepSeen : GoodIn wsX6_miss (wsV RX6 278 RX6 yX6_sweepSeen wsX6_sweepSeen) := goodIn_app (goodIn_of _ (by decide +kernel)) ggX6_miss_X6_sweepSeen
set_option maxRecDepth 20000 in
theorem ggX6_miss_X2_measure : GoodIn wsX6_miss wsX2_measure := goodIn_r _ [80, 29, 65, 30, 70, 71, 22, 72, 58, 113, 114, 115, 116, 117] (by decide +kernel) (by decide +kernel)
set_option maxRecDepth 20000 in
theorem gX6_miss_X2_measure : GoodIn wsX6_miss (wsV RX6 160 RX2 yX2_measure wsX2_measure) := goodIn_app (goodIn_of _ (by decide +kernel)) ggX6_miss_X2_measure
set_option maxRecDepth 20000 in
theorem ggX6_miss_X6_partOfFraction : GoodIn wsX6_miss wsX6_partOfFraction := goodIn_r _ [83, 84, 85, 9, 86, 87, 88, 89, 90] (by decide +kernel) (by decide +kernel)
set_option maxRecDepth 20000 in
theorem gX6_miss_X6_partOfFraction : GoodIn wsX6_miss (va_wsS RX6 168 yX6_partOfFraction wsX6_partOfFraction) := goodIn_app (goodIn_of _ (by decide +kernel)) ggX6_miss_X6_partOfFraction
theorem dX6_miss_0 : decode cX6_miss 0 = .ok (.iload_n 1, 1) := by decide +kernel
theorem dX6_miss_1 : decode cX6_miss 1 = .ok (.invokestatic 155, 3) := by decide +kernel
theorem dX6_miss_4 : decode cX6_miss 4 = .ok (.ifCond .ne 7, 3) := by decide +kernel
theorem dX6_miss_7 : decode cX6_miss 7 = .ok (.ldc2_w 158, 3) := by decide +kernel
theorem dX6_miss_10 : decode cX6_miss 10 = .ok (.lreturn, 1) := by decide +kernel
theorem dX6_miss_11 : decode cX6_miss 11 = .ok (.aload_n 0, 1) := by decide +kernel
theorem dX6_miss_12 : decode cX6_miss 12 = .ok (.invokevirtual 278, 3) := by decide +kernel
theorem dX6_miss_15 : decode cX6_miss 15 = .ok (.aload_n 0, 1) := by decide +kernel
theorem dX6_miss_16 : decode cX6_miss 16 = .ok (.getfield 12, 3) := by decide +kernel
theorem dX6_miss_19 : decode cX6_miss 19 = .ok (.getfield 281, 3) := by decide +kernel
theorem dX6_miss_22 : decode cX6_miss 22 = .ok (.aload_n 0, 1) := by decide +kernel
theorem dX6_miss_23 : decode cX6_miss 23 = .ok (.getfield 26, 3) := by decide +kernel
theorem dX6_miss_26 : decode cX6_miss 26 = .ok (.getfield 164, 3) := by decide +kernel
theorem dX6_miss_29 : decode cX6_miss 29 = .ok (.lmul, 1) := by decide +kernel
theorem dX6_miss_30 : decode cX6_miss 30 = .ok (.aload_n 0, 1) := by decide +kernel
theorem dX6_miss_31 : decode cX6_miss 31 = .ok (.getfield 26, 3) := by decide +kernel
theorem dX6_miss_34 : decode cX6_miss 34 = .ok (.aload_n 0, 1) := by decide +kernel
theorem dX6_miss_35 : decode cX6_miss 35 = .ok (.getfield 58, 3) := by decide +kernel
theorem dX6_miss_38 : decode cX6_miss 38 = .ok (.aload_n 0, 1) := by decide +kernel
theorem dX6_miss_39 : decode cX6_miss 39 = .ok (.getfield 58, 3) := by decide +kernel
theorem dX6_miss_42 : decode cX6_miss 42 = .ok (.invokevirtual 160, 3) := by decide +kernel
theorem dX6_miss_45 : decode cX6_miss 45 = .ok (.lsub, 1) := by decide +kernel
theorem dX6_miss_46 : decode cX6_miss 46 = .ok (.lstore_n 2, 1) := by decide +kernel
theorem dX6_miss_47 : decode cX6_miss 47 = .ok (.lload_n 2, 1) := by decide +kernel
theorem dX6_miss_48 : decode cX6_miss 48 = .ok (.aload_n 0, 1) := by decide +kernel
theorem dX6_miss_49 : decode cX6_miss 49 = .ok (.getfield 26, 3) := by decide +kernel
theorem dX6_miss_52 : decode cX6_miss 52 = .ok (.getfield 164, 3) := by decide +kernel
theorem dX6_miss_55 : decode cX6_miss 55 = .ok (.iload_n 1, 1) := by decide +kernel
theorem dX6_miss_56 : decode cX6_miss 56 = .ok (.invokestatic 168, 3) := by decide +kernel
theorem dX6_miss_59 : decode cX6_miss 59 = .ok (.lreturn, 1) := by decide +kernel
set_option maxRecDepth 20000 in
theorem ggX6_sweepSeen_X2_fill : GoodIn wsX6_sweepSeen wsX2_fill := goodIn_r _ [12, 13, 14, 15, 16, 11, 17, 18, 19, 20, 21, 22, 23, 24, 25, 26, 27, 28, 29, 30, 31, 32, 33, 34, 35, 36, 37, 38, 39, 40, 41, 42, 43, 44, 45, 46, 47, 77, 78, 79, 80, 81, 82, 83, 84, 85, 86, 87, 88, 89, 90, 91, 92] (by decide +kernel) (by decide +kernel)
set_option maxRecDepth 20000 in
theorem gX6_sweepSeen_X2_fill : GoodIn wsX6_sweepSeen (wsV RX6 133 RX2 yX2_fill wsX2_fill) := goodIn_app (goodIn_of _ (by decide +kernel)) ggX6_sweepSeen_X2_fill
set_option maxRecDepth 20000 in
theorem ggX6_sweepSeen_X2_sweep : GoodIn wsX6_sweepSeen wsX2_sweep := goodIn_r _ [51, 52, 53, 18, 19, 47, 54, 55, 56, 57, 11, 58, 59, 60, 61, 88, 89, 90, 91, 92] (by decide +kernel) (by decide +kernel)
set_option maxRecDepth 20000 in
theorem gX6_sweepSeen_X2_sweep : GoodIn wsX6_sweepSeen (wsV RX6 176 RX2 yX2_sweep wsX2_sweep) := goodIn_app (goodIn_of _ (by decide +kernel)) ggX6_sweepSeen_X2_sweep
set_option maxRecDepth 20000 in
theorem ggX6_sweepSeen_X1_settingCount : GoodIn wsX6_sweepSeen wsX1_settingCount := goodIn_r _ [28, 29, 77, 78, 79, 80, 81, 82, 83, 84, 85, 86, 87] (by decide +kernel) (by decide +kernel)
set_option maxRecDepth 20000 in
theorem gX6_sweepSeen_X1_settingCount : GoodIn wsX6_sweepSeen (wsV RX6 126 RX1 yX1_settingCount wsX1_settingCount) := goodIn_app (goodIn_of _ (by decide +kernel)) ggX6_sweepSeen_X1_settingCount
set_option maxRecDepth 20000 in
theorem ggX6_sweepSeen_X1_markOf : GoodIn wsX6_sweepSeen wsX1_markOf := goodIn_r _ [65, 36, 37, 38, 39, 40, 41, 42] (by decide +kernel) (by decide +kernel)
set_option maxRecDepth 20000 in
theorem gX6_sweepSeen_X1_markOf : GoodIn wsX6_sweepSeen (va_wsS RX6 129 yX1_markOf wsX1_markOf) := goodIn_app (goodIn_of _ (by decide +kernel)) ggX6_sweepSeen_X1_markOf
theorem dX6_sweepSeen_0 : decode cX6_sweepSeen 0 = .ok (.aload_n 0, 1) := by decide +kernel
theorem dX6_sweepSeen_1 : decode cX6_sweepSeen 1 = .ok (.getfield 26, 3) := by decide +kernel
theorem dX6_sweepSeen_4 : decode cX6_sweepSeen 4 = .ok (.aload_n 0, 1) := by decide +kernel
theorem dX6_sweepSeen_5 : decode cX6_sweepSeen 5 = .ok (.getfield 12, 3) := by decide +kernel
theorem dX6_sweepSeen_8 : decode cX6_sweepSeen 8 = .ok (.aload_n 0, 1) := by decide +kernel
theorem dX6_sweepSeen_9 : decode cX6_sweepSeen 9 = .ok (.getfield 12, 3) := by decide +kernel
theorem dX6_sweepSeen_12 : decode cX6_sweepSeen 12 = .ok (.getfield 284, 3) := by decide +kernel
theorem dX6_sweepSeen_15 : decode cX6_sweepSeen 15 = .ok (.invokevirtual 133, 3) := by decide +kernel
theorem dX6_sweepSeen_18 : decode cX6_sweepSeen 18 = .ok (.aload_n 0, 1) := by decide +kernel
theorem dX6_sweepSeen_19 : decode cX6_sweepSeen 19 = .ok (.getfield 26, 3) := by decide +kernel
theorem dX6_sweepSeen_22 : decode cX6_sweepSeen 22 = .ok (.invokevirtual 176, 3) := by decide +kernel
theorem dX6_sweepSeen_25 : decode cX6_sweepSeen 25 = .ok (.aload_n 0, 1) := by decide +kernel
theorem dX6_sweepSeen_26 : decode cX6_sweepSeen 26 = .ok (.getfield 12, 3) := by decide +kernel
theorem dX6_sweepSeen_29 : decode cX6_sweepSeen 29 = .ok (.invokevirtual 126, 3) := by decide +kernel
theorem dX6_sweepSeen_32 : decode cX6_sweepSeen 32 = .ok (.istore_n 1, 1) := by decide +kernel
theorem dX6_sweepSeen_33 : decode cX6_sweepSeen 33 = .ok (.iconst 0, 1) := by decide +kernel
theorem dX6_sweepSeen_34 : decode cX6_sweepSeen 34 = .ok (.istore_n 2, 1) := by decide +kernel
theorem dX6_sweepSeen_35 : decode cX6_sweepSeen 35 = .ok (.iload_n 2, 1) := by decide +kernel
theorem dX6_sweepSeen_36 : decode cX6_sweepSeen 36 = .ok (.aload_n 0, 1) := by decide +kernel
theorem dX6_sweepSeen_37 : decode cX6_sweepSeen 37 = .ok (.getfield 12, 3) := by decide +kernel
theorem dX6_sweepSeen_40 : decode cX6_sweepSeen 40 = .ok (.getfield 83, 3) := by decide +kernel
theorem dX6_sweepSeen_43 : decode cX6_sweepSeen 43 = .ok (.if_icmp .ge 74, 3) := by decide +kernel
theorem dX6_sweepSeen_46 : decode cX6_sweepSeen 46 = .ok (.aload_n 0, 1) := by decide +kernel
theorem dX6_sweepSeen_47 : decode cX6_sweepSeen 47 = .ok (.getfield 58, 3) := by decide +kernel
theorem dX6_sweepSeen_50 : decode cX6_sweepSeen 50 = .ok (.iload_n 2, 1) := by decide +kernel
theorem dX6_sweepSeen_51 : decode cX6_sweepSeen 51 = .ok (.lconst 0, 1) := by decide +kernel
theorem dX6_sweepSeen_52 : decode cX6_sweepSeen 52 = .ok (.lastore, 1) := by decide +kernel
theorem dX6_sweepSeen_53 : decode cX6_sweepSeen 53 = .ok (.iconst 0, 1) := by decide +kernel
theorem dX6_sweepSeen_54 : decode cX6_sweepSeen 54 = .ok (.istore_n 3, 1) := by decide +kernel
theorem dX6_sweepSeen_55 : decode cX6_sweepSeen 55 = .ok (.iload_n 3, 1) := by decide +kernel
theorem dX6_sweepSeen_56 : decode cX6_sweepSeen 56 = .ok (.iload_n 1, 1) := by decide +kernel
theorem dX6_sweepSeen_57 : decode cX6_sweepSeen 57 = .ok (.if_icmp .ge 54, 3) := by decide +kernel
theorem dX6_sweepSeen_60 : decode cX6_sweepSeen 60 = .ok (.aload_n 0, 1) := by decide +kernel
theorem dX6_sweepSeen_61 : decode cX6_sweepSeen 61 = .ok (.getfield 12, 3) := by decide +kernel
theorem dX6_sweepSeen_64 : decode cX6_sweepSeen 64 = .ok (.getfield 287, 3) := by decide +kernel
theorem dX6_sweepSeen_67 : decode cX6_sweepSeen 67 = .ok (.iload_n 3, 1) := by decide +kernel
theorem dX6_sweepSeen_68 : decode cX6_sweepSeen 68 = .ok (.iaload, 1) := by decide +kernel
theorem dX6_sweepSeen_69 : decode cX6_sweepSeen 69 = .ok (.ifCond .eq 36, 3) := by decide +kernel
theorem dX6_sweepSeen_72 : decode cX6_sweepSeen 72 = .ok (.aload_n 0, 1) := by decide +kernel
theorem dX6_sweepSeen_73 : decode cX6_sweepSeen 73 = .ok (.getfield 58, 3) := by decide +kernel
theorem dX6_sweepSeen_76 : decode cX6_sweepSeen 76 = .ok (.iload_n 2, 1) := by decide +kernel
theorem dX6_sweepSeen_77 : decode cX6_sweepSeen 77 = .ok (.dup2, 1) := by decide +kernel
theorem dX6_sweepSeen_78 : decode cX6_sweepSeen 78 = .ok (.laload, 1) := by decide +kernel
theorem dX6_sweepSeen_79 : decode cX6_sweepSeen 79 = .ok (.aload_n 0, 1) := by decide +kernel
theorem dX6_sweepSeen_80 : decode cX6_sweepSeen 80 = .ok (.getfield 12, 3) := by decide +kernel
theorem dX6_sweepSeen_83 : decode cX6_sweepSeen 83 = .ok (.getfield 87, 3) := by decide +kernel
theorem dX6_sweepSeen_86 : decode cX6_sweepSeen 86 = .ok (.iload_n 2, 1) := by decide +kernel
theorem dX6_sweepSeen_87 : decode cX6_sweepSeen 87 = .ok (.iaload, 1) := by decide +kernel
theorem dX6_sweepSeen_88 : decode cX6_sweepSeen 88 = .ok (.iload_n 3, 1) := by decide +kernel
theorem dX6_sweepSeen_89 : decode cX6_sweepSeen 89 = .ok (.invokestatic 129, 3) := by decide +kernel
theorem dX6_sweepSeen_92 : decode cX6_sweepSeen 92 = .ok (.aload_n 0, 1) := by decide +kernel
theorem dX6_sweepSeen_93 : decode cX6_sweepSeen 93 = .ok (.getfield 12, 3) := by decide +kernel
theorem dX6_sweepSeen_96 : decode cX6_sweepSeen 96 = .ok (.getfield 287, 3) := by decide +kernel
theorem dX6_sweepSeen_99 : decode cX6_sweepSeen 99 = .ok (.iload_n 3, 1) := by decide +kernel
theorem dX6_sweepSeen_100 : decode cX6_sweepSeen 100 = .ok (.iaload, 1) := by decide +kernel
theorem dX6_sweepSeen_101 : decode cX6_sweepSeen 101 = .ok (.imul, 1) := by decide +kernel
theorem dX6_sweepSeen_102 : decode cX6_sweepSeen 102 = .ok (.i2l, 1) := by decide +kernel
theorem dX6_sweepSeen_103 : decode cX6_sweepSeen 103 = .ok (.ladd, 1) := by decide +kernel
theorem dX6_sweepSeen_104 : decode cX6_sweepSeen 104 = .ok (.lastore, 1) := by decide +kernel
theorem dX6_sweepSeen_105 : decode cX6_sweepSeen 105 = .ok (.iinc 3 1, 3) := by decide +kernel
theorem dX6_sweepSeen_108 : decode cX6_sweepSeen 108 = .ok (.goto (-53), 3) := by decide +kernel
theorem dX6_sweepSeen_111 : decode cX6_sweepSeen 111 = .ok (.iinc 2 1, 3) := by decide +kernel
theorem dX6_sweepSeen_114 : decode cX6_sweepSeen 114 = .ok (.goto (-79), 3) := by decide +kernel
theorem dX6_sweepSeen_117 : decode cX6_sweepSeen 117 = .ok (.return_, 1) := by decide +kernel
set_option maxRecDepth 20000 in
theorem ggX6_undo_X3_takeBack : GoodIn wsX6_undo wsX3_takeBack := goodIn_r _ [7, 8, 9, 10, 11, 12, 13, 14, 15, 16, 17, 18, 19, 20, 21, 22, 23, 24, 25, 26, 27, 28, 29, 30, 42, 43, 44, 45, 46, 47, 48, 49, 50, 51, 52, 53, 54, 55] (by decide +kernel) (by decide +kernel)
set_option maxRecDepth 20000 in
theorem gX6_undo_X3_takeBack : GoodIn wsX6_undo (wsV RX6 290 RX3 yX3_takeBack wsX3_takeBack) := goodIn_app (goodIn_of _ (by decide +kernel)) ggX6_undo_X3_takeBack
theorem dX6_undo_0 : decode cX6_undo 0 = .ok (.aload_n 0, 1) := by decide +kernel
theorem dX6_undo_1 : decode cX6_undo 1 = .ok (.getfield 19, 3) := by decide +kernel
theorem dX6_undo_4 : decode cX6_undo 4 = .ok (.aload_n 0, 1) := by decide +kernel
theorem dX6_undo_5 : decode cX6_undo 5 = .ok (.getfield 12, 3) := by decide +kernel
theorem dX6_undo_8 : decode cX6_undo 8 = .ok (.invokevirtual 290, 3) := by decide +kernel
theorem dX6_undo_11 : decode cX6_undo 11 = .ok (.ireturn, 1) := by decide +kernel
theorem dX7_init_0 : decode cX7_init 0 = .ok (.aload_n 0, 1) := by decide +kernel
theorem dX7_init_1 : decode cX7_init 1 = .ok (.invokespecial 1, 3) := by decide +kernel
theorem dX7_init_4 : decode cX7_init 4 = .ok (.aload_n 0, 1) := by decide +kernel
theorem dX7_init_5 : decode cX7_init 5 = .ok (.sipush 202, 3) := by decide +kernel
theorem dX7_init_8 : decode cX7_init 8 = .ok (.newarray .int, 2) := by decide +kernel
theorem dX7_init_10 : decode cX7_init 10 = .ok (.putfield 7, 3) := by decide +kernel
theorem dX7_init_13 : decode cX7_init 13 = .ok (.aload_n 0, 1) := by decide +kernel
theorem dX7_init_14 : decode cX7_init 14 = .ok (.sipush 1616, 3) := by decide +kernel
theorem dX7_init_17 : decode cX7_init 17 = .ok (.newarray .int, 2) := by decide +kernel
theorem dX7_init_19 : decode cX7_init 19 = .ok (.putfield 13, 3) := by decide +kernel
theorem dX7_init_22 : decode cX7_init 22 = .ok (.aload_n 0, 1) := by decide +kernel
theorem dX7_init_23 : decode cX7_init 23 = .ok (.bipush 36, 2) := by decide +kernel
theorem dX7_init_25 : decode cX7_init 25 = .ok (.newarray .long, 2) := by decide +kernel
theorem dX7_init_27 : decode cX7_init 27 = .ok (.putfield 16, 3) := by decide +kernel
theorem dX7_init_30 : decode cX7_init 30 = .ok (.aload_n 0, 1) := by decide +kernel
theorem dX7_init_31 : decode cX7_init 31 = .ok (.bipush 36, 2) := by decide +kernel
theorem dX7_init_33 : decode cX7_init 33 = .ok (.newarray .long, 2) := by decide +kernel
theorem dX7_init_35 : decode cX7_init 35 = .ok (.putfield 20, 3) := by decide +kernel
theorem dX7_init_38 : decode cX7_init 38 = .ok (.aload_n 0, 1) := by decide +kernel
theorem dX7_init_39 : decode cX7_init 39 = .ok (.bipush 64, 2) := by decide +kernel
theorem dX7_init_41 : decode cX7_init 41 = .ok (.newarray .long, 2) := by decide +kernel
theorem dX7_init_43 : decode cX7_init 43 = .ok (.putfield 23, 3) := by decide +kernel
theorem dX7_init_46 : decode cX7_init 46 = .ok (.aload_n 0, 1) := by decide +kernel
theorem dX7_init_47 : decode cX7_init 47 = .ok (.iconst 5, 1) := by decide +kernel
theorem dX7_init_48 : decode cX7_init 48 = .ok (.newarray .int, 2) := by decide +kernel
theorem dX7_init_50 : decode cX7_init 50 = .ok (.putfield 26, 3) := by decide +kernel
theorem dX7_init_53 : decode cX7_init 53 = .ok (.aload_n 0, 1) := by decide +kernel
theorem dX7_init_54 : decode cX7_init 54 = .ok (.iconst 5, 1) := by decide +kernel
theorem dX7_init_55 : decode cX7_init 55 = .ok (.newarray .long, 2) := by decide +kernel
theorem dX7_init_57 : decode cX7_init 57 = .ok (.putfield 29, 3) := by decide +kernel
theorem dX7_init_60 : decode cX7_init 60 = .ok (.aload_n 0, 1) := by decide +kernel
theorem dX7_init_61 : decode cX7_init 61 = .ok (.iconst 5, 1) := by decide +kernel
theorem dX7_init_62 : decode cX7_init 62 = .ok (.newarray .long, 2) := by decide +kernel
theorem dX7_init_64 : decode cX7_init 64 = .ok (.putfield 32, 3) := by decide +kernel
theorem dX7_init_67 : decode cX7_init 67 = .ok (.aload_n 0, 1) := by decide +kernel
theorem dX7_init_68 : decode cX7_init 68 = .ok (.iconst 5, 1) := by decide +kernel
theorem dX7_init_69 : decode cX7_init 69 = .ok (.newarray .long, 2) := by decide +kernel
theorem dX7_init_71 : decode cX7_init 71 = .ok (.putfield 35, 3) := by decide +kernel
theorem dX7_init_74 : decode cX7_init 74 = .ok (.aload_n 0, 1) := by decide +kernel
theorem dX7_init_75 : decode cX7_init 75 = .ok (.bipush 41, 2) := by decide +kernel
theorem dX7_init_77 : decode cX7_init 77 = .ok (.newarray .int, 2) := by decide +kernel
theorem dX7_init_79 : decode cX7_init 79 = .ok (.putfield 38, 3) := by decide +kernel
theorem dX7_init_82 : decode cX7_init 82 = .ok (.aload_n 0, 1) := by decide +kernel
theorem dX7_init_83 : decode cX7_init 83 = .ok (.bipush 64, 2) := by decide +kernel
theorem dX7_init_85 : decode cX7_init 85 = .ok (.newarray .int, 2) := by decide +kernel
theorem dX7_init_87 : decode cX7_init 87 = .ok (.putfield 41, 3) := by decide +kernel
theorem dX7_init_90 : decode cX7_init 90 = .ok (.aload_n 0, 1) := by decide +kernel
theorem dX7_init_91 : decode cX7_init 91 = .ok (.bipush 64, 2) := by decide +kernel
theorem dX7_init_93 : decode cX7_init 93 = .ok (.newarray .int, 2) := by decide +kernel
theorem dX7_init_95 : decode cX7_init 95 = .ok (.putfield 44, 3) := by decide +kernel
theorem dX7_init_98 : decode cX7_init 98 = .ok (.aload_n 0, 1) := by decide +kernel
theorem dX7_init_99 : decode cX7_init 99 = .ok (.bipush 16, 2) := by decide +kernel
theorem dX7_init_101 : decode cX7_init 101 = .ok (.newarray .int, 2) := by decide +kernel
theorem dX7_init_103 : decode cX7_init 103 = .ok (.putfield 47, 3) := by decide +kernel
theorem dX7_init_106 : decode cX7_init 106 = .ok (.aload_n 0, 1) := by decide +kernel
theorem dX7_init_107 : decode cX7_init 107 = .ok (.bipush 7, 2) := by decide +kernel
theorem dX7_init_109 : decode cX7_init 109 = .ok (.newarray .int, 2) := by decide +kernel
theorem dX7_init_111 : decode cX7_init 111 = .ok (.putfield 50, 3) := by decide +kernel
theorem dX7_init_114 : decode cX7_init 114 = .ok (.aload_n 0, 1) := by decide +kernel
theorem dX7_init_115 : decode cX7_init 115 = .ok (.bipush 64, 2) := by decide +kernel
theorem dX7_init_117 : decode cX7_init 117 = .ok (.newarray .boolean, 2) := by decide +kernel
theorem dX7_init_119 : decode cX7_init 119 = .ok (.putfield 53, 3) := by decide +kernel
theorem dX7_init_122 : decode cX7_init 122 = .ok (.aload_n 0, 1) := by decide +kernel
theorem dX7_init_123 : decode cX7_init 123 = .ok (.iconst 4, 1) := by decide +kernel
theorem dX7_init_124 : decode cX7_init 124 = .ok (.newarray .int, 2) := by decide +kernel
theorem dX7_init_126 : decode cX7_init 126 = .ok (.putfield 57, 3) := by decide +kernel
theorem dX7_init_129 : decode cX7_init 129 = .ok (.aload_n 0, 1) := by decide +kernel
theorem dX7_init_130 : decode cX7_init 130 = .ok (.iconst 4, 1) := by decide +kernel
theorem dX7_init_131 : decode cX7_init 131 = .ok (.newarray .int, 2) := by decide +kernel
theorem dX7_init_133 : decode cX7_init 133 = .ok (.putfield 60, 3) := by decide +kernel
theorem dX7_init_136 : decode cX7_init 136 = .ok (.aload_n 0, 1) := by decide +kernel
theorem dX7_init_137 : decode cX7_init 137 = .ok (.bipush 12, 2) := by decide +kernel
theorem dX7_init_139 : decode cX7_init 139 = .ok (.newarray .int, 2) := by decide +kernel
theorem dX7_init_141 : decode cX7_init 141 = .ok (.putfield 63, 3) := by decide +kernel
theorem dX7_init_144 : decode cX7_init 144 = .ok (.aload_n 0, 1) := by decide +kernel
theorem dX7_init_145 : decode cX7_init 145 = .ok (.bipush 12, 2) := by decide +kernel
theorem dX7_init_147 : decode cX7_init 147 = .ok (.newarray .int, 2) := by decide +kernel
theorem dX7_init_149 : decode cX7_init 149 = .ok (.putfield 66, 3) := by decide +kernel
theorem dX7_init_152 : decode cX7_init 152 = .ok (.aload_n 0, 1) := by decide +kernel
theorem dX7_init_153 : decode cX7_init 153 = .ok (.ldc 69, 2) := by decide +kernel
theorem dX7_init_155 : decode cX7_init 155 = .ok (.newarray .int, 2) := by decide +kernel
theorem dX7_init_157 : decode cX7_init 157 = .ok (.putfield 70, 3) := by decide +kernel
theorem dX7_init_160 : decode cX7_init 160 = .ok (.aload_n 0, 1) := by decide +kernel
theorem dX7_init_161 : decode cX7_init 161 = .ok (.iconst 5, 1) := by decide +kernel
theorem dX7_init_162 : decode cX7_init 162 = .ok (.newarray .long, 2) := by decide +kernel
theorem dX7_init_164 : decode cX7_init 164 = .ok (.putfield 73, 3) := by decide +kernel
theorem dX7_init_167 : decode cX7_init 167 = .ok (.return_, 1) := by decide +kernel
set_option maxRecDepth 20000 in
theorem ggX7_begins_X7_lays : GoodIn wsX7_begins wsX7_lays := goodIn_r _ [6, 7, 8, 9, 10, 11, 12, 13, 14, 15, 16, 17, 18, 19, 20, 21, 22, 23, 24, 25, 26, 27, 28, 29, 30, 31, 32, 33, 34, 35, 36, 37] (by decide +kernel) (by decide +kernel)
set_option maxRecDepth 20000 in
theorem gX7_begins_X7_lays : GoodIn wsX7_begins (wsV RX7 84 RX7 yX7_lays wsX7_lays) := goodIn_app (goodIn_of _ (by decide +kernel)) ggX7_begins_X7_lays
theorem dX7_begins_0 : decode cX7_begins 0 = .ok (.aload_n 0, 1) := by decide +kernel
theorem dX7_begins_1 : decode cX7_begins 1 = .ok (.getfield 80, 3) := by decide +kernel
theorem dX7_begins_4 : decode cX7_begins 4 = .ok (.ifCond .eq 4, 3) := by decide +kernel
theorem dX7_begins_7 : decode cX7_begins 7 = .ok (.return_, 1) := by decide +kernel
theorem dX7_begins_8 : decode cX7_begins 8 = .ok (.aload_n 0, 1) := by decide +kernel
theorem dX7_begins_9 : decode cX7_begins 9 = .ok (.iconst 1, 1) := by decide +kernel
theorem dX7_begins_10 : decode cX7_begins 10 = .ok (.putfield 80, 3) := by decide +kernel
theorem dX7_begins_13 : decode cX7_begins 13 = .ok (.aload_n 0, 1) := by decide +kernel
theorem dX7_begins_14 : decode cX7_begins 14 = .ok (.iconst 3, 1) := by decide +kernel
theorem dX7_begins_15 : decode cX7_begins 15 = .ok (.invokevirtual 84, 3) := by decide +kernel
theorem dX7_begins_18 : decode cX7_begins 18 = .ok (.return_, 1) := by decide +kernel
theorem dX7_lays_0 : decode cX7_lays 0 = .ok (.iconst 0, 1) := by decide +kernel
theorem dX7_lays_1 : decode cX7_lays 1 = .ok (.istore_n 2, 1) := by decide +kernel
theorem dX7_lays_2 : decode cX7_lays 2 = .ok (.iload_n 2, 1) := by decide +kernel
theorem dX7_lays_3 : decode cX7_lays 3 = .ok (.sipush 202, 3) := by decide +kernel
theorem dX7_lays_6 : decode cX7_lays 6 = .ok (.if_icmp .ge 16, 3) := by decide +kernel
theorem dX7_lays_9 : decode cX7_lays 9 = .ok (.aload_n 0, 1) := by decide +kernel
theorem dX7_lays_10 : decode cX7_lays 10 = .ok (.getfield 7, 3) := by decide +kernel
theorem dX7_lays_13 : decode cX7_lays 13 = .ok (.iload_n 2, 1) := by decide +kernel
theorem dX7_lays_14 : decode cX7_lays 14 = .ok (.iconst 0, 1) := by decide +kernel
theorem dX7_lays_15 : decode cX7_lays 15 = .ok (.iastore, 1) := by decide +kernel
theorem dX7_lays_16 : decode cX7_lays 16 = .ok (.iinc 2 1, 3) := by decide +kernel
theorem dX7_lays_19 : decode cX7_lays 19 = .ok (.goto (-17), 3) := by decide +kernel
theorem dX7_lays_22 : decode cX7_lays 22 = .ok (.aload_n 0, 1) := by decide +kernel
theorem dX7_lays_23 : decode cX7_lays 23 = .ok (.getfield 7, 3) := by decide +kernel
theorem dX7_lays_26 : decode cX7_lays 26 = .ok (.iconst 0, 1) := by decide +kernel
theorem dX7_lays_27 : decode cX7_lays 27 = .ok (.iload_n 1, 1) := by decide +kernel
theorem dX7_lays_28 : decode cX7_lays 28 = .ok (.iastore, 1) := by decide +kernel
theorem dX7_lays_29 : decode cX7_lays 29 = .ok (.aload_n 0, 1) := by decide +kernel
theorem dX7_lays_30 : decode cX7_lays 30 = .ok (.getfield 7, 3) := by decide +kernel
theorem dX7_lays_33 : decode cX7_lays 33 = .ok (.iconst 1, 1) := by decide +kernel
theorem dX7_lays_34 : decode cX7_lays 34 = .ok (.iconst 1, 1) := by decide +kernel
theorem dX7_lays_35 : decode cX7_lays 35 = .ok (.iastore, 1) := by decide +kernel
theorem dX7_lays_36 : decode cX7_lays 36 = .ok (.return_, 1) := by decide +kernel
theorem dX7_keep_0 : decode cX7_keep 0 = .ok (.aload_n 0, 1) := by decide +kernel
theorem dX7_keep_1 : decode cX7_keep 1 = .ok (.getfield 88, 3) := by decide +kernel
theorem dX7_keep_4 : decode cX7_keep 4 = .ok (.bipush 8, 2) := by decide +kernel
theorem dX7_keep_6 : decode cX7_keep 6 = .ok (.if_icmp .ne 40, 3) := by decide +kernel
theorem dX7_keep_9 : decode cX7_keep 9 = .ok (.iconst 0, 1) := by decide +kernel
theorem dX7_keep_10 : decode cX7_keep 10 = .ok (.istore_n 1, 1) := by decide +kernel
theorem dX7_keep_11 : decode cX7_keep 11 = .ok (.iload_n 1, 1) := by decide +kernel
theorem dX7_keep_12 : decode cX7_keep 12 = .ok (.sipush 1414, 3) := by decide +kernel
theorem dX7_keep_15 : decode cX7_keep 15 = .ok (.if_icmp .ge 25, 3) := by decide +kernel
theorem dX7_keep_18 : decode cX7_keep 18 = .ok (.aload_n 0, 1) := by decide +kernel
theorem dX7_keep_19 : decode cX7_keep 19 = .ok (.getfield 13, 3) := by decide +kernel
theorem dX7_keep_22 : decode cX7_keep 22 = .ok (.iload_n 1, 1) := by decide +kernel
theorem dX7_keep_23 : decode cX7_keep 23 = .ok (.aload_n 0, 1) := by decide +kernel
theorem dX7_keep_24 : decode cX7_keep 24 = .ok (.getfield 13, 3) := by decide +kernel
theorem dX7_keep_27 : decode cX7_keep 27 = .ok (.iload_n 1, 1) := by decide +kernel
theorem dX7_keep_28 : decode cX7_keep 28 = .ok (.sipush 202, 3) := by decide +kernel
theorem dX7_keep_31 : decode cX7_keep 31 = .ok (.iadd, 1) := by decide +kernel
theorem dX7_keep_32 : decode cX7_keep 32 = .ok (.iaload, 1) := by decide +kernel
theorem dX7_keep_33 : decode cX7_keep 33 = .ok (.iastore, 1) := by decide +kernel
theorem dX7_keep_34 : decode cX7_keep 34 = .ok (.iinc 1 1, 3) := by decide +kernel
theorem dX7_keep_37 : decode cX7_keep 37 = .ok (.goto (-26), 3) := by decide +kernel
theorem dX7_keep_40 : decode cX7_keep 40 = .ok (.aload_n 0, 1) := by decide +kernel
theorem dX7_keep_41 : decode cX7_keep 41 = .ok (.bipush 7, 2) := by decide +kernel
theorem dX7_keep_43 : decode cX7_keep 43 = .ok (.putfield 88, 3) := by decide +kernel
theorem dX7_keep_46 : decode cX7_keep 46 = .ok (.iconst 0, 1) := by decide +kernel
theorem dX7_keep_47 : decode cX7_keep 47 = .ok (.istore_n 1, 1) := by decide +kernel
theorem dX7_keep_48 : decode cX7_keep 48 = .ok (.iload_n 1, 1) := by decide +kernel
theorem dX7_keep_49 : decode cX7_keep 49 = .ok (.sipush 202, 3) := by decide +kernel
theorem dX7_keep_52 : decode cX7_keep 52 = .ok (.if_icmp .ge 30, 3) := by decide +kernel
theorem dX7_keep_55 : decode cX7_keep 55 = .ok (.aload_n 0, 1) := by decide +kernel
theorem dX7_keep_56 : decode cX7_keep 56 = .ok (.getfield 13, 3) := by decide +kernel
theorem dX7_keep_59 : decode cX7_keep 59 = .ok (.aload_n 0, 1) := by decide +kernel
theorem dX7_keep_60 : decode cX7_keep 60 = .ok (.getfield 88, 3) := by decide +kernel
theorem dX7_keep_63 : decode cX7_keep 63 = .ok (.sipush 202, 3) := by decide +kernel
theorem dX7_keep_66 : decode cX7_keep 66 = .ok (.imul, 1) := by decide +kernel
theorem dX7_keep_67 : decode cX7_keep 67 = .ok (.iload_n 1, 1) := by decide +kernel
theorem dX7_keep_68 : decode cX7_keep 68 = .ok (.iadd, 1) := by decide +kernel
theorem dX7_keep_69 : decode cX7_keep 69 = .ok (.aload_n 0, 1) := by decide +kernel
theorem dX7_keep_70 : decode cX7_keep 70 = .ok (.getfield 7, 3) := by decide +kernel
theorem dX7_keep_73 : decode cX7_keep 73 = .ok (.iload_n 1, 1) := by decide +kernel
theorem dX7_keep_74 : decode cX7_keep 74 = .ok (.iaload, 1) := by decide +kernel
theorem dX7_keep_75 : decode cX7_keep 75 = .ok (.iastore, 1) := by decide +kernel
theorem dX7_keep_76 : decode cX7_keep 76 = .ok (.iinc 1 1, 3) := by decide +kernel
theorem dX7_keep_79 : decode cX7_keep 79 = .ok (.goto (-31), 3) := by decide +kernel
theorem dX7_keep_82 : decode cX7_keep 82 = .ok (.aload_n 0, 1) := by decide +kernel
theorem dX7_keep_83 : decode cX7_keep 83 = .ok (.aload_n 0, 1) := by decide +kernel
theorem dX7_keep_84 : decode cX7_keep 84 = .ok (.getfield 88, 3) := by decide +kernel
theorem dX7_keep_87 : decode cX7_keep 87 = .ok (.iconst 1, 1) := by decide +kernel
theorem dX7_keep_88 : decode cX7_keep 88 = .ok (.iadd, 1) := by decide +kernel
theorem dX7_keep_89 : decode cX7_keep 89 = .ok (.putfield 88, 3) := by decide +kernel
theorem dX7_keep_92 : decode cX7_keep 92 = .ok (.return_, 1) := by decide +kernel
set_option maxRecDepth 20000 in
theorem ggX7_undo_X7_begins : GoodIn wsX7_undo wsX7_begins := goodIn_r _ [9, 10, 11, 12, 13, 8, 14, 3, 15, 16, 17, 18, 19, 20, 21, 22, 23, 24, 25, 26, 27, 28, 29, 30, 31, 32, 33, 34, 35, 36, 37, 38, 39, 40, 41, 42, 43, 44] (by decide +kernel) (by decide +kernel)
set_option maxRecDepth 20000 in
theorem gX7_undo_X7_begins : GoodIn wsX7_undo (wsV RX7 91 RX7 yX7_begins wsX7_begins) := goodIn_app (goodIn_of _ (by decide +kernel)) ggX7_undo_X7_begins
theorem dX7_undo_0 : decode cX7_undo 0 = .ok (.aload_n 0, 1) := by decide +kernel
theorem dX7_undo_1 : decode cX7_undo 1 = .ok (.iconst 0, 1) := by decide +kernel
theorem dX7_undo_2 : decode cX7_undo 2 = .ok (.putfield 76, 3) := by decide +kernel
theorem dX7_undo_5 : decode cX7_undo 5 = .ok (.aload_n 0, 1) := by decide +kernel
theorem dX7_undo_6 : decode cX7_undo 6 = .ok (.invokevirtual 91, 3) := by decide +kernel
theorem dX7_undo_9 : decode cX7_undo 9 = .ok (.aload_n 0, 1) := by decide +kernel
theorem dX7_undo_10 : decode cX7_undo 10 = .ok (.getfield 88, 3) := by decide +kernel
theorem dX7_undo_13 : decode cX7_undo 13 = .ok (.ifCond .ne 5, 3) := by decide +kernel
theorem dX7_undo_16 : decode cX7_undo 16 = .ok (.iconst 0, 1) := by decide +kernel
theorem dX7_undo_17 : decode cX7_undo 17 = .ok (.ireturn, 1) := by decide +kernel
theorem dX7_undo_18 : decode cX7_undo 18 = .ok (.aload_n 0, 1) := by decide +kernel
theorem dX7_undo_19 : decode cX7_undo 19 = .ok (.aload_n 0, 1) := by decide +kernel
theorem dX7_undo_20 : decode cX7_undo 20 = .ok (.getfield 88, 3) := by decide +kernel
theorem dX7_undo_23 : decode cX7_undo 23 = .ok (.iconst 1, 1) := by decide +kernel
theorem dX7_undo_24 : decode cX7_undo 24 = .ok (.isub, 1) := by decide +kernel
theorem dX7_undo_25 : decode cX7_undo 25 = .ok (.putfield 88, 3) := by decide +kernel
theorem dX7_undo_28 : decode cX7_undo 28 = .ok (.iconst 0, 1) := by decide +kernel
theorem dX7_undo_29 : decode cX7_undo 29 = .ok (.istore_n 1, 1) := by decide +kernel
theorem dX7_undo_30 : decode cX7_undo 30 = .ok (.iload_n 1, 1) := by decide +kernel
theorem dX7_undo_31 : decode cX7_undo 31 = .ok (.sipush 202, 3) := by decide +kernel
theorem dX7_undo_34 : decode cX7_undo 34 = .ok (.if_icmp .ge 30, 3) := by decide +kernel
theorem dX7_undo_37 : decode cX7_undo 37 = .ok (.aload_n 0, 1) := by decide +kernel
theorem dX7_undo_38 : decode cX7_undo 38 = .ok (.getfield 7, 3) := by decide +kernel
theorem dX7_undo_41 : decode cX7_undo 41 = .ok (.iload_n 1, 1) := by decide +kernel
theorem dX7_undo_42 : decode cX7_undo 42 = .ok (.aload_n 0, 1) := by decide +kernel
theorem dX7_undo_43 : decode cX7_undo 43 = .ok (.getfield 13, 3) := by decide +kernel
theorem dX7_undo_46 : decode cX7_undo 46 = .ok (.aload_n 0, 1) := by decide +kernel
theorem dX7_undo_47 : decode cX7_undo 47 = .ok (.getfield 88, 3) := by decide +kernel
theorem dX7_undo_50 : decode cX7_undo 50 = .ok (.sipush 202, 3) := by decide +kernel
theorem dX7_undo_53 : decode cX7_undo 53 = .ok (.imul, 1) := by decide +kernel
theorem dX7_undo_54 : decode cX7_undo 54 = .ok (.iload_n 1, 1) := by decide +kernel
theorem dX7_undo_55 : decode cX7_undo 55 = .ok (.iadd, 1) := by decide +kernel
theorem dX7_undo_56 : decode cX7_undo 56 = .ok (.iaload, 1) := by decide +kernel
theorem dX7_undo_57 : decode cX7_undo 57 = .ok (.iastore, 1) := by decide +kernel
theorem dX7_undo_58 : decode cX7_undo 58 = .ok (.iinc 1 1, 3) := by decide +kernel
theorem dX7_undo_61 : decode cX7_undo 61 = .ok (.goto (-31), 3) := by decide +kernel
theorem dX7_undo_64 : decode cX7_undo 64 = .ok (.iconst 1, 1) := by decide +kernel
theorem dX7_undo_65 : decode cX7_undo 65 = .ok (.ireturn, 1) := by decide +kernel
set_option maxRecDepth 20000 in
theorem ggX7_factors_X7_begins : GoodIn wsX7_factors wsX7_begins := goodIn_r _ [6, 7, 8, 9, 10, 5, 11, 12, 19, 20, 21, 22, 23, 24, 25, 26, 27, 28, 29, 30, 31, 32, 33, 34, 35, 36, 37, 38, 39, 40, 41, 42, 43, 44, 45, 46, 47, 48] (by decide +kernel) (by decide +kernel)
set_option maxRecDepth 20000 in
theorem gX7_factors_X7_begins : GoodIn wsX7_factors (wsV RX7 91 RX7 yX7_begins wsX7_begins) := goodIn_app (goodIn_of _ (by decide +kernel)) ggX7_factors_X7_begins
set_option maxRecDepth 20000 in
theorem ggX7_factors_X7_keep : GoodIn wsX7_factors wsX7_keep := goodIn_r _ [16, 17, 18, 12, 19, 20, 21, 22, 23, 24, 25, 26, 27, 28, 29, 30, 31, 32, 33, 34, 35, 36, 37, 38, 39, 40, 41, 42, 43, 44, 45, 46, 47, 48] (by decide +kernel) (by decide +kernel)
set_option maxRecDepth 20000 in
theorem gX7_factors_X7_keep : GoodIn wsX7_factors (wsV RX7 94 RX7 yX7_keep wsX7_keep) := goodIn_app (goodIn_of _ (by decide +kernel)) ggX7_factors_X7_keep
set_option maxRecDepth 20000 in
theorem ggX7_factors_X7_lays : GoodIn wsX7_factors wsX7_lays := goodIn_r _ [11, 12, 19, 20, 21, 22, 23, 24, 25, 26, 27, 28, 29, 30, 31, 32, 33, 34, 35, 36, 37, 38, 39, 40, 41, 42, 43, 44, 45, 46, 47, 48] (by decide +kernel) (by decide +kernel)
set_option maxRecDepth 20000 in
theorem gX7_factors_X7_lays : GoodIn wsX7_factors (wsV RX7 84 RX7 yX7_lays wsX7_lays) := goodIn_app (goodIn_of _ (by decide +kernel)) ggX7_factors_X7_lays
theorem dX7_factors_0 : decode cX7_factors 0 = .ok (.aload_n 0, 1) := by decide +kernel
theorem dX7_factors_1 : decode cX7_factors 1 = .ok (.iconst 0, 1) := by decide +kernel
theorem dX7_factors_2 : decode cX7_factors 2 = .ok (.putfield 76, 3) := by decide +kernel
theorem dX7_factors_5 : decode cX7_factors 5 = .ok (.aload_n 0, 1) := by decide +kernel
theorem dX7_factors_6 : decode cX7_factors 6 = .ok (.invokevirtual 91, 3) := by decide +kernel
theorem dX7_factors_9 : decode cX7_factors 9 = .ok (.iload_n 1, 1) := by decide +kernel
theorem dX7_factors_10 : decode cX7_factors 10 = .ok (.iconst 1, 1) := by decide +kernel
theorem dX7_factors_11 : decode cX7_factors 11 = .ok (.if_icmp .lt 9, 3) := by decide +kernel
theorem dX7_factors_14 : decode cX7_factors 14 = .ok (.iload_n 1, 1) := by decide +kernel
theorem dX7_factors_15 : decode cX7_factors 15 = .ok (.bipush 6, 2) := by decide +kernel
theorem dX7_factors_17 : decode cX7_factors 17 = .ok (.if_icmp .le 5, 3) := by decide +kernel
theorem dX7_factors_20 : decode cX7_factors 20 = .ok (.iconst 0, 1) := by decide +kernel
theorem dX7_factors_21 : decode cX7_factors 21 = .ok (.ireturn, 1) := by decide +kernel
theorem dX7_factors_22 : decode cX7_factors 22 = .ok (.aload_n 0, 1) := by decide +kernel
theorem dX7_factors_23 : decode cX7_factors 23 = .ok (.invokevirtual 94, 3) := by decide +kernel
theorem dX7_factors_26 : decode cX7_factors 26 = .ok (.aload_n 0, 1) := by decide +kernel
theorem dX7_factors_27 : decode cX7_factors 27 = .ok (.iload_n 1, 1) := by decide +kernel
theorem dX7_factors_28 : decode cX7_factors 28 = .ok (.invokevirtual 84, 3) := by decide +kernel
theorem dX7_factors_31 : decode cX7_factors 31 = .ok (.iconst 1, 1) := by decide +kernel
theorem dX7_factors_32 : decode cX7_factors 32 = .ok (.ireturn, 1) := by decide +kernel
theorem dX7_settings_0 : decode cX7_settings 0 = .ok (.iconst 1, 1) := by decide +kernel
theorem dX7_settings_1 : decode cX7_settings 1 = .ok (.aload_n 0, 1) := by decide +kernel
theorem dX7_settings_2 : decode cX7_settings 2 = .ok (.getfield 7, 3) := by decide +kernel
theorem dX7_settings_5 : decode cX7_settings 5 = .ok (.iconst 0, 1) := by decide +kernel
theorem dX7_settings_6 : decode cX7_settings 6 = .ok (.iaload, 1) := by decide +kernel
theorem dX7_settings_7 : decode cX7_settings 7 = .ok (.ishl, 1) := by decide +kernel
theorem dX7_settings_8 : decode cX7_settings 8 = .ok (.ireturn, 1) := by decide +kernel
set_option maxRecDepth 20000 in
theorem ggX7_isSetting_X7_settings : GoodIn wsX7_isSetting wsX7_settings := goodIn_r _ [5, 6, 7, 8, 9, 10, 11, 12, 13, 14, 15, 16, 17, 18, 19, 20, 21, 22, 23, 24, 25, 26, 27, 28, 29, 30, 31, 32, 33, 34, 35, 36] (by decide +kernel) (by decide +kernel)
set_option maxRecDepth 20000 in
theorem gX7_isSetting_X7_settings : GoodIn wsX7_isSetting (wsV RX7 97 RX7 yX7_settings wsX7_settings) := goodIn_app (goodIn_of _ (by decide +kernel)) ggX7_isSetting_X7_settings
theorem dX7_isSetting_0 : decode cX7_isSetting 0 = .ok (.iload_n 1, 1) := by decide +kernel
theorem dX7_isSetting_1 : decode cX7_isSetting 1 = .ok (.ifCond .lt 15, 3) := by decide +kernel
theorem dX7_isSetting_4 : decode cX7_isSetting 4 = .ok (.iload_n 1, 1) := by decide +kernel
theorem dX7_isSetting_5 : decode cX7_isSetting 5 = .ok (.aload_n 0, 1) := by decide +kernel
theorem dX7_isSetting_6 : decode cX7_isSetting 6 = .ok (.invokevirtual 97, 3) := by decide +kernel
theorem dX7_isSetting_9 : decode cX7_isSetting 9 = .ok (.if_icmp .ge 7, 3) := by decide +kernel
theorem dX7_isSetting_12 : decode cX7_isSetting 12 = .ok (.iconst 1, 1) := by decide +kernel
theorem dX7_isSetting_13 : decode cX7_isSetting 13 = .ok (.goto 4, 3) := by decide +kernel
theorem dX7_isSetting_16 : decode cX7_isSetting 16 = .ok (.iconst 0, 1) := by decide +kernel
theorem dX7_isSetting_17 : decode cX7_isSetting 17 = .ok (.ireturn, 1) := by decide +kernel
set_option maxRecDepth 20000 in
theorem ggX7_term_X7_begins : GoodIn wsX7_term wsX7_begins := goodIn_r _ [7, 8, 9, 10, 11, 6, 12, 2, 27, 28, 29, 30, 31, 32, 33, 34, 35, 36, 37, 38, 39, 40, 41, 42, 43, 44, 45, 46, 47, 48, 49, 50, 51, 52, 53, 54, 55, 56] (by decide +kernel) (by decide +kernel)
set_option maxRecDepth 20000 in
theorem gX7_term_X7_begins : GoodIn wsX7_term (wsV RX7 91 RX7 yX7_begins wsX7_begins) := goodIn_app (goodIn_of _ (by decide +kernel)) ggX7_term_X7_begins
set_option maxRecDepth 20000 in
theorem ggX7_term_X7_isSetting : GoodIn wsX7_term wsX7_isSetting := goodIn_r _ [16, 17, 18, 19, 6, 20, 2, 27, 28, 29, 30, 31, 32, 33, 34, 35, 36, 37, 38, 39, 40, 41, 42, 43, 44, 45, 46, 47, 48, 49, 50, 51, 52, 53, 54, 55, 56] (by decide +kernel) (by decide +kernel)
set_option maxRecDepth 20000 in
theorem gX7_term_X7_isSetting : GoodIn wsX7_term (wsV RX7 101 RX7 yX7_isSetting wsX7_isSetting) := goodIn_app (goodIn_of _ (by decide +kernel)) ggX7_term_X7_isSetting
set_option maxRecDepth 20000 in
theorem ggX7_term_X7_keep : GoodIn wsX7_term wsX7_keep := goodIn_r _ [24, 25, 26, 2, 27, 28, 29, 30, 31, 32, 33, 34, 35, 36, 37, 38, 39, 40, 41, 42, 43, 44, 45, 46, 47, 48, 49, 50, 51, 52, 53, 54, 55, 56] (by decide +kernel) (by decide +kernel)
set_option maxRecDepth 20000 in
theorem gX7_term_X7_keep : GoodIn wsX7_term (wsV RX7 94 RX7 yX7_keep wsX7_keep) := goodIn_app (goodIn_of _ (by decide +kernel)) ggX7_term_X7_keep
