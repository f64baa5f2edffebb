theorem dX7_term_0 : decode cX7_term 0 = .ok (.aload_n 0, 1) := by decide +kernel
theorem dX7_term_1 : decode cX7_term 1 = .ok (.iconst 0, 1) := by decide +kernel
theorem dX7_term_2 : decode cX7_term 2 = .ok (.putfield 76, 3) := by decide +kernel
theorem dX7_term_5 : decode cX7_term 5 = .ok (.aload_n 0, 1) := by decide +kernel
theorem dX7_term_6 : decode cX7_term 6 = .ok (.invokevirtual 91, 3) := by decide +kernel
theorem dX7_term_9 : decode cX7_term 9 = .ok (.aload_n 0, 1) := by decide +kernel
theorem dX7_term_10 : decode cX7_term 10 = .ok (.iload_n 1, 1) := by decide +kernel
theorem dX7_term_11 : decode cX7_term 11 = .ok (.invokevirtual 101, 3) := by decide +kernel
theorem dX7_term_14 : decode cX7_term 14 = .ok (.ifCond .eq 13, 3) := by decide +kernel
theorem dX7_term_17 : decode cX7_term 17 = .ok (.aload_n 0, 1) := by decide +kernel
theorem dX7_term_18 : decode cX7_term 18 = .ok (.getfield 7, 3) := by decide +kernel
theorem dX7_term_21 : decode cX7_term 21 = .ok (.iconst 1, 1) := by decide +kernel
theorem dX7_term_22 : decode cX7_term 22 = .ok (.iaload, 1) := by decide +kernel
theorem dX7_term_23 : decode cX7_term 23 = .ok (.iconst 5, 1) := by decide +kernel
theorem dX7_term_24 : decode cX7_term 24 = .ok (.if_icmp .ne 5, 3) := by decide +kernel
theorem dX7_term_27 : decode cX7_term 27 = .ok (.iconst (-1), 1) := by decide +kernel
theorem dX7_term_28 : decode cX7_term 28 = .ok (.ireturn, 1) := by decide +kernel
theorem dX7_term_29 : decode cX7_term 29 = .ok (.iconst 0, 1) := by decide +kernel
theorem dX7_term_30 : decode cX7_term 30 = .ok (.istore_n 2, 1) := by decide +kernel
theorem dX7_term_31 : decode cX7_term 31 = .ok (.iload_n 2, 1) := by decide +kernel
theorem dX7_term_32 : decode cX7_term 32 = .ok (.aload_n 0, 1) := by decide +kernel
theorem dX7_term_33 : decode cX7_term 33 = .ok (.getfield 7, 3) := by decide +kernel
theorem dX7_term_36 : decode cX7_term 36 = .ok (.iconst 1, 1) := by decide +kernel
theorem dX7_term_37 : decode cX7_term 37 = .ok (.iaload, 1) := by decide +kernel
theorem dX7_term_38 : decode cX7_term 38 = .ok (.if_icmp .ge 23, 3) := by decide +kernel
theorem dX7_term_41 : decode cX7_term 41 = .ok (.aload_n 0, 1) := by decide +kernel
theorem dX7_term_42 : decode cX7_term 42 = .ok (.getfield 7, 3) := by decide +kernel
theorem dX7_term_45 : decode cX7_term 45 = .ok (.iconst 2, 1) := by decide +kernel
theorem dX7_term_46 : decode cX7_term 46 = .ok (.iload_n 2, 1) := by decide +kernel
theorem dX7_term_47 : decode cX7_term 47 = .ok (.iadd, 1) := by decide +kernel
theorem dX7_term_48 : decode cX7_term 48 = .ok (.iaload, 1) := by decide +kernel
theorem dX7_term_49 : decode cX7_term 49 = .ok (.iload_n 1, 1) := by decide +kernel
theorem dX7_term_50 : decode cX7_term 50 = .ok (.if_icmp .ne 5, 3) := by decide +kernel
theorem dX7_term_53 : decode cX7_term 53 = .ok (.iconst (-1), 1) := by decide +kernel
theorem dX7_term_54 : decode cX7_term 54 = .ok (.ireturn, 1) := by decide +kernel
theorem dX7_term_55 : decode cX7_term 55 = .ok (.iinc 2 1, 3) := by decide +kernel
theorem dX7_term_58 : decode cX7_term 58 = .ok (.goto (-27), 3) := by decide +kernel
theorem dX7_term_61 : decode cX7_term 61 = .ok (.aload_n 0, 1) := by decide +kernel
theorem dX7_term_62 : decode cX7_term 62 = .ok (.invokevirtual 94, 3) := by decide +kernel
theorem dX7_term_65 : decode cX7_term 65 = .ok (.aload_n 0, 1) := by decide +kernel
theorem dX7_term_66 : decode cX7_term 66 = .ok (.getfield 7, 3) := by decide +kernel
theorem dX7_term_69 : decode cX7_term 69 = .ok (.iconst 2, 1) := by decide +kernel
theorem dX7_term_70 : decode cX7_term 70 = .ok (.aload_n 0, 1) := by decide +kernel
theorem dX7_term_71 : decode cX7_term 71 = .ok (.getfield 7, 3) := by decide +kernel
theorem dX7_term_74 : decode cX7_term 74 = .ok (.iconst 1, 1) := by decide +kernel
theorem dX7_term_75 : decode cX7_term 75 = .ok (.iaload, 1) := by decide +kernel
theorem dX7_term_76 : decode cX7_term 76 = .ok (.iadd, 1) := by decide +kernel
theorem dX7_term_77 : decode cX7_term 77 = .ok (.iload_n 1, 1) := by decide +kernel
theorem dX7_term_78 : decode cX7_term 78 = .ok (.iastore, 1) := by decide +kernel
theorem dX7_term_79 : decode cX7_term 79 = .ok (.aload_n 0, 1) := by decide +kernel
theorem dX7_term_80 : decode cX7_term 80 = .ok (.getfield 7, 3) := by decide +kernel
theorem dX7_term_83 : decode cX7_term 83 = .ok (.iconst 1, 1) := by decide +kernel
theorem dX7_term_84 : decode cX7_term 84 = .ok (.aload_n 0, 1) := by decide +kernel
theorem dX7_term_85 : decode cX7_term 85 = .ok (.getfield 7, 3) := by decide +kernel
theorem dX7_term_88 : decode cX7_term 88 = .ok (.iconst 1, 1) := by decide +kernel
theorem dX7_term_89 : decode cX7_term 89 = .ok (.iaload, 1) := by decide +kernel
theorem dX7_term_90 : decode cX7_term 90 = .ok (.iconst 1, 1) := by decide +kernel
theorem dX7_term_91 : decode cX7_term 91 = .ok (.iadd, 1) := by decide +kernel
theorem dX7_term_92 : decode cX7_term 92 = .ok (.iastore, 1) := by decide +kernel
theorem dX7_term_93 : decode cX7_term 93 = .ok (.aload_n 0, 1) := by decide +kernel
theorem dX7_term_94 : decode cX7_term 94 = .ok (.getfield 7, 3) := by decide +kernel
theorem dX7_term_97 : decode cX7_term 97 = .ok (.iconst 1, 1) := by decide +kernel
theorem dX7_term_98 : decode cX7_term 98 = .ok (.iaload, 1) := by decide +kernel
theorem dX7_term_99 : decode cX7_term 99 = .ok (.ireturn, 1) := by decide +kernel
set_option maxRecDepth 20000 in
theorem ggX7_drop_X7_begins : GoodIn wsX7_drop wsX7_begins := goodIn_r _ [7, 8, 9, 10, 11, 6, 12, 2, 19, 20, 21, 22, 23, 24, 25, 26, 27, 28, 29, 30, 31, 32, 33, 34, 35, 36, 37, 38, 39, 40, 41, 42, 43, 44, 45, 46, 47, 48] (by decide +kernel) (by decide +kernel)
set_option maxRecDepth 20000 in
theorem gX7_drop_X7_begins : GoodIn wsX7_drop (wsV RX7 91 RX7 yX7_begins wsX7_begins) := goodIn_app (goodIn_of _ (by decide +kernel)) ggX7_drop_X7_begins
set_option maxRecDepth 20000 in
theorem ggX7_drop_X7_keep : GoodIn wsX7_drop wsX7_keep := goodIn_r _ [16, 17, 18, 2, 19, 20, 21, 22, 23, 24, 25, 26, 27, 28, 29, 30, 31, 32, 33, 34, 35, 36, 37, 38, 39, 40, 41, 42, 43, 44, 45, 46, 47, 48] (by decide +kernel) (by decide +kernel)
set_option maxRecDepth 20000 in
theorem gX7_drop_X7_keep : GoodIn wsX7_drop (wsV RX7 94 RX7 yX7_keep wsX7_keep) := goodIn_app (goodIn_of _ (by decide +kernel)) ggX7_drop_X7_keep
theorem dX7_drop_0 : decode cX7_drop 0 = .ok (.aload_n 0, 1) := by decide +kernel
theorem dX7_drop_1 : decode cX7_drop 1 = .ok (.iconst 0, 1) := by decide +kernel
theorem dX7_drop_2 : decode cX7_drop 2 = .ok (.putfield 76, 3) := by decide +kernel
theorem dX7_drop_5 : decode cX7_drop 5 = .ok (.aload_n 0, 1) := by decide +kernel
theorem dX7_drop_6 : decode cX7_drop 6 = .ok (.invokevirtual 91, 3) := by decide +kernel
theorem dX7_drop_9 : decode cX7_drop 9 = .ok (.iload_n 1, 1) := by decide +kernel
theorem dX7_drop_10 : decode cX7_drop 10 = .ok (.ifCond .lt 23, 3) := by decide +kernel
theorem dX7_drop_13 : decode cX7_drop 13 = .ok (.iload_n 1, 1) := by decide +kernel
theorem dX7_drop_14 : decode cX7_drop 14 = .ok (.aload_n 0, 1) := by decide +kernel
theorem dX7_drop_15 : decode cX7_drop 15 = .ok (.getfield 7, 3) := by decide +kernel
theorem dX7_drop_18 : decode cX7_drop 18 = .ok (.iconst 1, 1) := by decide +kernel
theorem dX7_drop_19 : decode cX7_drop 19 = .ok (.iaload, 1) := by decide +kernel
theorem dX7_drop_20 : decode cX7_drop 20 = .ok (.if_icmp .ge 13, 3) := by decide +kernel
theorem dX7_drop_23 : decode cX7_drop 23 = .ok (.aload_n 0, 1) := by decide +kernel
theorem dX7_drop_24 : decode cX7_drop 24 = .ok (.getfield 7, 3) := by decide +kernel
theorem dX7_drop_27 : decode cX7_drop 27 = .ok (.iconst 1, 1) := by decide +kernel
theorem dX7_drop_28 : decode cX7_drop 28 = .ok (.iaload, 1) := by decide +kernel
theorem dX7_drop_29 : decode cX7_drop 29 = .ok (.iconst 1, 1) := by decide +kernel
theorem dX7_drop_30 : decode cX7_drop 30 = .ok (.if_icmp .ne 5, 3) := by decide +kernel
theorem dX7_drop_33 : decode cX7_drop 33 = .ok (.iconst 0, 1) := by decide +kernel
theorem dX7_drop_34 : decode cX7_drop 34 = .ok (.ireturn, 1) := by decide +kernel
theorem dX7_drop_35 : decode cX7_drop 35 = .ok (.aload_n 0, 1) := by decide +kernel
theorem dX7_drop_36 : decode cX7_drop 36 = .ok (.invokevirtual 94, 3) := by decide +kernel
theorem dX7_drop_39 : decode cX7_drop 39 = .ok (.iload_n 1, 1) := by decide +kernel
theorem dX7_drop_40 : decode cX7_drop 40 = .ok (.istore_n 2, 1) := by decide +kernel
theorem dX7_drop_41 : decode cX7_drop 41 = .ok (.iload_n 2, 1) := by decide +kernel
theorem dX7_drop_42 : decode cX7_drop 42 = .ok (.iconst 1, 1) := by decide +kernel
theorem dX7_drop_43 : decode cX7_drop 43 = .ok (.iadd, 1) := by decide +kernel
theorem dX7_drop_44 : decode cX7_drop 44 = .ok (.aload_n 0, 1) := by decide +kernel
theorem dX7_drop_45 : decode cX7_drop 45 = .ok (.getfield 7, 3) := by decide +kernel
theorem dX7_drop_48 : decode cX7_drop 48 = .ok (.iconst 1, 1) := by decide +kernel
theorem dX7_drop_49 : decode cX7_drop 49 = .ok (.iaload, 1) := by decide +kernel
theorem dX7_drop_50 : decode cX7_drop 50 = .ok (.if_icmp .ge 27, 3) := by decide +kernel
theorem dX7_drop_53 : decode cX7_drop 53 = .ok (.aload_n 0, 1) := by decide +kernel
theorem dX7_drop_54 : decode cX7_drop 54 = .ok (.getfield 7, 3) := by decide +kernel
theorem dX7_drop_57 : decode cX7_drop 57 = .ok (.iconst 2, 1) := by decide +kernel
theorem dX7_drop_58 : decode cX7_drop 58 = .ok (.iload_n 2, 1) := by decide +kernel
theorem dX7_drop_59 : decode cX7_drop 59 = .ok (.iadd, 1) := by decide +kernel
theorem dX7_drop_60 : decode cX7_drop 60 = .ok (.aload_n 0, 1) := by decide +kernel
theorem dX7_drop_61 : decode cX7_drop 61 = .ok (.getfield 7, 3) := by decide +kernel
theorem dX7_drop_64 : decode cX7_drop 64 = .ok (.iconst 2, 1) := by decide +kernel
theorem dX7_drop_65 : decode cX7_drop 65 = .ok (.iload_n 2, 1) := by decide +kernel
theorem dX7_drop_66 : decode cX7_drop 66 = .ok (.iadd, 1) := by decide +kernel
theorem dX7_drop_67 : decode cX7_drop 67 = .ok (.iconst 1, 1) := by decide +kernel
theorem dX7_drop_68 : decode cX7_drop 68 = .ok (.iadd, 1) := by decide +kernel
theorem dX7_drop_69 : decode cX7_drop 69 = .ok (.iaload, 1) := by decide +kernel
theorem dX7_drop_70 : decode cX7_drop 70 = .ok (.iastore, 1) := by decide +kernel
theorem dX7_drop_71 : decode cX7_drop 71 = .ok (.iinc 2 1, 3) := by decide +kernel
theorem dX7_drop_74 : decode cX7_drop 74 = .ok (.goto (-33), 3) := by decide +kernel
theorem dX7_drop_77 : decode cX7_drop 77 = .ok (.aload_n 0, 1) := by decide +kernel
theorem dX7_drop_78 : decode cX7_drop 78 = .ok (.getfield 7, 3) := by decide +kernel
theorem dX7_drop_81 : decode cX7_drop 81 = .ok (.iconst 1, 1) := by decide +kernel
theorem dX7_drop_82 : decode cX7_drop 82 = .ok (.aload_n 0, 1) := by decide +kernel
theorem dX7_drop_83 : decode cX7_drop 83 = .ok (.getfield 7, 3) := by decide +kernel
theorem dX7_drop_86 : decode cX7_drop 86 = .ok (.iconst 1, 1) := by decide +kernel
theorem dX7_drop_87 : decode cX7_drop 87 = .ok (.iaload, 1) := by decide +kernel
theorem dX7_drop_88 : decode cX7_drop 88 = .ok (.iconst 1, 1) := by decide +kernel
theorem dX7_drop_89 : decode cX7_drop 89 = .ok (.isub, 1) := by decide +kernel
theorem dX7_drop_90 : decode cX7_drop 90 = .ok (.iastore, 1) := by decide +kernel
theorem dX7_drop_91 : decode cX7_drop 91 = .ok (.aload_n 0, 1) := by decide +kernel
theorem dX7_drop_92 : decode cX7_drop 92 = .ok (.getfield 7, 3) := by decide +kernel
theorem dX7_drop_95 : decode cX7_drop 95 = .ok (.iconst 2, 1) := by decide +kernel
theorem dX7_drop_96 : decode cX7_drop 96 = .ok (.aload_n 0, 1) := by decide +kernel
theorem dX7_drop_97 : decode cX7_drop 97 = .ok (.getfield 7, 3) := by decide +kernel
theorem dX7_drop_100 : decode cX7_drop 100 = .ok (.iconst 1, 1) := by decide +kernel
theorem dX7_drop_101 : decode cX7_drop 101 = .ok (.iaload, 1) := by decide +kernel
theorem dX7_drop_102 : decode cX7_drop 102 = .ok (.iadd, 1) := by decide +kernel
theorem dX7_drop_103 : decode cX7_drop 103 = .ok (.iconst 0, 1) := by decide +kernel
theorem dX7_drop_104 : decode cX7_drop 104 = .ok (.iastore, 1) := by decide +kernel
theorem dX7_drop_105 : decode cX7_drop 105 = .ok (.iconst 1, 1) := by decide +kernel
theorem dX7_drop_106 : decode cX7_drop 106 = .ok (.ireturn, 1) := by decide +kernel
theorem dX7_trials_0 : decode cX7_trials 0 = .ok (.iconst 0, 1) := by decide +kernel
theorem dX7_trials_1 : decode cX7_trials 1 = .ok (.istore_n 1, 1) := by decide +kernel
theorem dX7_trials_2 : decode cX7_trials 2 = .ok (.iconst 0, 1) := by decide +kernel
theorem dX7_trials_3 : decode cX7_trials 3 = .ok (.istore_n 2, 1) := by decide +kernel
theorem dX7_trials_4 : decode cX7_trials 4 = .ok (.iload_n 2, 1) := by decide +kernel
theorem dX7_trials_5 : decode cX7_trials 5 = .ok (.bipush 64, 2) := by decide +kernel
theorem dX7_trials_7 : decode cX7_trials 7 = .ok (.if_icmp .ge 21, 3) := by decide +kernel
theorem dX7_trials_10 : decode cX7_trials 10 = .ok (.iload_n 1, 1) := by decide +kernel
theorem dX7_trials_11 : decode cX7_trials 11 = .ok (.aload_n 0, 1) := by decide +kernel
theorem dX7_trials_12 : decode cX7_trials 12 = .ok (.getfield 7, 3) := by decide +kernel
theorem dX7_trials_15 : decode cX7_trials 15 = .ok (.bipush 7, 2) := by decide +kernel
theorem dX7_trials_17 : decode cX7_trials 17 = .ok (.iload_n 2, 1) := by decide +kernel
theorem dX7_trials_18 : decode cX7_trials 18 = .ok (.iadd, 1) := by decide +kernel
theorem dX7_trials_19 : decode cX7_trials 19 = .ok (.iaload, 1) := by decide +kernel
theorem dX7_trials_20 : decode cX7_trials 20 = .ok (.iadd, 1) := by decide +kernel
theorem dX7_trials_21 : decode cX7_trials 21 = .ok (.istore_n 1, 1) := by decide +kernel
theorem dX7_trials_22 : decode cX7_trials 22 = .ok (.iinc 2 1, 3) := by decide +kernel
theorem dX7_trials_25 : decode cX7_trials 25 = .ok (.goto (-21), 3) := by decide +kernel
theorem dX7_trials_28 : decode cX7_trials 28 = .ok (.iload_n 1, 1) := by decide +kernel
theorem dX7_trials_29 : decode cX7_trials 29 = .ok (.ireturn, 1) := by decide +kernel
set_option maxRecDepth 20000 in
theorem ggX7_plan_X7_begins : GoodIn wsX7_plan wsX7_begins := goodIn_r _ [7, 8, 9, 10, 11, 6, 12, 2, 31, 32, 33, 34, 35, 36, 37, 38, 39, 40, 41, 42, 43, 44, 45, 46, 47, 48, 49, 50, 51, 52, 53, 54, 55, 56, 57, 58, 59, 60] (by decide +kernel) (by decide +kernel)
set_option maxRecDepth 20000 in
theorem gX7_plan_X7_begins : GoodIn wsX7_plan (wsV RX7 91 RX7 yX7_begins wsX7_begins) := goodIn_app (goodIn_of _ (by decide +kernel)) ggX7_plan_X7_begins
set_option maxRecDepth 20000 in
theorem ggX7_plan_X7_isSetting : GoodIn wsX7_plan wsX7_isSetting := goodIn_r _ [16, 17, 18, 19, 6, 20, 2, 31, 32, 33, 34, 35, 36, 37, 38, 39, 40, 41, 42, 43, 44, 45, 46, 47, 48, 49, 50, 51, 52, 53, 54, 55, 56, 57, 58, 59, 60] (by decide +kernel) (by decide +kernel)
set_option maxRecDepth 20000 in
theorem gX7_plan_X7_isSetting : GoodIn wsX7_plan (wsV RX7 101 RX7 yX7_isSetting wsX7_isSetting) := goodIn_app (goodIn_of _ (by decide +kernel)) ggX7_plan_X7_isSetting
set_option maxRecDepth 20000 in
theorem ggX7_plan_X7_trials : GoodIn wsX7_plan wsX7_trials := goodIn_r _ [24, 2, 31, 32, 33, 34, 35, 36, 37, 38, 39, 40, 41, 42, 43, 44, 45, 46, 47, 48, 49, 50, 51, 52, 53, 54, 55, 56, 57, 58, 59, 60] (by decide +kernel) (by decide +kernel)
set_option maxRecDepth 20000 in
theorem gX7_plan_X7_trials : GoodIn wsX7_plan (wsV RX7 105 RX7 yX7_trials wsX7_trials) := goodIn_app (goodIn_of _ (by decide +kernel)) ggX7_plan_X7_trials
set_option maxRecDepth 20000 in
theorem ggX7_plan_X7_keep : GoodIn wsX7_plan wsX7_keep := goodIn_r _ [28, 29, 30, 2, 31, 32, 33, 34, 35, 36, 37, 38, 39, 40, 41, 42, 43, 44, 45, 46, 47, 48, 49, 50, 51, 52, 53, 54, 55, 56, 57, 58, 59, 60] (by decide +kernel) (by decide +kernel)
set_option maxRecDepth 20000 in
theorem gX7_plan_X7_keep : GoodIn wsX7_plan (wsV RX7 94 RX7 yX7_keep wsX7_keep) := goodIn_app (goodIn_of _ (by decide +kernel)) ggX7_plan_X7_keep
theorem dX7_plan_0 : decode cX7_plan 0 = .ok (.aload_n 0, 1) := by decide +kernel
theorem dX7_plan_1 : decode cX7_plan 1 = .ok (.iconst 0, 1) := by decide +kernel
theorem dX7_plan_2 : decode cX7_plan 2 = .ok (.putfield 76, 3) := by decide +kernel
theorem dX7_plan_5 : decode cX7_plan 5 = .ok (.aload_n 0, 1) := by decide +kernel
theorem dX7_plan_6 : decode cX7_plan 6 = .ok (.invokevirtual 91, 3) := by decide +kernel
theorem dX7_plan_9 : decode cX7_plan 9 = .ok (.aload_n 0, 1) := by decide +kernel
theorem dX7_plan_10 : decode cX7_plan 10 = .ok (.iload_n 1, 1) := by decide +kernel
theorem dX7_plan_11 : decode cX7_plan 11 = .ok (.invokevirtual 101, 3) := by decide +kernel
theorem dX7_plan_14 : decode cX7_plan 14 = .ok (.ifCond .eq 34, 3) := by decide +kernel
theorem dX7_plan_17 : decode cX7_plan 17 = .ok (.iload_n 2, 1) := by decide +kernel
theorem dX7_plan_18 : decode cX7_plan 18 = .ok (.ifCond .lt 30, 3) := by decide +kernel
theorem dX7_plan_21 : decode cX7_plan 21 = .ok (.iload_n 2, 1) := by decide +kernel
theorem dX7_plan_22 : decode cX7_plan 22 = .ok (.bipush 9, 2) := by decide +kernel
theorem dX7_plan_24 : decode cX7_plan 24 = .ok (.if_icmp .gt 24, 3) := by decide +kernel
theorem dX7_plan_27 : decode cX7_plan 27 = .ok (.aload_n 0, 1) := by decide +kernel
theorem dX7_plan_28 : decode cX7_plan 28 = .ok (.invokevirtual 105, 3) := by decide +kernel
theorem dX7_plan_31 : decode cX7_plan 31 = .ok (.aload_n 0, 1) := by decide +kernel
theorem dX7_plan_32 : decode cX7_plan 32 = .ok (.getfield 7, 3) := by decide +kernel
theorem dX7_plan_35 : decode cX7_plan 35 = .ok (.bipush 7, 2) := by decide +kernel
theorem dX7_plan_37 : decode cX7_plan 37 = .ok (.iload_n 1, 1) := by decide +kernel
theorem dX7_plan_38 : decode cX7_plan 38 = .ok (.iadd, 1) := by decide +kernel
theorem dX7_plan_39 : decode cX7_plan 39 = .ok (.iaload, 1) := by decide +kernel
theorem dX7_plan_40 : decode cX7_plan 40 = .ok (.isub, 1) := by decide +kernel
theorem dX7_plan_41 : decode cX7_plan 41 = .ok (.iload_n 2, 1) := by decide +kernel
theorem dX7_plan_42 : decode cX7_plan 42 = .ok (.iadd, 1) := by decide +kernel
theorem dX7_plan_43 : decode cX7_plan 43 = .ok (.bipush 40, 2) := by decide +kernel
theorem dX7_plan_45 : decode cX7_plan 45 = .ok (.if_icmp .le 5, 3) := by decide +kernel
theorem dX7_plan_48 : decode cX7_plan 48 = .ok (.iconst 0, 1) := by decide +kernel
theorem dX7_plan_49 : decode cX7_plan 49 = .ok (.ireturn, 1) := by decide +kernel
theorem dX7_plan_50 : decode cX7_plan 50 = .ok (.aload_n 0, 1) := by decide +kernel
theorem dX7_plan_51 : decode cX7_plan 51 = .ok (.invokevirtual 94, 3) := by decide +kernel
theorem dX7_plan_54 : decode cX7_plan 54 = .ok (.aload_n 0, 1) := by decide +kernel
theorem dX7_plan_55 : decode cX7_plan 55 = .ok (.getfield 7, 3) := by decide +kernel
theorem dX7_plan_58 : decode cX7_plan 58 = .ok (.bipush 7, 2) := by decide +kernel
theorem dX7_plan_60 : decode cX7_plan 60 = .ok (.iload_n 1, 1) := by decide +kernel
theorem dX7_plan_61 : decode cX7_plan 61 = .ok (.iadd, 1) := by decide +kernel
theorem dX7_plan_62 : decode cX7_plan 62 = .ok (.iload_n 2, 1) := by decide +kernel
theorem dX7_plan_63 : decode cX7_plan 63 = .ok (.iastore, 1) := by decide +kernel
theorem dX7_plan_64 : decode cX7_plan 64 = .ok (.iconst 1, 1) := by decide +kernel
theorem dX7_plan_65 : decode cX7_plan 65 = .ok (.ireturn, 1) := by decide +kernel
set_option maxRecDepth 20000 in
theorem ggX7_clear_X7_begins : GoodIn wsX7_clear wsX7_begins := goodIn_r _ [7, 8, 9, 10, 11, 6, 12, 2, 19, 20, 21, 22, 23, 24, 25, 26, 27, 28, 29, 30, 31, 32, 33, 34, 35, 36, 37, 38, 39, 40, 41, 42, 43, 44, 45, 46, 47, 48] (by decide +kernel) (by decide +kernel)
set_option maxRecDepth 20000 in
theorem gX7_clear_X7_begins : GoodIn wsX7_clear (wsV RX7 91 RX7 yX7_begins wsX7_begins) := goodIn_app (goodIn_of _ (by decide +kernel)) ggX7_clear_X7_begins
set_option maxRecDepth 20000 in
theorem ggX7_clear_X7_keep : GoodIn wsX7_clear wsX7_keep := goodIn_r _ [16, 17, 18, 2, 19, 20, 21, 22, 23, 24, 25, 26, 27, 28, 29, 30, 31, 32, 33, 34, 35, 36, 37, 38, 39, 40, 41, 42, 43, 44, 45, 46, 47, 48] (by decide +kernel) (by decide +kernel)
set_option maxRecDepth 20000 in
theorem gX7_clear_X7_keep : GoodIn wsX7_clear (wsV RX7 94 RX7 yX7_keep wsX7_keep) := goodIn_app (goodIn_of _ (by decide +kernel)) ggX7_clear_X7_keep
theorem dX7_clear_0 : decode cX7_clear 0 = .ok (.aload_n 0, 1) := by decide +kernel
theorem dX7_clear_1 : decode cX7_clear 1 = .ok (.iconst 0, 1) := by decide +kernel
theorem dX7_clear_2 : decode cX7_clear 2 = .ok (.putfield 76, 3) := by decide +kernel
theorem dX7_clear_5 : decode cX7_clear 5 = .ok (.aload_n 0, 1) := by decide +kernel
theorem dX7_clear_6 : decode cX7_clear 6 = .ok (.invokevirtual 91, 3) := by decide +kernel
theorem dX7_clear_9 : decode cX7_clear 9 = .ok (.aload_n 0, 1) := by decide +kernel
theorem dX7_clear_10 : decode cX7_clear 10 = .ok (.invokevirtual 94, 3) := by decide +kernel
theorem dX7_clear_13 : decode cX7_clear 13 = .ok (.iconst 0, 1) := by decide +kernel
theorem dX7_clear_14 : decode cX7_clear 14 = .ok (.istore_n 1, 1) := by decide +kernel
theorem dX7_clear_15 : decode cX7_clear 15 = .ok (.iload_n 1, 1) := by decide +kernel
theorem dX7_clear_16 : decode cX7_clear 16 = .ok (.bipush 64, 2) := by decide +kernel
theorem dX7_clear_18 : decode cX7_clear 18 = .ok (.if_icmp .ge 19, 3) := by decide +kernel
theorem dX7_clear_21 : decode cX7_clear 21 = .ok (.aload_n 0, 1) := by decide +kernel
theorem dX7_clear_22 : decode cX7_clear 22 = .ok (.getfield 7, 3) := by decide +kernel
theorem dX7_clear_25 : decode cX7_clear 25 = .ok (.bipush 7, 2) := by decide +kernel
theorem dX7_clear_27 : decode cX7_clear 27 = .ok (.iload_n 1, 1) := by decide +kernel
theorem dX7_clear_28 : decode cX7_clear 28 = .ok (.iadd, 1) := by decide +kernel
theorem dX7_clear_29 : decode cX7_clear 29 = .ok (.iconst 0, 1) := by decide +kernel
theorem dX7_clear_30 : decode cX7_clear 30 = .ok (.iastore, 1) := by decide +kernel
theorem dX7_clear_31 : decode cX7_clear 31 = .ok (.iinc 1 1, 3) := by decide +kernel
theorem dX7_clear_34 : decode cX7_clear 34 = .ok (.goto (-19), 3) := by decide +kernel
theorem dX7_clear_37 : decode cX7_clear 37 = .ok (.return_, 1) := by decide +kernel
theorem dX7_ones_0 : decode cX7_ones 0 = .ok (.iconst 0, 1) := by decide +kernel
theorem dX7_ones_1 : decode cX7_ones 1 = .ok (.istore_n 2, 1) := by decide +kernel
theorem dX7_ones_2 : decode cX7_ones 2 = .ok (.iload_n 1, 1) := by decide +kernel
theorem dX7_ones_3 : decode cX7_ones 3 = .ok (.istore_n 3, 1) := by decide +kernel
theorem dX7_ones_4 : decode cX7_ones 4 = .ok (.iload_n 3, 1) := by decide +kernel
theorem dX7_ones_5 : decode cX7_ones 5 = .ok (.ifCond .eq 16, 3) := by decide +kernel
theorem dX7_ones_8 : decode cX7_ones 8 = .ok (.iload_n 2, 1) := by decide +kernel
theorem dX7_ones_9 : decode cX7_ones 9 = .ok (.iconst 1, 1) := by decide +kernel
theorem dX7_ones_10 : decode cX7_ones 10 = .ok (.iadd, 1) := by decide +kernel
theorem dX7_ones_11 : decode cX7_ones 11 = .ok (.istore_n 2, 1) := by decide +kernel
theorem dX7_ones_12 : decode cX7_ones 12 = .ok (.iload_n 3, 1) := by decide +kernel
theorem dX7_ones_13 : decode cX7_ones 13 = .ok (.iload_n 3, 1) := by decide +kernel
theorem dX7_ones_14 : decode cX7_ones 14 = .ok (.iconst 1, 1) := by decide +kernel
theorem dX7_ones_15 : decode cX7_ones 15 = .ok (.isub, 1) := by decide +kernel
theorem dX7_ones_16 : decode cX7_ones 16 = .ok (.iand, 1) := by decide +kernel
theorem dX7_ones_17 : decode cX7_ones 17 = .ok (.istore_n 3, 1) := by decide +kernel
theorem dX7_ones_18 : decode cX7_ones 18 = .ok (.goto (-14), 3) := by decide +kernel
theorem dX7_ones_21 : decode cX7_ones 21 = .ok (.iload_n 2, 1) := by decide +kernel
theorem dX7_ones_22 : decode cX7_ones 22 = .ok (.ireturn, 1) := by decide +kernel
set_option maxRecDepth 20000 in
theorem ggX7_markOf_X7_ones : GoodIn wsX7_markOf wsX7_ones := goodIn_r _ [5] (by decide +kernel) (by decide +kernel)
set_option maxRecDepth 20000 in
theorem gX7_markOf_X7_ones : GoodIn wsX7_markOf (wsV RX7 108 RX7 yX7_ones wsX7_ones) := goodIn_app (goodIn_of _ (by decide +kernel)) ggX7_markOf_X7_ones
theorem dX7_markOf_0 : decode cX7_markOf 0 = .ok (.aload_n 0, 1) := by decide +kernel
theorem dX7_markOf_1 : decode cX7_markOf 1 = .ok (.iload_n 1, 1) := by decide +kernel
theorem dX7_markOf_2 : decode cX7_markOf 2 = .ok (.iload_n 2, 1) := by decide +kernel
theorem dX7_markOf_3 : decode cX7_markOf 3 = .ok (.iconst (-1), 1) := by decide +kernel
theorem dX7_markOf_4 : decode cX7_markOf 4 = .ok (.ixor, 1) := by decide +kernel
theorem dX7_markOf_5 : decode cX7_markOf 5 = .ok (.iand, 1) := by decide +kernel
theorem dX7_markOf_6 : decode cX7_markOf 6 = .ok (.invokevirtual 108, 3) := by decide +kernel
theorem dX7_markOf_9 : decode cX7_markOf 9 = .ok (.iconst 2, 1) := by decide +kernel
theorem dX7_markOf_10 : decode cX7_markOf 10 = .ok (.irem, 1) := by decide +kernel
theorem dX7_markOf_11 : decode cX7_markOf 11 = .ok (.ifCond .ne 7, 3) := by decide +kernel
theorem dX7_markOf_14 : decode cX7_markOf 14 = .ok (.iconst 1, 1) := by decide +kernel
theorem dX7_markOf_15 : decode cX7_markOf 15 = .ok (.goto 4, 3) := by decide +kernel
theorem dX7_markOf_18 : decode cX7_markOf 18 = .ok (.iconst (-1), 1) := by decide +kernel
theorem dX7_markOf_19 : decode cX7_markOf 19 = .ok (.ireturn, 1) := by decide +kernel
set_option maxRecDepth 20000 in
theorem ggX7_mark_X7_begins : GoodIn wsX7_mark wsX7_begins := goodIn_r _ [6, 7, 8, 9, 10, 5, 11, 12, 29, 30, 31, 32, 33, 34, 35, 36, 37, 38, 39, 40, 41, 42, 43, 44, 45, 46, 47, 48, 49, 50, 51, 52, 53, 54, 55, 56, 57, 58] (by decide +kernel) (by decide +kernel)
set_option maxRecDepth 20000 in
theorem gX7_mark_X7_begins : GoodIn wsX7_mark (wsV RX7 91 RX7 yX7_begins wsX7_begins) := goodIn_app (goodIn_of _ (by decide +kernel)) ggX7_mark_X7_begins
set_option maxRecDepth 20000 in
theorem ggX7_mark_X7_isSetting : GoodIn wsX7_mark wsX7_isSetting := goodIn_r _ [16, 17, 18, 19, 5, 20, 12, 29, 30, 31, 32, 33, 34, 35, 36, 37, 38, 39, 40, 41, 42, 43, 44, 45, 46, 47, 48, 49, 50, 51, 52, 53, 54, 55, 56, 57, 58] (by decide +kernel) (by decide +kernel)
set_option maxRecDepth 20000 in
theorem gX7_mark_X7_isSetting : GoodIn wsX7_mark (wsV RX7 101 RX7 yX7_isSetting wsX7_isSetting) := goodIn_app (goodIn_of _ (by decide +kernel)) ggX7_mark_X7_isSetting
set_option maxRecDepth 20000 in
theorem ggX7_mark_X7_markOf : GoodIn wsX7_mark wsX7_markOf := goodIn_r _ [24, 25, 26, 27, 5, 28] (by decide +kernel) (by decide +kernel)
set_option maxRecDepth 20000 in
theorem gX7_mark_X7_markOf : GoodIn wsX7_mark (wsV RX7 112 RX7 yX7_markOf wsX7_markOf) := goodIn_app (goodIn_of _ (by decide +kernel)) ggX7_mark_X7_markOf
theorem dX7_mark_0 : decode cX7_mark 0 = .ok (.aload_n 0, 1) := by decide +kernel
theorem dX7_mark_1 : decode cX7_mark 1 = .ok (.iconst 0, 1) := by decide +kernel
theorem dX7_mark_2 : decode cX7_mark 2 = .ok (.putfield 76, 3) := by decide +kernel
theorem dX7_mark_5 : decode cX7_mark 5 = .ok (.aload_n 0, 1) := by decide +kernel
theorem dX7_mark_6 : decode cX7_mark 6 = .ok (.invokevirtual 91, 3) := by decide +kernel
theorem dX7_mark_9 : decode cX7_mark 9 = .ok (.aload_n 0, 1) := by decide +kernel
theorem dX7_mark_10 : decode cX7_mark 10 = .ok (.iload_n 1, 1) := by decide +kernel
theorem dX7_mark_11 : decode cX7_mark 11 = .ok (.invokevirtual 101, 3) := by decide +kernel
theorem dX7_mark_14 : decode cX7_mark 14 = .ok (.ifCond .eq 20, 3) := by decide +kernel
theorem dX7_mark_17 : decode cX7_mark 17 = .ok (.aload_n 0, 1) := by decide +kernel
theorem dX7_mark_18 : decode cX7_mark 18 = .ok (.iload_n 2, 1) := by decide +kernel
theorem dX7_mark_19 : decode cX7_mark 19 = .ok (.invokevirtual 101, 3) := by decide +kernel
theorem dX7_mark_22 : decode cX7_mark 22 = .ok (.ifCond .eq 12, 3) := by decide +kernel
theorem dX7_mark_25 : decode cX7_mark 25 = .ok (.aload_n 0, 1) := by decide +kernel
theorem dX7_mark_26 : decode cX7_mark 26 = .ok (.iload_n 1, 1) := by decide +kernel
theorem dX7_mark_27 : decode cX7_mark 27 = .ok (.iload_n 2, 1) := by decide +kernel
theorem dX7_mark_28 : decode cX7_mark 28 = .ok (.invokevirtual 112, 3) := by decide +kernel
theorem dX7_mark_31 : decode cX7_mark 31 = .ok (.goto 4, 3) := by decide +kernel
theorem dX7_mark_34 : decode cX7_mark 34 = .ok (.iconst 0, 1) := by decide +kernel
theorem dX7_mark_35 : decode cX7_mark 35 = .ok (.ireturn, 1) := by decide +kernel
set_option maxRecDepth 20000 in
theorem ggX7_tables_X7_settings : GoodIn wsX7_tables wsX7_settings := goodIn_r _ [7, 2, 16, 17, 18, 19, 20, 21, 22, 23, 24, 25, 26, 27, 28, 29, 30, 31, 32, 33, 34, 35, 36, 37, 38, 39, 40, 41, 42, 43, 44, 45] (by decide +kernel) (by decide +kernel)
set_option maxRecDepth 20000 in
theorem gX7_tables_X7_settings : GoodIn wsX7_tables (wsV RX7 97 RX7 yX7_settings wsX7_settings) := goodIn_app (goodIn_of _ (by decide +kernel)) ggX7_tables_X7_settings
set_option maxRecDepth 20000 in
theorem ggX7_tables_X7_markOf : GoodIn wsX7_tables wsX7_markOf := goodIn_r _ [11, 12, 13, 14, 6, 15] (by decide +kernel) (by decide +kernel)
set_option maxRecDepth 20000 in
theorem gX7_tables_X7_markOf : GoodIn wsX7_tables (wsV RX7 112 RX7 yX7_markOf wsX7_markOf) := goodIn_app (goodIn_of _ (by decide +kernel)) ggX7_tables_X7_markOf
theorem dX7_tables_0 : decode cX7_tables 0 = .ok (.iconst 0, 1) := by decide +kernel
theorem dX7_tables_1 : decode cX7_tables 1 = .ok (.istore_n 2, 1) := by decide +kernel
theorem dX7_tables_2 : decode cX7_tables 2 = .ok (.iload_n 2, 1) := by decide +kernel
theorem dX7_tables_3 : decode cX7_tables 3 = .ok (.bipush 36, 2) := by decide +kernel
theorem dX7_tables_5 : decode cX7_tables 5 = .ok (.if_icmp .ge 16, 3) := by decide +kernel
theorem dX7_tables_8 : decode cX7_tables 8 = .ok (.aload_n 0, 1) := by decide +kernel
theorem dX7_tables_9 : decode cX7_tables 9 = .ok (.getfield 16, 3) := by decide +kernel
theorem dX7_tables_12 : decode cX7_tables 12 = .ok (.iload_n 2, 1) := by decide +kernel
theorem dX7_tables_13 : decode cX7_tables 13 = .ok (.lconst 0, 1) := by decide +kernel
theorem dX7_tables_14 : decode cX7_tables 14 = .ok (.lastore, 1) := by decide +kernel
theorem dX7_tables_15 : decode cX7_tables 15 = .ok (.iinc 2 1, 3) := by decide +kernel
theorem dX7_tables_18 : decode cX7_tables 18 = .ok (.goto (-16), 3) := by decide +kernel
theorem dX7_tables_21 : decode cX7_tables 21 = .ok (.iload_n 1, 1) := by decide +kernel
theorem dX7_tables_22 : decode cX7_tables 22 = .ok (.ifCond .eq 13, 3) := by decide +kernel
theorem dX7_tables_25 : decode cX7_tables 25 = .ok (.aload_n 0, 1) := by decide +kernel
theorem dX7_tables_26 : decode cX7_tables 26 = .ok (.getfield 7, 3) := by decide +kernel
theorem dX7_tables_29 : decode cX7_tables 29 = .ok (.bipush 79, 2) := by decide +kernel
theorem dX7_tables_31 : decode cX7_tables 31 = .ok (.iaload, 1) := by decide +kernel
theorem dX7_tables_32 : decode cX7_tables 32 = .ok (.goto 7, 3) := by decide +kernel
theorem dX7_tables_35 : decode cX7_tables 35 = .ok (.aload_n 0, 1) := by decide +kernel
theorem dX7_tables_36 : decode cX7_tables 36 = .ok (.invokevirtual 97, 3) := by decide +kernel
theorem dX7_tables_39 : decode cX7_tables 39 = .ok (.istore_n 2, 1) := by decide +kernel
theorem dX7_tables_40 : decode cX7_tables 40 = .ok (.iconst 0, 1) := by decide +kernel
theorem dX7_tables_41 : decode cX7_tables 41 = .ok (.istore_n 3, 1) := by decide +kernel
theorem dX7_tables_42 : decode cX7_tables 42 = .ok (.iload_n 3, 1) := by decide +kernel
theorem dX7_tables_43 : decode cX7_tables 43 = .ok (.iload_n 2, 1) := by decide +kernel
theorem dX7_tables_44 : decode cX7_tables 44 = .ok (.if_icmp .ge 157, 3) := by decide +kernel
theorem dX7_tables_47 : decode cX7_tables 47 = .ok (.iload_n 1, 1) := by decide +kernel
theorem dX7_tables_48 : decode cX7_tables 48 = .ok (.ifCond .eq 15, 3) := by decide +kernel
theorem dX7_tables_51 : decode cX7_tables 51 = .ok (.aload_n 0, 1) := by decide +kernel
theorem dX7_tables_52 : decode cX7_tables 52 = .ok (.getfield 7, 3) := by decide +kernel
theorem dX7_tables_55 : decode cX7_tables 55 = .ok (.bipush 80, 2) := by decide +kernel
theorem dX7_tables_57 : decode cX7_tables 57 = .ok (.iload_n 3, 1) := by decide +kernel
theorem dX7_tables_58 : decode cX7_tables 58 = .ok (.iadd, 1) := by decide +kernel
theorem dX7_tables_59 : decode cX7_tables 59 = .ok (.iaload, 1) := by decide +kernel
theorem dX7_tables_60 : decode cX7_tables 60 = .ok (.goto 4, 3) := by decide +kernel
theorem dX7_tables_63 : decode cX7_tables 63 = .ok (.iload_n 3, 1) := by decide +kernel
theorem dX7_tables_64 : decode cX7_tables 64 = .ok (.istore 4, 2) := by decide +kernel
theorem dX7_tables_66 : decode cX7_tables 66 = .ok (.iload_n 1, 1) := by decide +kernel
theorem dX7_tables_67 : decode cX7_tables 67 = .ok (.ifCond .eq 7, 3) := by decide +kernel
theorem dX7_tables_70 : decode cX7_tables 70 = .ok (.iconst 1, 1) := by decide +kernel
theorem dX7_tables_71 : decode cX7_tables 71 = .ok (.goto 12, 3) := by decide +kernel
theorem dX7_tables_74 : decode cX7_tables 74 = .ok (.aload_n 0, 1) := by decide +kernel
theorem dX7_tables_75 : decode cX7_tables 75 = .ok (.getfield 7, 3) := by decide +kernel
theorem dX7_tables_78 : decode cX7_tables 78 = .ok (.bipush 7, 2) := by decide +kernel
theorem dX7_tables_80 : decode cX7_tables 80 = .ok (.iload_n 3, 1) := by decide +kernel
theorem dX7_tables_81 : decode cX7_tables 81 = .ok (.iadd, 1) := by decide +kernel
theorem dX7_tables_82 : decode cX7_tables 82 = .ok (.iaload, 1) := by decide +kernel
theorem dX7_tables_83 : decode cX7_tables 83 = .ok (.istore 5, 2) := by decide +kernel
theorem dX7_tables_85 : decode cX7_tables 85 = .ok (.iload 5, 2) := by decide +kernel
theorem dX7_tables_87 : decode cX7_tables 87 = .ok (.ifCond .ne 6, 3) := by decide +kernel
theorem dX7_tables_90 : decode cX7_tables 90 = .ok (.goto 105, 3) := by decide +kernel
theorem dX7_tables_93 : decode cX7_tables 93 = .ok (.iconst 0, 1) := by decide +kernel
theorem dX7_tables_94 : decode cX7_tables 94 = .ok (.istore 6, 2) := by decide +kernel
theorem dX7_tables_96 : decode cX7_tables 96 = .ok (.iload 6, 2) := by decide +kernel
theorem dX7_tables_98 : decode cX7_tables 98 = .ok (.aload_n 0, 1) := by decide +kernel
theorem dX7_tables_99 : decode cX7_tables 99 = .ok (.getfield 7, 3) := by decide +kernel
theorem dX7_tables_102 : decode cX7_tables 102 = .ok (.iconst 1, 1) := by decide +kernel
theorem dX7_tables_103 : decode cX7_tables 103 = .ok (.iaload, 1) := by decide +kernel
theorem dX7_tables_104 : decode cX7_tables 104 = .ok (.if_icmp .ge 91, 3) := by decide +kernel
theorem dX7_tables_107 : decode cX7_tables 107 = .ok (.iconst 0, 1) := by decide +kernel
theorem dX7_tables_108 : decode cX7_tables 108 = .ok (.istore 7, 2) := by decide +kernel
theorem dX7_tables_110 : decode cX7_tables 110 = .ok (.iload 7, 2) := by decide +kernel
theorem dX7_tables_112 : decode cX7_tables 112 = .ok (.aload_n 0, 1) := by decide +kernel
theorem dX7_tables_113 : decode cX7_tables 113 = .ok (.getfield 7, 3) := by decide +kernel
theorem dX7_tables_116 : decode cX7_tables 116 = .ok (.iconst 1, 1) := by decide +kernel
theorem dX7_tables_117 : decode cX7_tables 117 = .ok (.iaload, 1) := by decide +kernel
theorem dX7_tables_118 : decode cX7_tables 118 = .ok (.if_icmp .ge 71, 3) := by decide +kernel
theorem dX7_tables_121 : decode cX7_tables 121 = .ok (.aload_n 0, 1) := by decide +kernel
theorem dX7_tables_122 : decode cX7_tables 122 = .ok (.getfield 16, 3) := by decide +kernel
theorem dX7_tables_125 : decode cX7_tables 125 = .ok (.bipush 6, 2) := by decide +kernel
theorem dX7_tables_127 : decode cX7_tables 127 = .ok (.iload 6, 2) := by decide +kernel
theorem dX7_tables_129 : decode cX7_tables 129 = .ok (.imul, 1) := by decide +kernel
theorem dX7_tables_130 : decode cX7_tables 130 = .ok (.iload 7, 2) := by decide +kernel
theorem dX7_tables_132 : decode cX7_tables 132 = .ok (.iadd, 1) := by decide +kernel
theorem dX7_tables_133 : decode cX7_tables 133 = .ok (.aload_n 0, 1) := by decide +kernel
theorem dX7_tables_134 : decode cX7_tables 134 = .ok (.getfield 16, 3) := by decide +kernel
theorem dX7_tables_137 : decode cX7_tables 137 = .ok (.bipush 6, 2) := by decide +kernel
theorem dX7_tables_139 : decode cX7_tables 139 = .ok (.iload 6, 2) := by decide +kernel
theorem dX7_tables_141 : decode cX7_tables 141 = .ok (.imul, 1) := by decide +kernel
theorem dX7_tables_142 : decode cX7_tables 142 = .ok (.iload 7, 2) := by decide +kernel
theorem dX7_tables_144 : decode cX7_tables 144 = .ok (.iadd, 1) := by decide +kernel
theorem dX7_tables_145 : decode cX7_tables 145 = .ok (.laload, 1) := by decide +kernel
theorem dX7_tables_146 : decode cX7_tables 146 = .ok (.iload 5, 2) := by decide +kernel
theorem dX7_tables_148 : decode cX7_tables 148 = .ok (.aload_n 0, 1) := by decide +kernel
theorem dX7_tables_149 : decode cX7_tables 149 = .ok (.aload_n 0, 1) := by decide +kernel
theorem dX7_tables_150 : decode cX7_tables 150 = .ok (.getfield 7, 3) := by decide +kernel
theorem dX7_tables_153 : decode cX7_tables 153 = .ok (.iconst 2, 1) := by decide +kernel
theorem dX7_tables_154 : decode cX7_tables 154 = .ok (.iload 6, 2) := by decide +kernel
theorem dX7_tables_156 : decode cX7_tables 156 = .ok (.iadd, 1) := by decide +kernel
theorem dX7_tables_157 : decode cX7_tables 157 = .ok (.iaload, 1) := by decide +kernel
theorem dX7_tables_158 : decode cX7_tables 158 = .ok (.iload 4, 2) := by decide +kernel
theorem dX7_tables_160 : decode cX7_tables 160 = .ok (.invokevirtual 112, 3) := by decide +kernel
theorem dX7_tables_163 : decode cX7_tables 163 = .ok (.imul, 1) := by decide +kernel
theorem dX7_tables_164 : decode cX7_tables 164 = .ok (.aload_n 0, 1) := by decide +kernel
theorem dX7_tables_165 : decode cX7_tables 165 = .ok (.aload_n 0, 1) := by decide +kernel
theorem dX7_tables_166 : decode cX7_tables 166 = .ok (.getfield 7, 3) := by decide +kernel
theorem dX7_tables_169 : decode cX7_tables 169 = .ok (.iconst 2, 1) := by decide +kernel
theorem dX7_tables_170 : decode cX7_tables 170 = .ok (.iload 7, 2) := by decide +kernel
theorem dX7_tables_172 : decode cX7_tables 172 = .ok (.iadd, 1) := by decide +kernel
theorem dX7_tables_173 : decode cX7_tables 173 = .ok (.iaload, 1) := by decide +kernel
theorem dX7_tables_174 : decode cX7_tables 174 = .ok (.iload 4, 2) := by decide +kernel
theorem dX7_tables_176 : decode cX7_tables 176 = .ok (.invokevirtual 112, 3) := by decide +kernel
theorem dX7_tables_179 : decode cX7_tables 179 = .ok (.imul, 1) := by decide +kernel
theorem dX7_tables_180 : decode cX7_tables 180 = .ok (.i2l, 1) := by decide +kernel
theorem dX7_tables_181 : decode cX7_tables 181 = .ok (.ladd, 1) := by decide +kernel
theorem dX7_tables_182 : decode cX7_tables 182 = .ok (.lastore, 1) := by decide +kernel
theorem dX7_tables_183 : decode cX7_tables 183 = .ok (.iinc 7 1, 3) := by decide +kernel
theorem dX7_tables_186 : decode cX7_tables 186 = .ok (.goto (-76), 3) := by decide +kernel
theorem dX7_tables_189 : decode cX7_tables 189 = .ok (.iinc 6 1, 3) := by decide +kernel
theorem dX7_tables_192 : decode cX7_tables 192 = .ok (.goto (-96), 3) := by decide +kernel
theorem dX7_tables_195 : decode cX7_tables 195 = .ok (.iinc 3 1, 3) := by decide +kernel
theorem dX7_tables_198 : decode cX7_tables 198 = .ok (.goto (-156), 3) := by decide +kernel
theorem dX7_tables_201 : decode cX7_tables 201 = .ok (.return_, 1) := by decide +kernel
set_option maxRecDepth 20000 in
theorem ggX7_worthOf_X7_ones : GoodIn wsX7_worthOf wsX7_ones := goodIn_r _ [7] (by decide +kernel) (by decide +kernel)
set_option maxRecDepth 20000 in
theorem gX7_worthOf_X7_ones : GoodIn wsX7_worthOf (wsV RX7 108 RX7 yX7_ones wsX7_ones) := goodIn_app (goodIn_of _ (by decide +kernel)) ggX7_worthOf_X7_ones
theorem dX7_worthOf_0 : decode cX7_worthOf 0 = .ok (.aload_n 0, 1) := by decide +kernel
theorem dX7_worthOf_1 : decode cX7_worthOf 1 = .ok (.getfield 23, 3) := by decide +kernel
theorem dX7_worthOf_4 : decode cX7_worthOf 4 = .ok (.iconst 0, 1) := by decide +kernel
theorem dX7_worthOf_5 : decode cX7_worthOf 5 = .ok (.lconst 1, 1) := by decide +kernel
theorem dX7_worthOf_6 : decode cX7_worthOf 6 = .ok (.lastore, 1) := by decide +kernel
theorem dX7_worthOf_7 : decode cX7_worthOf 7 = .ok (.iconst 1, 1) := by decide +kernel
theorem dX7_worthOf_8 : decode cX7_worthOf 8 = .ok (.istore_n 2, 1) := by decide +kernel
theorem dX7_worthOf_9 : decode cX7_worthOf 9 = .ok (.iload_n 2, 1) := by decide +kernel
theorem dX7_worthOf_10 : decode cX7_worthOf 10 = .ok (.iconst 1, 1) := by decide +kernel
theorem dX7_worthOf_11 : decode cX7_worthOf 11 = .ok (.iload_n 1, 1) := by decide +kernel
theorem dX7_worthOf_12 : decode cX7_worthOf 12 = .ok (.ishl, 1) := by decide +kernel
theorem dX7_worthOf_13 : decode cX7_worthOf 13 = .ok (.if_icmp .ge 112, 3) := by decide +kernel
theorem dX7_worthOf_16 : decode cX7_worthOf 16 = .ok (.aload_n 0, 1) := by decide +kernel
theorem dX7_worthOf_17 : decode cX7_worthOf 17 = .ok (.iload_n 2, 1) := by decide +kernel
theorem dX7_worthOf_18 : decode cX7_worthOf 18 = .ok (.invokevirtual 108, 3) := by decide +kernel
theorem dX7_worthOf_21 : decode cX7_worthOf 21 = .ok (.iconst 1, 1) := by decide +kernel
theorem dX7_worthOf_22 : decode cX7_worthOf 22 = .ok (.isub, 1) := by decide +kernel
theorem dX7_worthOf_23 : decode cX7_worthOf 23 = .ok (.istore_n 3, 1) := by decide +kernel
theorem dX7_worthOf_24 : decode cX7_worthOf 24 = .ok (.lconst 0, 1) := by decide +kernel
theorem dX7_worthOf_25 : decode cX7_worthOf 25 = .ok (.lstore 4, 2) := by decide +kernel
theorem dX7_worthOf_27 : decode cX7_worthOf 27 = .ok (.iconst 0, 1) := by decide +kernel
theorem dX7_worthOf_28 : decode cX7_worthOf 28 = .ok (.istore 6, 2) := by decide +kernel
theorem dX7_worthOf_30 : decode cX7_worthOf 30 = .ok (.iconst 0, 1) := by decide +kernel
theorem dX7_worthOf_31 : decode cX7_worthOf 31 = .ok (.istore 7, 2) := by decide +kernel
theorem dX7_worthOf_33 : decode cX7_worthOf 33 = .ok (.iload 7, 2) := by decide +kernel
theorem dX7_worthOf_35 : decode cX7_worthOf 35 = .ok (.iload_n 1, 1) := by decide +kernel
theorem dX7_worthOf_36 : decode cX7_worthOf 36 = .ok (.if_icmp .ge 75, 3) := by decide +kernel
theorem dX7_worthOf_39 : decode cX7_worthOf 39 = .ok (.iload_n 2, 1) := by decide +kernel
theorem dX7_worthOf_40 : decode cX7_worthOf 40 = .ok (.iload 7, 2) := by decide +kernel
theorem dX7_worthOf_42 : decode cX7_worthOf 42 = .ok (.ishr, 1) := by decide +kernel
theorem dX7_worthOf_43 : decode cX7_worthOf 43 = .ok (.iconst 1, 1) := by decide +kernel
theorem dX7_worthOf_44 : decode cX7_worthOf 44 = .ok (.iand, 1) := by decide +kernel
theorem dX7_worthOf_45 : decode cX7_worthOf 45 = .ok (.ifCond .ne 6, 3) := by decide +kernel
theorem dX7_worthOf_48 : decode cX7_worthOf 48 = .ok (.goto 57, 3) := by decide +kernel
theorem dX7_worthOf_51 : decode cX7_worthOf 51 = .ok (.aload_n 0, 1) := by decide +kernel
theorem dX7_worthOf_52 : decode cX7_worthOf 52 = .ok (.getfield 20, 3) := by decide +kernel
theorem dX7_worthOf_55 : decode cX7_worthOf 55 = .ok (.bipush 6, 2) := by decide +kernel
theorem dX7_worthOf_57 : decode cX7_worthOf 57 = .ok (.iload_n 3, 1) := by decide +kernel
theorem dX7_worthOf_58 : decode cX7_worthOf 58 = .ok (.imul, 1) := by decide +kernel
theorem dX7_worthOf_59 : decode cX7_worthOf 59 = .ok (.iload 7, 2) := by decide +kernel
theorem dX7_worthOf_61 : decode cX7_worthOf 61 = .ok (.iadd, 1) := by decide +kernel
theorem dX7_worthOf_62 : decode cX7_worthOf 62 = .ok (.laload, 1) := by decide +kernel
theorem dX7_worthOf_63 : decode cX7_worthOf 63 = .ok (.aload_n 0, 1) := by decide +kernel
theorem dX7_worthOf_64 : decode cX7_worthOf 64 = .ok (.getfield 23, 3) := by decide +kernel
theorem dX7_worthOf_67 : decode cX7_worthOf 67 = .ok (.iload_n 2, 1) := by decide +kernel
theorem dX7_worthOf_68 : decode cX7_worthOf 68 = .ok (.iconst 1, 1) := by decide +kernel
theorem dX7_worthOf_69 : decode cX7_worthOf 69 = .ok (.iload 7, 2) := by decide +kernel
theorem dX7_worthOf_71 : decode cX7_worthOf 71 = .ok (.ishl, 1) := by decide +kernel
theorem dX7_worthOf_72 : decode cX7_worthOf 72 = .ok (.ixor, 1) := by decide +kernel
theorem dX7_worthOf_73 : decode cX7_worthOf 73 = .ok (.laload, 1) := by decide +kernel
theorem dX7_worthOf_74 : decode cX7_worthOf 74 = .ok (.lmul, 1) := by decide +kernel
theorem dX7_worthOf_75 : decode cX7_worthOf 75 = .ok (.lstore 8, 2) := by decide +kernel
theorem dX7_worthOf_77 : decode cX7_worthOf 77 = .ok (.lload 4, 2) := by decide +kernel
theorem dX7_worthOf_79 : decode cX7_worthOf 79 = .ok (.iload_n 3, 1) := by decide +kernel
theorem dX7_worthOf_80 : decode cX7_worthOf 80 = .ok (.iload 6, 2) := by decide +kernel
theorem dX7_worthOf_82 : decode cX7_worthOf 82 = .ok (.iadd, 1) := by decide +kernel
theorem dX7_worthOf_83 : decode cX7_worthOf 83 = .ok (.iconst 2, 1) := by decide +kernel
theorem dX7_worthOf_84 : decode cX7_worthOf 84 = .ok (.irem, 1) := by decide +kernel
theorem dX7_worthOf_85 : decode cX7_worthOf 85 = .ok (.ifCond .ne 8, 3) := by decide +kernel
theorem dX7_worthOf_88 : decode cX7_worthOf 88 = .ok (.lload 8, 2) := by decide +kernel
theorem dX7_worthOf_90 : decode cX7_worthOf 90 = .ok (.goto 6, 3) := by decide +kernel
theorem dX7_worthOf_93 : decode cX7_worthOf 93 = .ok (.lload 8, 2) := by decide +kernel
theorem dX7_worthOf_95 : decode cX7_worthOf 95 = .ok (.lneg, 1) := by decide +kernel
theorem dX7_worthOf_96 : decode cX7_worthOf 96 = .ok (.ladd, 1) := by decide +kernel
theorem dX7_worthOf_97 : decode cX7_worthOf 97 = .ok (.lstore 4, 2) := by decide +kernel
theorem dX7_worthOf_99 : decode cX7_worthOf 99 = .ok (.iload 6, 2) := by decide +kernel
theorem dX7_worthOf_101 : decode cX7_worthOf 101 = .ok (.iconst 1, 1) := by decide +kernel
theorem dX7_worthOf_102 : decode cX7_worthOf 102 = .ok (.iadd, 1) := by decide +kernel
theorem dX7_worthOf_103 : decode cX7_worthOf 103 = .ok (.istore 6, 2) := by decide +kernel
theorem dX7_worthOf_105 : decode cX7_worthOf 105 = .ok (.iinc 7 1, 3) := by decide +kernel
theorem dX7_worthOf_108 : decode cX7_worthOf 108 = .ok (.goto (-75), 3) := by decide +kernel
theorem dX7_worthOf_111 : decode cX7_worthOf 111 = .ok (.aload_n 0, 1) := by decide +kernel
theorem dX7_worthOf_112 : decode cX7_worthOf 112 = .ok (.getfield 23, 3) := by decide +kernel
theorem dX7_worthOf_115 : decode cX7_worthOf 115 = .ok (.iload_n 2, 1) := by decide +kernel
theorem dX7_worthOf_116 : decode cX7_worthOf 116 = .ok (.lload 4, 2) := by decide +kernel
theorem dX7_worthOf_118 : decode cX7_worthOf 118 = .ok (.lastore, 1) := by decide +kernel
theorem dX7_worthOf_119 : decode cX7_worthOf 119 = .ok (.iinc 2 1, 3) := by decide +kernel
theorem dX7_worthOf_122 : decode cX7_worthOf 122 = .ok (.goto (-113), 3) := by decide +kernel
theorem dX7_worthOf_125 : decode cX7_worthOf 125 = .ok (.aload_n 0, 1) := by decide +kernel
theorem dX7_worthOf_126 : decode cX7_worthOf 126 = .ok (.getfield 23, 3) := by decide +kernel
theorem dX7_worthOf_129 : decode cX7_worthOf 129 = .ok (.iconst 1, 1) := by decide +kernel
theorem dX7_worthOf_130 : decode cX7_worthOf 130 = .ok (.iload_n 1, 1) := by decide +kernel
theorem dX7_worthOf_131 : decode cX7_worthOf 131 = .ok (.ishl, 1) := by decide +kernel
theorem dX7_worthOf_132 : decode cX7_worthOf 132 = .ok (.iconst 1, 1) := by decide +kernel
theorem dX7_worthOf_133 : decode cX7_worthOf 133 = .ok (.isub, 1) := by decide +kernel
theorem dX7_worthOf_134 : decode cX7_worthOf 134 = .ok (.laload, 1) := by decide +kernel
theorem dX7_worthOf_135 : decode cX7_worthOf 135 = .ok (.lreturn, 1) := by decide +kernel
set_option maxRecDepth 20000 in
theorem ggX7_wholeWorth_X7_worthOf : GoodIn wsX7_wholeWorth wsX7_worthOf := goodIn_r _ [8, 9, 1, 10, 11, 12, 7, 13, 14, 15, 16, 17, 18, 19, 20, 21, 22, 23, 24, 25, 26, 27, 28, 29, 30, 31, 32, 33, 34, 35, 36, 37, 38, 39, 40, 41, 42, 43] (by decide +kernel) (by decide +kernel)
set_option maxRecDepth 20000 in
theorem gX7_wholeWorth_X7_worthOf : GoodIn wsX7_wholeWorth (wsV RX7 116 RX7 yX7_worthOf wsX7_worthOf) := goodIn_app (goodIn_of _ (by decide +kernel)) ggX7_wholeWorth_X7_worthOf
theorem dX7_wholeWorth_0 : decode cX7_wholeWorth 0 = .ok (.iconst 0, 1) := by decide +kernel
theorem dX7_wholeWorth_1 : decode cX7_wholeWorth 1 = .ok (.istore_n 1, 1) := by decide +kernel
theorem dX7_wholeWorth_2 : decode cX7_wholeWorth 2 = .ok (.iload_n 1, 1) := by decide +kernel
theorem dX7_wholeWorth_3 : decode cX7_wholeWorth 3 = .ok (.bipush 36, 2) := by decide +kernel
theorem dX7_wholeWorth_5 : decode cX7_wholeWorth 5 = .ok (.if_icmp .ge 21, 3) := by decide +kernel
theorem dX7_wholeWorth_8 : decode cX7_wholeWorth 8 = .ok (.aload_n 0, 1) := by decide +kernel
theorem dX7_wholeWorth_9 : decode cX7_wholeWorth 9 = .ok (.getfield 20, 3) := by decide +kernel
theorem dX7_wholeWorth_12 : decode cX7_wholeWorth 12 = .ok (.iload_n 1, 1) := by decide +kernel
theorem dX7_wholeWorth_13 : decode cX7_wholeWorth 13 = .ok (.aload_n 0, 1) := by decide +kernel
theorem dX7_wholeWorth_14 : decode cX7_wholeWorth 14 = .ok (.getfield 16, 3) := by decide +kernel
theorem dX7_wholeWorth_17 : decode cX7_wholeWorth 17 = .ok (.iload_n 1, 1) := by decide +kernel
theorem dX7_wholeWorth_18 : decode cX7_wholeWorth 18 = .ok (.laload, 1) := by decide +kernel
theorem dX7_wholeWorth_19 : decode cX7_wholeWorth 19 = .ok (.lastore, 1) := by decide +kernel
theorem dX7_wholeWorth_20 : decode cX7_wholeWorth 20 = .ok (.iinc 1 1, 3) := by decide +kernel
theorem dX7_wholeWorth_23 : decode cX7_wholeWorth 23 = .ok (.goto (-21), 3) := by decide +kernel
theorem dX7_wholeWorth_26 : decode cX7_wholeWorth 26 = .ok (.aload_n 0, 1) := by decide +kernel
theorem dX7_wholeWorth_27 : decode cX7_wholeWorth 27 = .ok (.aload_n 0, 1) := by decide +kernel
theorem dX7_wholeWorth_28 : decode cX7_wholeWorth 28 = .ok (.getfield 7, 3) := by decide +kernel
theorem dX7_wholeWorth_31 : decode cX7_wholeWorth 31 = .ok (.iconst 1, 1) := by decide +kernel
theorem dX7_wholeWorth_32 : decode cX7_wholeWorth 32 = .ok (.iaload, 1) := by decide +kernel
theorem dX7_wholeWorth_33 : decode cX7_wholeWorth 33 = .ok (.invokevirtual 116, 3) := by decide +kernel
theorem dX7_wholeWorth_36 : decode cX7_wholeWorth 36 = .ok (.lreturn, 1) := by decide +kernel
theorem dX7_border_0 : decode cX7_border 0 = .ok (.iconst 0, 1) := by decide +kernel
theorem dX7_border_1 : decode cX7_border 1 = .ok (.istore 5, 2) := by decide +kernel
theorem dX7_border_3 : decode cX7_border 3 = .ok (.iload 5, 2) := by decide +kernel
theorem dX7_border_5 : decode cX7_border 5 = .ok (.aload_n 0, 1) := by decide +kernel
theorem dX7_border_6 : decode cX7_border 6 = .ok (.getfield 120, 3) := by decide +kernel
theorem dX7_border_9 : decode cX7_border 9 = .ok (.if_icmp .ge 111, 3) := by decide +kernel
theorem dX7_border_12 : decode cX7_border 12 = .ok (.iconst 0, 1) := by decide +kernel
theorem dX7_border_13 : decode cX7_border 13 = .ok (.istore 6, 2) := by decide +kernel
theorem dX7_border_15 : decode cX7_border 15 = .ok (.iload 6, 2) := by decide +kernel
theorem dX7_border_17 : decode cX7_border 17 = .ok (.aload_n 0, 1) := by decide +kernel
theorem dX7_border_18 : decode cX7_border 18 = .ok (.getfield 120, 3) := by decide +kernel
theorem dX7_border_21 : decode cX7_border 21 = .ok (.if_icmp .ge 45, 3) := by decide +kernel
theorem dX7_border_24 : decode cX7_border 24 = .ok (.aload_n 0, 1) := by decide +kernel
theorem dX7_border_25 : decode cX7_border 25 = .ok (.getfield 20, 3) := by decide +kernel
theorem dX7_border_28 : decode cX7_border 28 = .ok (.bipush 6, 2) := by decide +kernel
theorem dX7_border_30 : decode cX7_border 30 = .ok (.iload 5, 2) := by decide +kernel
theorem dX7_border_32 : decode cX7_border 32 = .ok (.imul, 1) := by decide +kernel
theorem dX7_border_33 : decode cX7_border 33 = .ok (.iload 6, 2) := by decide +kernel
theorem dX7_border_35 : decode cX7_border 35 = .ok (.iadd, 1) := by decide +kernel
theorem dX7_border_36 : decode cX7_border 36 = .ok (.aload_n 0, 1) := by decide +kernel
theorem dX7_border_37 : decode cX7_border 37 = .ok (.getfield 16, 3) := by decide +kernel
theorem dX7_border_40 : decode cX7_border 40 = .ok (.bipush 6, 2) := by decide +kernel
theorem dX7_border_42 : decode cX7_border 42 = .ok (.aload_n 0, 1) := by decide +kernel
theorem dX7_border_43 : decode cX7_border 43 = .ok (.getfield 26, 3) := by decide +kernel
theorem dX7_border_46 : decode cX7_border 46 = .ok (.iload 5, 2) := by decide +kernel
theorem dX7_border_48 : decode cX7_border 48 = .ok (.iaload, 1) := by decide +kernel
theorem dX7_border_49 : decode cX7_border 49 = .ok (.imul, 1) := by decide +kernel
theorem dX7_border_50 : decode cX7_border 50 = .ok (.aload_n 0, 1) := by decide +kernel
theorem dX7_border_51 : decode cX7_border 51 = .ok (.getfield 26, 3) := by decide +kernel
theorem dX7_border_54 : decode cX7_border 54 = .ok (.iload 6, 2) := by decide +kernel
theorem dX7_border_56 : decode cX7_border 56 = .ok (.iaload, 1) := by decide +kernel
theorem dX7_border_57 : decode cX7_border 57 = .ok (.iadd, 1) := by decide +kernel
theorem dX7_border_58 : decode cX7_border 58 = .ok (.laload, 1) := by decide +kernel
theorem dX7_border_59 : decode cX7_border 59 = .ok (.lastore, 1) := by decide +kernel
theorem dX7_border_60 : decode cX7_border 60 = .ok (.iinc 6 1, 3) := by decide +kernel
theorem dX7_border_63 : decode cX7_border 63 = .ok (.goto (-48), 3) := by decide +kernel
theorem dX7_border_66 : decode cX7_border 66 = .ok (.aload_n 0, 1) := by decide +kernel
theorem dX7_border_67 : decode cX7_border 67 = .ok (.getfield 20, 3) := by decide +kernel
theorem dX7_border_70 : decode cX7_border 70 = .ok (.bipush 6, 2) := by decide +kernel
theorem dX7_border_72 : decode cX7_border 72 = .ok (.iload 5, 2) := by decide +kernel
theorem dX7_border_74 : decode cX7_border 74 = .ok (.imul, 1) := by decide +kernel
theorem dX7_border_75 : decode cX7_border 75 = .ok (.aload_n 0, 1) := by decide +kernel
theorem dX7_border_76 : decode cX7_border 76 = .ok (.getfield 120, 3) := by decide +kernel
theorem dX7_border_79 : decode cX7_border 79 = .ok (.iadd, 1) := by decide +kernel
theorem dX7_border_80 : decode cX7_border 80 = .ok (.aload_n 1, 1) := by decide +kernel
theorem dX7_border_81 : decode cX7_border 81 = .ok (.aload_n 0, 1) := by decide +kernel
theorem dX7_border_82 : decode cX7_border 82 = .ok (.getfield 26, 3) := by decide +kernel
theorem dX7_border_85 : decode cX7_border 85 = .ok (.iload 5, 2) := by decide +kernel
theorem dX7_border_87 : decode cX7_border 87 = .ok (.iaload, 1) := by decide +kernel
theorem dX7_border_88 : decode cX7_border 88 = .ok (.laload, 1) := by decide +kernel
theorem dX7_border_89 : decode cX7_border 89 = .ok (.lastore, 1) := by decide +kernel
theorem dX7_border_90 : decode cX7_border 90 = .ok (.aload_n 0, 1) := by decide +kernel
theorem dX7_border_91 : decode cX7_border 91 = .ok (.getfield 20, 3) := by decide +kernel
theorem dX7_border_94 : decode cX7_border 94 = .ok (.bipush 6, 2) := by decide +kernel
theorem dX7_border_96 : decode cX7_border 96 = .ok (.aload_n 0, 1) := by decide +kernel
theorem dX7_border_97 : decode cX7_border 97 = .ok (.getfield 120, 3) := by decide +kernel
theorem dX7_border_100 : decode cX7_border 100 = .ok (.imul, 1) := by decide +kernel
theorem dX7_border_101 : decode cX7_border 101 = .ok (.iload 5, 2) := by decide +kernel
theorem dX7_border_103 : decode cX7_border 103 = .ok (.iadd, 1) := by decide +kernel
theorem dX7_border_104 : decode cX7_border 104 = .ok (.aload_n 2, 1) := by decide +kernel
theorem dX7_border_105 : decode cX7_border 105 = .ok (.aload_n 0, 1) := by decide +kernel
theorem dX7_border_106 : decode cX7_border 106 = .ok (.getfield 26, 3) := by decide +kernel
theorem dX7_border_109 : decode cX7_border 109 = .ok (.iload 5, 2) := by decide +kernel
theorem dX7_border_111 : decode cX7_border 111 = .ok (.iaload, 1) := by decide +kernel
theorem dX7_border_112 : decode cX7_border 112 = .ok (.laload, 1) := by decide +kernel
theorem dX7_border_113 : decode cX7_border 113 = .ok (.lastore, 1) := by decide +kernel
theorem dX7_border_114 : decode cX7_border 114 = .ok (.iinc 5 1, 3) := by decide +kernel
theorem dX7_border_117 : decode cX7_border 117 = .ok (.goto (-114), 3) := by decide +kernel
theorem dX7_border_120 : decode cX7_border 120 = .ok (.aload_n 0, 1) := by decide +kernel
theorem dX7_border_121 : decode cX7_border 121 = .ok (.getfield 20, 3) := by decide +kernel
theorem dX7_border_124 : decode cX7_border 124 = .ok (.bipush 6, 2) := by decide +kernel
theorem dX7_border_126 : decode cX7_border 126 = .ok (.aload_n 0, 1) := by decide +kernel
theorem dX7_border_127 : decode cX7_border 127 = .ok (.getfield 120, 3) := by decide +kernel
theorem dX7_border_130 : decode cX7_border 130 = .ok (.imul, 1) := by decide +kernel
theorem dX7_border_131 : decode cX7_border 131 = .ok (.aload_n 0, 1) := by decide +kernel
theorem dX7_border_132 : decode cX7_border 132 = .ok (.getfield 120, 3) := by decide +kernel
theorem dX7_border_135 : decode cX7_border 135 = .ok (.iadd, 1) := by decide +kernel
theorem dX7_border_136 : decode cX7_border 136 = .ok (.lload_n 3, 1) := by decide +kernel
theorem dX7_border_137 : decode cX7_border 137 = .ok (.lastore, 1) := by decide +kernel
theorem dX7_border_138 : decode cX7_border 138 = .ok (.return_, 1) := by decide +kernel
set_option maxRecDepth 20000 in
theorem ggX7_findLines_X7_border : GoodIn wsX7_findLines wsX7_border := goodIn_r _ [12, 1, 13, 5, 7, 23, 24, 25, 26, 27, 28, 29, 30, 31, 32, 33, 34, 35, 36, 37, 38, 39, 40, 41, 42, 43, 44, 45, 46, 47, 48, 49, 50, 51, 52] (by decide +kernel) (by decide +kernel)
set_option maxRecDepth 20000 in
theorem gX7_findLines_X7_border : GoodIn wsX7_findLines (wsV RX7 127 RX7 yX7_border wsX7_border) := goodIn_app (goodIn_of _ (by decide +kernel)) ggX7_findLines_X7_border
set_option maxRecDepth 20000 in
theorem ggX7_findLines_X7_worthOf : GoodIn wsX7_findLines wsX7_worthOf := goodIn_r _ [17, 18, 13, 19, 20, 21, 11, 22, 23, 24, 25, 26, 27, 28, 29, 30, 31, 32, 33, 34, 35, 36, 37, 38, 39, 40, 41, 42, 43, 44, 45, 46, 47, 48, 49, 50, 51, 52] (by decide +kernel) (by decide +kernel)
set_option maxRecDepth 20000 in
theorem gX7_findLines_X7_worthOf : GoodIn wsX7_findLines (wsV RX7 116 RX7 yX7_worthOf wsX7_worthOf) := goodIn_app (goodIn_of _ (by decide +kernel)) ggX7_findLines_X7_worthOf
theorem dX7_findLines_0 : decode cX7_findLines 0 = .ok (.aload_n 0, 1) := by decide +kernel
theorem dX7_findLines_1 : decode cX7_findLines 1 = .ok (.iconst 0, 1) := by decide +kernel
theorem dX7_findLines_2 : decode cX7_findLines 2 = .ok (.putfield 120, 3) := by decide +kernel
theorem dX7_findLines_5 : decode cX7_findLines 5 = .ok (.aload_n 0, 1) := by decide +kernel
theorem dX7_findLines_6 : decode cX7_findLines 6 = .ok (.lconst 1, 1) := by decide +kernel
theorem dX7_findLines_7 : decode cX7_findLines 7 = .ok (.putfield 123, 3) := by decide +kernel
theorem dX7_findLines_10 : decode cX7_findLines 10 = .ok (.iconst 0, 1) := by decide +kernel
theorem dX7_findLines_11 : decode cX7_findLines 11 = .ok (.istore_n 1, 1) := by decide +kernel
theorem dX7_findLines_12 : decode cX7_findLines 12 = .ok (.iload_n 1, 1) := by decide +kernel
theorem dX7_findLines_13 : decode cX7_findLines 13 = .ok (.aload_n 0, 1) := by decide +kernel
theorem dX7_findLines_14 : decode cX7_findLines 14 = .ok (.getfield 7, 3) := by decide +kernel
theorem dX7_findLines_17 : decode cX7_findLines 17 = .ok (.iconst 1, 1) := by decide +kernel
theorem dX7_findLines_18 : decode cX7_findLines 18 = .ok (.iaload, 1) := by decide +kernel
theorem dX7_findLines_19 : decode cX7_findLines 19 = .ok (.if_icmp .ge 124, 3) := by decide +kernel
theorem dX7_findLines_22 : decode cX7_findLines 22 = .ok (.iconst 0, 1) := by decide +kernel
theorem dX7_findLines_23 : decode cX7_findLines 23 = .ok (.istore_n 2, 1) := by decide +kernel
theorem dX7_findLines_24 : decode cX7_findLines 24 = .ok (.iload_n 2, 1) := by decide +kernel
theorem dX7_findLines_25 : decode cX7_findLines 25 = .ok (.iconst 5, 1) := by decide +kernel
theorem dX7_findLines_26 : decode cX7_findLines 26 = .ok (.if_icmp .ge 43, 3) := by decide +kernel
theorem dX7_findLines_29 : decode cX7_findLines 29 = .ok (.aload_n 0, 1) := by decide +kernel
theorem dX7_findLines_30 : decode cX7_findLines 30 = .ok (.getfield 29, 3) := by decide +kernel
theorem dX7_findLines_33 : decode cX7_findLines 33 = .ok (.iload_n 2, 1) := by decide +kernel
theorem dX7_findLines_34 : decode cX7_findLines 34 = .ok (.aload_n 0, 1) := by decide +kernel
theorem dX7_findLines_35 : decode cX7_findLines 35 = .ok (.getfield 16, 3) := by decide +kernel
theorem dX7_findLines_38 : decode cX7_findLines 38 = .ok (.bipush 6, 2) := by decide +kernel
theorem dX7_findLines_40 : decode cX7_findLines 40 = .ok (.iload_n 2, 1) := by decide +kernel
theorem dX7_findLines_41 : decode cX7_findLines 41 = .ok (.imul, 1) := by decide +kernel
theorem dX7_findLines_42 : decode cX7_findLines 42 = .ok (.iload_n 1, 1) := by decide +kernel
theorem dX7_findLines_43 : decode cX7_findLines 43 = .ok (.iadd, 1) := by decide +kernel
theorem dX7_findLines_44 : decode cX7_findLines 44 = .ok (.laload, 1) := by decide +kernel
theorem dX7_findLines_45 : decode cX7_findLines 45 = .ok (.lastore, 1) := by decide +kernel
theorem dX7_findLines_46 : decode cX7_findLines 46 = .ok (.aload_n 0, 1) := by decide +kernel
theorem dX7_findLines_47 : decode cX7_findLines 47 = .ok (.getfield 32, 3) := by decide +kernel
theorem dX7_findLines_50 : decode cX7_findLines 50 = .ok (.iload_n 2, 1) := by decide +kernel
theorem dX7_findLines_51 : decode cX7_findLines 51 = .ok (.aload_n 0, 1) := by decide +kernel
theorem dX7_findLines_52 : decode cX7_findLines 52 = .ok (.getfield 16, 3) := by decide +kernel
theorem dX7_findLines_55 : decode cX7_findLines 55 = .ok (.bipush 6, 2) := by decide +kernel
theorem dX7_findLines_57 : decode cX7_findLines 57 = .ok (.iload_n 1, 1) := by decide +kernel
theorem dX7_findLines_58 : decode cX7_findLines 58 = .ok (.imul, 1) := by decide +kernel
theorem dX7_findLines_59 : decode cX7_findLines 59 = .ok (.iload_n 2, 1) := by decide +kernel
theorem dX7_findLines_60 : decode cX7_findLines 60 = .ok (.iadd, 1) := by decide +kernel
theorem dX7_findLines_61 : decode cX7_findLines 61 = .ok (.laload, 1) := by decide +kernel
theorem dX7_findLines_62 : decode cX7_findLines 62 = .ok (.lastore, 1) := by decide +kernel
theorem dX7_findLines_63 : decode cX7_findLines 63 = .ok (.iinc 2 1, 3) := by decide +kernel
theorem dX7_findLines_66 : decode cX7_findLines 66 = .ok (.goto (-42), 3) := by decide +kernel
theorem dX7_findLines_69 : decode cX7_findLines 69 = .ok (.aload_n 0, 1) := by decide +kernel
theorem dX7_findLines_70 : decode cX7_findLines 70 = .ok (.aload_n 0, 1) := by decide +kernel
theorem dX7_findLines_71 : decode cX7_findLines 71 = .ok (.getfield 29, 3) := by decide +kernel
theorem dX7_findLines_74 : decode cX7_findLines 74 = .ok (.aload_n 0, 1) := by decide +kernel
theorem dX7_findLines_75 : decode cX7_findLines 75 = .ok (.getfield 32, 3) := by decide +kernel
theorem dX7_findLines_78 : decode cX7_findLines 78 = .ok (.aload_n 0, 1) := by decide +kernel
theorem dX7_findLines_79 : decode cX7_findLines 79 = .ok (.getfield 16, 3) := by decide +kernel
theorem dX7_findLines_82 : decode cX7_findLines 82 = .ok (.bipush 6, 2) := by decide +kernel
theorem dX7_findLines_84 : decode cX7_findLines 84 = .ok (.iload_n 1, 1) := by decide +kernel
theorem dX7_findLines_85 : decode cX7_findLines 85 = .ok (.imul, 1) := by decide +kernel
theorem dX7_findLines_86 : decode cX7_findLines 86 = .ok (.iload_n 1, 1) := by decide +kernel
theorem dX7_findLines_87 : decode cX7_findLines 87 = .ok (.iadd, 1) := by decide +kernel
theorem dX7_findLines_88 : decode cX7_findLines 88 = .ok (.laload, 1) := by decide +kernel
theorem dX7_findLines_89 : decode cX7_findLines 89 = .ok (.invokevirtual 127, 3) := by decide +kernel
theorem dX7_findLines_92 : decode cX7_findLines 92 = .ok (.aload_n 0, 1) := by decide +kernel
theorem dX7_findLines_93 : decode cX7_findLines 93 = .ok (.aload_n 0, 1) := by decide +kernel
theorem dX7_findLines_94 : decode cX7_findLines 94 = .ok (.getfield 120, 3) := by decide +kernel
theorem dX7_findLines_97 : decode cX7_findLines 97 = .ok (.iconst 1, 1) := by decide +kernel
theorem dX7_findLines_98 : decode cX7_findLines 98 = .ok (.iadd, 1) := by decide +kernel
theorem dX7_findLines_99 : decode cX7_findLines 99 = .ok (.invokevirtual 116, 3) := by decide +kernel
theorem dX7_findLines_102 : decode cX7_findLines 102 = .ok (.lstore_n 2, 1) := by decide +kernel
theorem dX7_findLines_103 : decode cX7_findLines 103 = .ok (.lload_n 2, 1) := by decide +kernel
theorem dX7_findLines_104 : decode cX7_findLines 104 = .ok (.lconst 0, 1) := by decide +kernel
theorem dX7_findLines_105 : decode cX7_findLines 105 = .ok (.lcmp, 1) := by decide +kernel
theorem dX7_findLines_106 : decode cX7_findLines 106 = .ok (.ifCond .ne 6, 3) := by decide +kernel
theorem dX7_findLines_109 : decode cX7_findLines 109 = .ok (.goto 28, 3) := by decide +kernel
theorem dX7_findLines_112 : decode cX7_findLines 112 = .ok (.aload_n 0, 1) := by decide +kernel
theorem dX7_findLines_113 : decode cX7_findLines 113 = .ok (.getfield 26, 3) := by decide +kernel
theorem dX7_findLines_116 : decode cX7_findLines 116 = .ok (.aload_n 0, 1) := by decide +kernel
theorem dX7_findLines_117 : decode cX7_findLines 117 = .ok (.getfield 120, 3) := by decide +kernel
theorem dX7_findLines_120 : decode cX7_findLines 120 = .ok (.iload_n 1, 1) := by decide +kernel
theorem dX7_findLines_121 : decode cX7_findLines 121 = .ok (.iastore, 1) := by decide +kernel
theorem dX7_findLines_122 : decode cX7_findLines 122 = .ok (.aload_n 0, 1) := by decide +kernel
theorem dX7_findLines_123 : decode cX7_findLines 123 = .ok (.aload_n 0, 1) := by decide +kernel
theorem dX7_findLines_124 : decode cX7_findLines 124 = .ok (.getfield 120, 3) := by decide +kernel
theorem dX7_findLines_127 : decode cX7_findLines 127 = .ok (.iconst 1, 1) := by decide +kernel
theorem dX7_findLines_128 : decode cX7_findLines 128 = .ok (.iadd, 1) := by decide +kernel
theorem dX7_findLines_129 : decode cX7_findLines 129 = .ok (.putfield 120, 3) := by decide +kernel
theorem dX7_findLines_132 : decode cX7_findLines 132 = .ok (.aload_n 0, 1) := by decide +kernel
theorem dX7_findLines_133 : decode cX7_findLines 133 = .ok (.lload_n 2, 1) := by decide +kernel
theorem dX7_findLines_134 : decode cX7_findLines 134 = .ok (.putfield 123, 3) := by decide +kernel
theorem dX7_findLines_137 : decode cX7_findLines 137 = .ok (.iinc 1 1, 3) := by decide +kernel
theorem dX7_findLines_140 : decode cX7_findLines 140 = .ok (.goto (-128), 3) := by decide +kernel
theorem dX7_findLines_143 : decode cX7_findLines 143 = .ok (.return_, 1) := by decide +kernel
theorem dX7_takesSum_0 : decode cX7_takesSum 0 = .ok (.aload_n 0, 1) := by decide +kernel
theorem dX7_takesSum_1 : decode cX7_takesSum 1 = .ok (.getfield 35, 3) := by decide +kernel
theorem dX7_takesSum_4 : decode cX7_takesSum 4 = .ok (.iconst 0, 1) := by decide +kernel
theorem dX7_takesSum_5 : decode cX7_takesSum 5 = .ok (.iload_n 1, 1) := by decide +kernel
theorem dX7_takesSum_6 : decode cX7_takesSum 6 = .ok (.i2l, 1) := by decide +kernel
theorem dX7_takesSum_7 : decode cX7_takesSum 7 = .ok (.lastore, 1) := by decide +kernel
theorem dX7_takesSum_8 : decode cX7_takesSum 8 = .ok (.aload_n 0, 1) := by decide +kernel
theorem dX7_takesSum_9 : decode cX7_takesSum 9 = .ok (.getfield 35, 3) := by decide +kernel
theorem dX7_takesSum_12 : decode cX7_takesSum 12 = .ok (.iconst 1, 1) := by decide +kernel
theorem dX7_takesSum_13 : decode cX7_takesSum 13 = .ok (.iload_n 2, 1) := by decide +kernel
theorem dX7_takesSum_14 : decode cX7_takesSum 14 = .ok (.i2l, 1) := by decide +kernel
theorem dX7_takesSum_15 : decode cX7_takesSum 15 = .ok (.lastore, 1) := by decide +kernel
theorem dX7_takesSum_16 : decode cX7_takesSum 16 = .ok (.aload_n 0, 1) := by decide +kernel
theorem dX7_takesSum_17 : decode cX7_takesSum 17 = .ok (.getfield 35, 3) := by decide +kernel
theorem dX7_takesSum_20 : decode cX7_takesSum 20 = .ok (.iconst 2, 1) := by decide +kernel
theorem dX7_takesSum_21 : decode cX7_takesSum 21 = .ok (.iload_n 3, 1) := by decide +kernel
theorem dX7_takesSum_22 : decode cX7_takesSum 22 = .ok (.i2l, 1) := by decide +kernel
theorem dX7_takesSum_23 : decode cX7_takesSum 23 = .ok (.lastore, 1) := by decide +kernel
theorem dX7_takesSum_24 : decode cX7_takesSum 24 = .ok (.aload_n 0, 1) := by decide +kernel
theorem dX7_takesSum_25 : decode cX7_takesSum 25 = .ok (.getfield 35, 3) := by decide +kernel
theorem dX7_takesSum_28 : decode cX7_takesSum 28 = .ok (.iconst 3, 1) := by decide +kernel
theorem dX7_takesSum_29 : decode cX7_takesSum 29 = .ok (.iload 4, 2) := by decide +kernel
theorem dX7_takesSum_31 : decode cX7_takesSum 31 = .ok (.i2l, 1) := by decide +kernel
theorem dX7_takesSum_32 : decode cX7_takesSum 32 = .ok (.lastore, 1) := by decide +kernel
theorem dX7_takesSum_33 : decode cX7_takesSum 33 = .ok (.aload_n 0, 1) := by decide +kernel
theorem dX7_takesSum_34 : decode cX7_takesSum 34 = .ok (.getfield 35, 3) := by decide +kernel
theorem dX7_takesSum_37 : decode cX7_takesSum 37 = .ok (.iconst 4, 1) := by decide +kernel
theorem dX7_takesSum_38 : decode cX7_takesSum 38 = .ok (.iload 5, 2) := by decide +kernel
theorem dX7_takesSum_40 : decode cX7_takesSum 40 = .ok (.i2l, 1) := by decide +kernel
theorem dX7_takesSum_41 : decode cX7_takesSum 41 = .ok (.lastore, 1) := by decide +kernel
theorem dX7_takesSum_42 : decode cX7_takesSum 42 = .ok (.iconst 0, 1) := by decide +kernel
theorem dX7_takesSum_43 : decode cX7_takesSum 43 = .ok (.istore 6, 2) := by decide +kernel
theorem dX7_takesSum_45 : decode cX7_takesSum 45 = .ok (.iload 6, 2) := by decide +kernel
theorem dX7_takesSum_47 : decode cX7_takesSum 47 = .ok (.aload_n 0, 1) := by decide +kernel
theorem dX7_takesSum_48 : decode cX7_takesSum 48 = .ok (.getfield 7, 3) := by decide +kernel
theorem dX7_takesSum_51 : decode cX7_takesSum 51 = .ok (.iconst 1, 1) := by decide +kernel
theorem dX7_takesSum_52 : decode cX7_takesSum 52 = .ok (.iaload, 1) := by decide +kernel
theorem dX7_takesSum_53 : decode cX7_takesSum 53 = .ok (.if_icmp .ge 39, 3) := by decide +kernel
theorem dX7_takesSum_56 : decode cX7_takesSum 56 = .ok (.aload_n 0, 1) := by decide +kernel
theorem dX7_takesSum_57 : decode cX7_takesSum 57 = .ok (.getfield 35, 3) := by decide +kernel
theorem dX7_takesSum_60 : decode cX7_takesSum 60 = .ok (.iload 6, 2) := by decide +kernel
theorem dX7_takesSum_62 : decode cX7_takesSum 62 = .ok (.laload, 1) := by decide +kernel
theorem dX7_takesSum_63 : decode cX7_takesSum 63 = .ok (.ldc2_w 131, 3) := by decide +kernel
theorem dX7_takesSum_66 : decode cX7_takesSum 66 = .ok (.lcmp, 1) := by decide +kernel
theorem dX7_takesSum_67 : decode cX7_takesSum 67 = .ok (.ifCond .lt 17, 3) := by decide +kernel
theorem dX7_takesSum_70 : decode cX7_takesSum 70 = .ok (.aload_n 0, 1) := by decide +kernel
theorem dX7_takesSum_71 : decode cX7_takesSum 71 = .ok (.getfield 35, 3) := by decide +kernel
theorem dX7_takesSum_74 : decode cX7_takesSum 74 = .ok (.iload 6, 2) := by decide +kernel
theorem dX7_takesSum_76 : decode cX7_takesSum 76 = .ok (.laload, 1) := by decide +kernel
theorem dX7_takesSum_77 : decode cX7_takesSum 77 = .ok (.ldc2_w 133, 3) := by decide +kernel
theorem dX7_takesSum_80 : decode cX7_takesSum 80 = .ok (.lcmp, 1) := by decide +kernel
theorem dX7_takesSum_81 : decode cX7_takesSum 81 = .ok (.ifCond .le 5, 3) := by decide +kernel
theorem dX7_takesSum_84 : decode cX7_takesSum 84 = .ok (.iconst 0, 1) := by decide +kernel
theorem dX7_takesSum_85 : decode cX7_takesSum 85 = .ok (.ireturn, 1) := by decide +kernel
theorem dX7_takesSum_86 : decode cX7_takesSum 86 = .ok (.iinc 6 1, 3) := by decide +kernel
theorem dX7_takesSum_89 : decode cX7_takesSum 89 = .ok (.goto (-44), 3) := by decide +kernel
theorem dX7_takesSum_92 : decode cX7_takesSum 92 = .ok (.iconst 1, 1) := by decide +kernel
theorem dX7_takesSum_93 : decode cX7_takesSum 93 = .ok (.ireturn, 1) := by decide +kernel
set_option maxRecDepth 20000 in
theorem ggX7_isKnown_X7_findLines : GoodIn wsX7_isKnown wsX7_findLines := goodIn_r _ [10, 5, 11, 1, 12, 3, 2, 13, 14, 15, 16, 9, 17, 18, 19, 20, 21, 22, 23, 24, 25, 26, 27, 28, 29, 30, 31, 32, 33, 34, 35, 36, 37, 38, 39, 40, 41, 42, 43, 44, 45, 46, 47, 48, 49, 50, 51, 52, 53, 54, 55, 56, 57] (by decide +kernel) (by decide +kernel)
set_option maxRecDepth 20000 in
theorem gX7_isKnown_X7_findLines : GoodIn wsX7_isKnown (wsV RX7 135 RX7 yX7_findLines wsX7_findLines) := goodIn_app (goodIn_of _ (by decide +kernel)) ggX7_isKnown_X7_findLines
set_option maxRecDepth 20000 in
theorem ggX7_isKnown_X7_border : GoodIn wsX7_isKnown wsX7_border := goodIn_r _ [17, 5, 18, 3, 13, 28, 29, 30, 31, 32, 33, 34, 35, 36, 37, 38, 39, 40, 41, 42, 43, 44, 45, 46, 47, 48, 49, 50, 51, 52, 53, 54, 55, 56, 57] (by decide +kernel) (by decide +kernel)
set_option maxRecDepth 20000 in
theorem gX7_isKnown_X7_border : GoodIn wsX7_isKnown (wsV RX7 127 RX7 yX7_border wsX7_border) := goodIn_app (goodIn_of _ (by decide +kernel)) ggX7_isKnown_X7_border
set_option maxRecDepth 20000 in
theorem ggX7_isKnown_X7_worthOf : GoodIn wsX7_isKnown wsX7_worthOf := goodIn_r _ [22, 23, 18, 24, 25, 26, 9, 27, 28, 29, 30, 31, 32, 33, 34, 35, 36, 37, 38, 39, 40, 41, 42, 43, 44, 45, 46, 47, 48, 49, 50, 51, 52, 53, 54, 55, 56, 57] (by decide +kernel) (by decide +kernel)
set_option maxRecDepth 20000 in
theorem gX7_isKnown_X7_worthOf : GoodIn wsX7_isKnown (wsV RX7 116 RX7 yX7_worthOf wsX7_worthOf) := goodIn_app (goodIn_of _ (by decide +kernel)) ggX7_isKnown_X7_worthOf
theorem dX7_isKnown_0 : decode cX7_isKnown 0 = .ok (.aload_n 0, 1) := by decide +kernel
theorem dX7_isKnown_1 : decode cX7_isKnown 1 = .ok (.invokevirtual 135, 3) := by decide +kernel
theorem dX7_isKnown_4 : decode cX7_isKnown 4 = .ok (.iconst 0, 1) := by decide +kernel
theorem dX7_isKnown_5 : decode cX7_isKnown 5 = .ok (.istore_n 1, 1) := by decide +kernel
theorem dX7_isKnown_6 : decode cX7_isKnown 6 = .ok (.iload_n 1, 1) := by decide +kernel
theorem dX7_isKnown_7 : decode cX7_isKnown 7 = .ok (.aload_n 0, 1) := by decide +kernel
theorem dX7_isKnown_8 : decode cX7_isKnown 8 = .ok (.getfield 7, 3) := by decide +kernel
theorem dX7_isKnown_11 : decode cX7_isKnown 11 = .ok (.iconst 1, 1) := by decide +kernel
theorem dX7_isKnown_12 : decode cX7_isKnown 12 = .ok (.iaload, 1) := by decide +kernel
theorem dX7_isKnown_13 : decode cX7_isKnown 13 = .ok (.if_icmp .ge 74, 3) := by decide +kernel
theorem dX7_isKnown_16 : decode cX7_isKnown 16 = .ok (.iconst 0, 1) := by decide +kernel
theorem dX7_isKnown_17 : decode cX7_isKnown 17 = .ok (.istore_n 2, 1) := by decide +kernel
theorem dX7_isKnown_18 : decode cX7_isKnown 18 = .ok (.iload_n 2, 1) := by decide +kernel
theorem dX7_isKnown_19 : decode cX7_isKnown 19 = .ok (.iconst 5, 1) := by decide +kernel
theorem dX7_isKnown_20 : decode cX7_isKnown 20 = .ok (.if_icmp .ge 26, 3) := by decide +kernel
theorem dX7_isKnown_23 : decode cX7_isKnown 23 = .ok (.aload_n 0, 1) := by decide +kernel
theorem dX7_isKnown_24 : decode cX7_isKnown 24 = .ok (.getfield 32, 3) := by decide +kernel
theorem dX7_isKnown_27 : decode cX7_isKnown 27 = .ok (.iload_n 2, 1) := by decide +kernel
theorem dX7_isKnown_28 : decode cX7_isKnown 28 = .ok (.aload_n 0, 1) := by decide +kernel
theorem dX7_isKnown_29 : decode cX7_isKnown 29 = .ok (.getfield 16, 3) := by decide +kernel
theorem dX7_isKnown_32 : decode cX7_isKnown 32 = .ok (.bipush 6, 2) := by decide +kernel
theorem dX7_isKnown_34 : decode cX7_isKnown 34 = .ok (.iload_n 1, 1) := by decide +kernel
theorem dX7_isKnown_35 : decode cX7_isKnown 35 = .ok (.imul, 1) := by decide +kernel
theorem dX7_isKnown_36 : decode cX7_isKnown 36 = .ok (.iload_n 2, 1) := by decide +kernel
theorem dX7_isKnown_37 : decode cX7_isKnown 37 = .ok (.iadd, 1) := by decide +kernel
theorem dX7_isKnown_38 : decode cX7_isKnown 38 = .ok (.laload, 1) := by decide +kernel
theorem dX7_isKnown_39 : decode cX7_isKnown 39 = .ok (.lastore, 1) := by decide +kernel
theorem dX7_isKnown_40 : decode cX7_isKnown 40 = .ok (.iinc 2 1, 3) := by decide +kernel
theorem dX7_isKnown_43 : decode cX7_isKnown 43 = .ok (.goto (-25), 3) := by decide +kernel
theorem dX7_isKnown_46 : decode cX7_isKnown 46 = .ok (.aload_n 0, 1) := by decide +kernel
theorem dX7_isKnown_47 : decode cX7_isKnown 47 = .ok (.aload_n 0, 1) := by decide +kernel
theorem dX7_isKnown_48 : decode cX7_isKnown 48 = .ok (.getfield 35, 3) := by decide +kernel
theorem dX7_isKnown_51 : decode cX7_isKnown 51 = .ok (.aload_n 0, 1) := by decide +kernel
theorem dX7_isKnown_52 : decode cX7_isKnown 52 = .ok (.getfield 32, 3) := by decide +kernel
theorem dX7_isKnown_55 : decode cX7_isKnown 55 = .ok (.aload_n 0, 1) := by decide +kernel
theorem dX7_isKnown_56 : decode cX7_isKnown 56 = .ok (.getfield 35, 3) := by decide +kernel
theorem dX7_isKnown_59 : decode cX7_isKnown 59 = .ok (.iload_n 1, 1) := by decide +kernel
theorem dX7_isKnown_60 : decode cX7_isKnown 60 = .ok (.laload, 1) := by decide +kernel
theorem dX7_isKnown_61 : decode cX7_isKnown 61 = .ok (.invokevirtual 127, 3) := by decide +kernel
theorem dX7_isKnown_64 : decode cX7_isKnown 64 = .ok (.aload_n 0, 1) := by decide +kernel
theorem dX7_isKnown_65 : decode cX7_isKnown 65 = .ok (.aload_n 0, 1) := by decide +kernel
theorem dX7_isKnown_66 : decode cX7_isKnown 66 = .ok (.getfield 120, 3) := by decide +kernel
theorem dX7_isKnown_69 : decode cX7_isKnown 69 = .ok (.iconst 1, 1) := by decide +kernel
theorem dX7_isKnown_70 : decode cX7_isKnown 70 = .ok (.iadd, 1) := by decide +kernel
theorem dX7_isKnown_71 : decode cX7_isKnown 71 = .ok (.invokevirtual 116, 3) := by decide +kernel
theorem dX7_isKnown_74 : decode cX7_isKnown 74 = .ok (.lconst 0, 1) := by decide +kernel
theorem dX7_isKnown_75 : decode cX7_isKnown 75 = .ok (.lcmp, 1) := by decide +kernel
theorem dX7_isKnown_76 : decode cX7_isKnown 76 = .ok (.ifCond .eq 5, 3) := by decide +kernel
theorem dX7_isKnown_79 : decode cX7_isKnown 79 = .ok (.iconst 0, 1) := by decide +kernel
theorem dX7_isKnown_80 : decode cX7_isKnown 80 = .ok (.ireturn, 1) := by decide +kernel
theorem dX7_isKnown_81 : decode cX7_isKnown 81 = .ok (.iinc 1 1, 3) := by decide +kernel
theorem dX7_isKnown_84 : decode cX7_isKnown 84 = .ok (.goto (-78), 3) := by decide +kernel
theorem dX7_isKnown_87 : decode cX7_isKnown 87 = .ok (.iconst 1, 1) := by decide +kernel
theorem dX7_isKnown_88 : decode cX7_isKnown 88 = .ok (.ireturn, 1) := by decide +kernel
set_option maxRecDepth 20000 in
theorem ggX7_given_X7_border : GoodIn wsX7_given wsX7_border := goodIn_r _ [6, 1, 7, 8, 9, 19, 20, 21, 22, 23, 24, 25, 26, 27, 28, 29, 30, 31, 32, 33, 34, 35, 36, 37, 38, 39, 40, 41, 42, 43, 44, 45, 46, 47, 48] (by decide +kernel) (by decide +kernel)
set_option maxRecDepth 20000 in
theorem gX7_given_X7_border : GoodIn wsX7_given (wsV RX7 127 RX7 yX7_border wsX7_border) := goodIn_app (goodIn_of _ (by decide +kernel)) ggX7_given_X7_border
set_option maxRecDepth 20000 in
theorem ggX7_given_X7_worthOf : GoodIn wsX7_given wsX7_worthOf := goodIn_r _ [13, 14, 7, 15, 16, 17, 5, 18, 19, 20, 21, 22, 23, 24, 25, 26, 27, 28, 29, 30, 31, 32, 33, 34, 35, 36, 37, 38, 39, 40, 41, 42, 43, 44, 45, 46, 47, 48] (by decide +kernel) (by decide +kernel)
set_option maxRecDepth 20000 in
theorem gX7_given_X7_worthOf : GoodIn wsX7_given (wsV RX7 116 RX7 yX7_worthOf wsX7_worthOf) := goodIn_app (goodIn_of _ (by decide +kernel)) ggX7_given_X7_worthOf
theorem dX7_given_0 : decode cX7_given 0 = .ok (.aload_n 0, 1) := by decide +kernel
theorem dX7_given_1 : decode cX7_given 1 = .ok (.aload_n 1, 1) := by decide +kernel
theorem dX7_given_2 : decode cX7_given 2 = .ok (.aload_n 2, 1) := by decide +kernel
theorem dX7_given_3 : decode cX7_given 3 = .ok (.lconst 0, 1) := by decide +kernel
theorem dX7_given_4 : decode cX7_given 4 = .ok (.invokevirtual 127, 3) := by decide +kernel
theorem dX7_given_7 : decode cX7_given 7 = .ok (.aload_n 0, 1) := by decide +kernel
theorem dX7_given_8 : decode cX7_given 8 = .ok (.aload_n 0, 1) := by decide +kernel
theorem dX7_given_9 : decode cX7_given 9 = .ok (.getfield 120, 3) := by decide +kernel
theorem dX7_given_12 : decode cX7_given 12 = .ok (.iconst 1, 1) := by decide +kernel
theorem dX7_given_13 : decode cX7_given 13 = .ok (.iadd, 1) := by decide +kernel
theorem dX7_given_14 : decode cX7_given 14 = .ok (.invokevirtual 116, 3) := by decide +kernel
theorem dX7_given_17 : decode cX7_given 17 = .ok (.lneg, 1) := by decide +kernel
theorem dX7_given_18 : decode cX7_given 18 = .ok (.lreturn, 1) := by decide +kernel
theorem dX7_common_0 : decode cX7_common 0 = .ok (.lload_n 1, 1) := by decide +kernel
theorem dX7_common_1 : decode cX7_common 1 = .ok (.lconst 0, 1) := by decide +kernel
theorem dX7_common_2 : decode cX7_common 2 = .ok (.lcmp, 1) := by decide +kernel
theorem dX7_common_3 : decode cX7_common 3 = .ok (.ifCond .ge 8, 3) := by decide +kernel
theorem dX7_common_6 : decode cX7_common 6 = .ok (.lload_n 1, 1) := by decide +kernel
theorem dX7_common_7 : decode cX7_common 7 = .ok (.lneg, 1) := by decide +kernel
theorem dX7_common_8 : decode cX7_common 8 = .ok (.goto 4, 3) := by decide +kernel
theorem dX7_common_11 : decode cX7_common 11 = .ok (.lload_n 1, 1) := by decide +kernel
theorem dX7_common_12 : decode cX7_common 12 = .ok (.lstore 5, 2) := by decide +kernel
theorem dX7_common_14 : decode cX7_common 14 = .ok (.lload_n 3, 1) := by decide +kernel
theorem dX7_common_15 : decode cX7_common 15 = .ok (.lstore 7, 2) := by decide +kernel
theorem dX7_common_17 : decode cX7_common 17 = .ok (.lload 7, 2) := by decide +kernel
theorem dX7_common_19 : decode cX7_common 19 = .ok (.lconst 0, 1) := by decide +kernel
theorem dX7_common_20 : decode cX7_common 20 = .ok (.lcmp, 1) := by decide +kernel
theorem dX7_common_21 : decode cX7_common 21 = .ok (.ifCond .eq 21, 3) := by decide +kernel
theorem dX7_common_24 : decode cX7_common 24 = .ok (.lload 5, 2) := by decide +kernel
theorem dX7_common_26 : decode cX7_common 26 = .ok (.lload 7, 2) := by decide +kernel
theorem dX7_common_28 : decode cX7_common 28 = .ok (.lrem, 1) := by decide +kernel
theorem dX7_common_29 : decode cX7_common 29 = .ok (.lstore 9, 2) := by decide +kernel
theorem dX7_common_31 : decode cX7_common 31 = .ok (.lload 7, 2) := by decide +kernel
theorem dX7_common_33 : decode cX7_common 33 = .ok (.lstore 5, 2) := by decide +kernel
theorem dX7_common_35 : decode cX7_common 35 = .ok (.lload 9, 2) := by decide +kernel
theorem dX7_common_37 : decode cX7_common 37 = .ok (.lstore 7, 2) := by decide +kernel
theorem dX7_common_39 : decode cX7_common 39 = .ok (.goto (-22), 3) := by decide +kernel
theorem dX7_common_42 : decode cX7_common 42 = .ok (.lload 5, 2) := by decide +kernel
theorem dX7_common_44 : decode cX7_common 44 = .ok (.lreturn, 1) := by decide +kernel
set_option maxRecDepth 20000 in
theorem ggX7_share_X7_common : GoodIn wsX7_share wsX7_common := goodIn_r _ [5] (by decide +kernel) (by decide +kernel)
set_option maxRecDepth 20000 in
theorem gX7_share_X7_common : GoodIn wsX7_share (wsV RX7 138 RX7 yX7_common wsX7_common) := goodIn_app (goodIn_of _ (by decide +kernel)) ggX7_share_X7_common
theorem dX7_share_0 : decode cX7_share 0 = .ok (.aload_n 0, 1) := by decide +kernel
theorem dX7_share_1 : decode cX7_share 1 = .ok (.lload_n 1, 1) := by decide +kernel
theorem dX7_share_2 : decode cX7_share 2 = .ok (.lload_n 3, 1) := by decide +kernel
theorem dX7_share_3 : decode cX7_share 3 = .ok (.invokevirtual 138, 3) := by decide +kernel
theorem dX7_share_6 : decode cX7_share 6 = .ok (.lstore 6, 2) := by decide +kernel
theorem dX7_share_8 : decode cX7_share 8 = .ok (.iload 5, 2) := by decide +kernel
theorem dX7_share_10 : decode cX7_share 10 = .ok (.ifCond .ne 10, 3) := by decide +kernel
theorem dX7_share_13 : decode cX7_share 13 = .ok (.lload_n 1, 1) := by decide +kernel
theorem dX7_share_14 : decode cX7_share 14 = .ok (.lload 6, 2) := by decide +kernel
theorem dX7_share_16 : decode cX7_share 16 = .ok (.ldiv, 1) := by decide +kernel
theorem dX7_share_17 : decode cX7_share 17 = .ok (.goto 7, 3) := by decide +kernel
theorem dX7_share_20 : decode cX7_share 20 = .ok (.lload_n 3, 1) := by decide +kernel
theorem dX7_share_21 : decode cX7_share 21 = .ok (.lload 6, 2) := by decide +kernel
theorem dX7_share_23 : decode cX7_share 23 = .ok (.ldiv, 1) := by decide +kernel
theorem dX7_share_24 : decode cX7_share 24 = .ok (.lreturn, 1) := by decide +kernel
set_option maxRecDepth 20000 in
theorem ggX7_table_X7_begins : GoodIn wsX7_table wsX7_begins := goodIn_r _ [8, 9, 10, 11, 12, 7, 13, 2, 30, 31, 32, 33, 34, 35, 36, 37, 38, 39, 40, 41, 42, 43, 44, 45, 46, 47, 48, 49, 50, 51, 52, 53, 54, 55, 56, 57, 58, 59] (by decide +kernel) (by decide +kernel)
set_option maxRecDepth 20000 in
theorem gX7_table_X7_begins : GoodIn wsX7_table (wsV RX7 91 RX7 yX7_begins wsX7_begins) := goodIn_app (goodIn_of _ (by decide +kernel)) ggX7_table_X7_begins
set_option maxRecDepth 20000 in
theorem ggX7_table_X7_tables : GoodIn wsX7_table wsX7_tables := goodIn_r _ [17, 3, 2, 18, 19, 20, 7, 21, 22, 23, 24, 25, 26, 27, 28, 29, 30, 31, 32, 33, 34, 35, 36, 37, 38, 39, 40, 41, 42, 43, 44, 45, 46, 47, 48, 49, 50, 51, 52, 53, 54, 55, 56, 57, 58, 59] (by decide +kernel) (by decide +kernel)
set_option maxRecDepth 20000 in
theorem gX7_table_X7_tables : GoodIn wsX7_table (wsV RX7 142 RX7 yX7_tables wsX7_tables) := goodIn_app (goodIn_of _ (by decide +kernel)) ggX7_table_X7_tables
theorem dX7_table_0 : decode cX7_table 0 = .ok (.aload_n 0, 1) := by decide +kernel
theorem dX7_table_1 : decode cX7_table 1 = .ok (.iconst 0, 1) := by decide +kernel
theorem dX7_table_2 : decode cX7_table 2 = .ok (.putfield 76, 3) := by decide +kernel
theorem dX7_table_5 : decode cX7_table 5 = .ok (.aload_n 0, 1) := by decide +kernel
theorem dX7_table_6 : decode cX7_table 6 = .ok (.invokevirtual 91, 3) := by decide +kernel
theorem dX7_table_9 : decode cX7_table 9 = .ok (.iload_n 1, 1) := by decide +kernel
theorem dX7_table_10 : decode cX7_table 10 = .ok (.ifCond .lt 27, 3) := by decide +kernel
theorem dX7_table_13 : decode cX7_table 13 = .ok (.iload_n 2, 1) := by decide +kernel
theorem dX7_table_14 : decode cX7_table 14 = .ok (.ifCond .lt 23, 3) := by decide +kernel
theorem dX7_table_17 : decode cX7_table 17 = .ok (.iload_n 1, 1) := by decide +kernel
theorem dX7_table_18 : decode cX7_table 18 = .ok (.aload_n 0, 1) := by decide +kernel
theorem dX7_table_19 : decode cX7_table 19 = .ok (.getfield 7, 3) := by decide +kernel
theorem dX7_table_22 : decode cX7_table 22 = .ok (.iconst 1, 1) := by decide +kernel
theorem dX7_table_23 : decode cX7_table 23 = .ok (.iaload, 1) := by decide +kernel
theorem dX7_table_24 : decode cX7_table 24 = .ok (.if_icmp .ge 13, 3) := by decide +kernel
theorem dX7_table_27 : decode cX7_table 27 = .ok (.iload_n 2, 1) := by decide +kernel
theorem dX7_table_28 : decode cX7_table 28 = .ok (.aload_n 0, 1) := by decide +kernel
theorem dX7_table_29 : decode cX7_table 29 = .ok (.getfield 7, 3) := by decide +kernel
theorem dX7_table_32 : decode cX7_table 32 = .ok (.iconst 1, 1) := by decide +kernel
theorem dX7_table_33 : decode cX7_table 33 = .ok (.iaload, 1) := by decide +kernel
theorem dX7_table_34 : decode cX7_table 34 = .ok (.if_icmp .lt 7, 3) := by decide +kernel
theorem dX7_table_37 : decode cX7_table 37 = .ok (.sipush (-1000), 3) := by decide +kernel
theorem dX7_table_40 : decode cX7_table 40 = .ok (.ireturn, 1) := by decide +kernel
theorem dX7_table_41 : decode cX7_table 41 = .ok (.aload_n 0, 1) := by decide +kernel
theorem dX7_table_42 : decode cX7_table 42 = .ok (.iconst 0, 1) := by decide +kernel
theorem dX7_table_43 : decode cX7_table 43 = .ok (.invokevirtual 142, 3) := by decide +kernel
theorem dX7_table_46 : decode cX7_table 46 = .ok (.aload_n 0, 1) := by decide +kernel
theorem dX7_table_47 : decode cX7_table 47 = .ok (.getfield 16, 3) := by decide +kernel
theorem dX7_table_50 : decode cX7_table 50 = .ok (.bipush 6, 2) := by decide +kernel
theorem dX7_table_52 : decode cX7_table 52 = .ok (.iload_n 1, 1) := by decide +kernel
theorem dX7_table_53 : decode cX7_table 53 = .ok (.imul, 1) := by decide +kernel
theorem dX7_table_54 : decode cX7_table 54 = .ok (.iload_n 2, 1) := by decide +kernel
theorem dX7_table_55 : decode cX7_table 55 = .ok (.iadd, 1) := by decide +kernel
theorem dX7_table_56 : decode cX7_table 56 = .ok (.laload, 1) := by decide +kernel
theorem dX7_table_57 : decode cX7_table 57 = .ok (.l2i, 1) := by decide +kernel
theorem dX7_table_58 : decode cX7_table 58 = .ok (.ireturn, 1) := by decide +kernel
set_option maxRecDepth 20000 in
theorem ggX7_worth_X7_begins : GoodIn wsX7_worth wsX7_begins := goodIn_r _ [6, 7, 8, 9, 10, 5, 11, 12, 40, 41, 42, 43, 44, 45, 46, 47, 48, 49, 50, 51, 52, 53, 54, 55, 56, 57, 58, 59, 60, 61, 62, 63, 64, 65, 66, 67, 68, 69] (by decide +kernel) (by decide +kernel)
set_option maxRecDepth 20000 in
theorem gX7_worth_X7_begins : GoodIn wsX7_worth (wsV RX7 91 RX7 yX7_begins wsX7_begins) := goodIn_app (goodIn_of _ (by decide +kernel)) ggX7_worth_X7_begins
set_option maxRecDepth 20000 in
theorem ggX7_worth_X7_tables : GoodIn wsX7_worth wsX7_tables := goodIn_r _ [16, 17, 12, 18, 19, 20, 5, 21, 22, 23, 24, 25, 26, 27, 28, 29, 40, 41, 42, 43, 44, 45, 46, 47, 48, 49, 50, 51, 52, 53, 54, 55, 56, 57, 58, 59, 60, 61, 62, 63, 64, 65, 66, 67, 68, 69] (by decide +kernel) (by decide +kernel)
set_option maxRecDepth 20000 in
theorem gX7_worth_X7_tables : GoodIn wsX7_worth (wsV RX7 142 RX7 yX7_tables wsX7_tables) := goodIn_app (goodIn_of _ (by decide +kernel)) ggX7_worth_X7_tables
set_option maxRecDepth 20000 in
theorem ggX7_worth_X7_wholeWorth : GoodIn wsX7_worth wsX7_wholeWorth := goodIn_r _ [33, 34, 17, 12, 35, 36, 37, 5, 38, 39, 26, 27, 28, 29, 40, 41, 42, 43, 44, 45, 46, 47, 48, 49, 50, 51, 52, 53, 54, 55, 56, 57, 58, 59, 60, 61, 62, 63, 64, 65, 66, 67, 68, 69] (by decide +kernel) (by decide +kernel)
set_option maxRecDepth 20000 in
theorem gX7_worth_X7_wholeWorth : GoodIn wsX7_worth (wsV RX7 146 RX7 yX7_wholeWorth wsX7_wholeWorth) := goodIn_app (goodIn_of _ (by decide +kernel)) ggX7_worth_X7_wholeWorth
theorem dX7_worth_0 : decode cX7_worth 0 = .ok (.aload_n 0, 1) := by decide +kernel
theorem dX7_worth_1 : decode cX7_worth 1 = .ok (.iconst 0, 1) := by decide +kernel
theorem dX7_worth_2 : decode cX7_worth 2 = .ok (.putfield 76, 3) := by decide +kernel
theorem dX7_worth_5 : decode cX7_worth 5 = .ok (.aload_n 0, 1) := by decide +kernel
theorem dX7_worth_6 : decode cX7_worth 6 = .ok (.invokevirtual 91, 3) := by decide +kernel
theorem dX7_worth_9 : decode cX7_worth 9 = .ok (.aload_n 0, 1) := by decide +kernel
theorem dX7_worth_10 : decode cX7_worth 10 = .ok (.iconst 0, 1) := by decide +kernel
theorem dX7_worth_11 : decode cX7_worth 11 = .ok (.invokevirtual 142, 3) := by decide +kernel
theorem dX7_worth_14 : decode cX7_worth 14 = .ok (.aload_n 0, 1) := by decide +kernel
theorem dX7_worth_15 : decode cX7_worth 15 = .ok (.invokevirtual 146, 3) := by decide +kernel
theorem dX7_worth_18 : decode cX7_worth 18 = .ok (.lreturn, 1) := by decide +kernel
set_option maxRecDepth 20000 in
theorem ggX7_rank_X7_tables : GoodIn wsX7_rank wsX7_tables := goodIn_r _ [6, 7, 8, 9, 10, 11, 5, 12, 13, 14, 15, 16, 17, 18, 19, 20, 39, 40, 41, 42, 43, 44, 45, 46, 47, 48, 49, 50, 51, 52, 53, 54, 55, 56, 57, 58, 59, 60, 61, 62, 63, 64, 65, 66, 67, 68] (by decide +kernel) (by decide +kernel)
set_option maxRecDepth 20000 in
theorem gX7_rank_X7_tables : GoodIn wsX7_rank (wsV RX7 142 RX7 yX7_tables wsX7_tables) := goodIn_app (goodIn_of _ (by decide +kernel)) ggX7_rank_X7_tables
set_option maxRecDepth 20000 in
theorem ggX7_rank_X7_findLines : GoodIn wsX7_rank wsX7_findLines := goodIn_r _ [24, 1, 25, 8, 26, 7, 27, 28, 29, 30, 31, 5, 32, 33, 34, 35, 36, 37, 38, 17, 18, 19, 20, 39, 40, 41, 42, 43, 44, 45, 46, 47, 48, 49, 50, 51, 52, 53, 54, 55, 56, 57, 58, 59, 60, 61, 62, 63, 64, 65, 66, 67, 68] (by decide +kernel) (by decide +kernel)
set_option maxRecDepth 20000 in
theorem gX7_rank_X7_findLines : GoodIn wsX7_rank (wsV RX7 135 RX7 yX7_findLines wsX7_findLines) := goodIn_app (goodIn_of _ (by decide +kernel)) ggX7_rank_X7_findLines
theorem dX7_rank_0 : decode cX7_rank 0 = .ok (.aload_n 0, 1) := by decide +kernel
theorem dX7_rank_1 : decode cX7_rank 1 = .ok (.iconst 0, 1) := by decide +kernel
theorem dX7_rank_2 : decode cX7_rank 2 = .ok (.invokevirtual 142, 3) := by decide +kernel
theorem dX7_rank_5 : decode cX7_rank 5 = .ok (.aload_n 0, 1) := by decide +kernel
theorem dX7_rank_6 : decode cX7_rank 6 = .ok (.invokevirtual 135, 3) := by decide +kernel
theorem dX7_rank_9 : decode cX7_rank 9 = .ok (.aload_n 0, 1) := by decide +kernel
theorem dX7_rank_10 : decode cX7_rank 10 = .ok (.getfield 120, 3) := by decide +kernel
theorem dX7_rank_13 : decode cX7_rank 13 = .ok (.ireturn, 1) := by decide +kernel
set_option maxRecDepth 20000 in
theorem ggX7_about_X7_begins : GoodIn wsX7_about wsX7_begins := goodIn_r _ [7, 8, 9, 10, 11, 6, 12, 2, 61, 62, 63, 64, 65, 66, 67, 68, 69, 70, 71, 72, 73, 74, 75, 76, 77, 78, 79, 80, 81, 82, 83, 84, 85, 86, 87, 88, 89, 90] (by decide +kernel) (by decide +kernel)
set_option maxRecDepth 20000 in
theorem gX7_about_X7_begins : GoodIn wsX7_about (wsV RX7 91 RX7 yX7_begins wsX7_begins) := goodIn_app (goodIn_of _ (by decide +kernel)) ggX7_about_X7_begins
set_option maxRecDepth 20000 in
theorem ggX7_about_X7_trials : GoodIn wsX7_about wsX7_trials := goodIn_r _ [16, 2, 61, 62, 63, 64, 65, 66, 67, 68, 69, 70, 71, 72, 73, 74, 75, 76, 77, 78, 79, 80, 81, 82, 83, 84, 85, 86, 87, 88, 89, 90] (by decide +kernel) (by decide +kernel)
set_option maxRecDepth 20000 in
theorem gX7_about_X7_trials : GoodIn wsX7_about (wsV RX7 105 RX7 yX7_trials wsX7_trials) := goodIn_app (goodIn_of _ (by decide +kernel)) ggX7_about_X7_trials
set_option maxRecDepth 20000 in
theorem ggX7_about_X7_rank : GoodIn wsX7_about wsX7_rank := goodIn_r _ [20, 21, 22, 23, 24, 6, 25, 26, 2, 27, 28, 29, 30, 31, 32, 33, 34, 35, 36, 37, 38, 39, 40, 41, 42, 43, 44, 45, 46, 47, 48, 49, 50, 51, 52, 53, 54, 55, 56, 61, 62, 63, 64, 65, 66, 67, 68, 69, 70, 71, 72, 73, 74, 75, 76, 77, 78, 79, 80, 81, 82, 83, 84, 85, 86, 87, 88, 89, 90] (by decide +kernel) (by decide +kernel)
set_option maxRecDepth 20000 in
theorem gX7_about_X7_rank : GoodIn wsX7_about (wsV RX7 150 RX7 yX7_rank wsX7_rank) := goodIn_app (goodIn_of _ (by decide +kernel)) ggX7_about_X7_rank
set_option maxRecDepth 20000 in
theorem ggX7_about_X7_isSetting : GoodIn wsX7_about wsX7_isSetting := goodIn_r _ [60, 27, 28, 29, 6, 30, 2, 61, 62, 63, 64, 65, 66, 67, 68, 69, 70, 71, 72, 73, 74, 75, 76, 77, 78, 79, 80, 81, 82, 83, 84, 85, 86, 87, 88, 89, 90] (by decide +kernel) (by decide +kernel)
set_option maxRecDepth 20000 in
theorem gX7_about_X7_isSetting : GoodIn wsX7_about (wsV RX7 101 RX7 yX7_isSetting wsX7_isSetting) := goodIn_app (goodIn_of _ (by decide +kernel)) ggX7_about_X7_isSetting
theorem dX7_about_0 : decode cX7_about 0 = .ok (.aload_n 0, 1) := by decide +kernel
theorem dX7_about_1 : decode cX7_about 1 = .ok (.iconst 0, 1) := by decide +kernel
theorem dX7_about_2 : decode cX7_about 2 = .ok (.putfield 76, 3) := by decide +kernel
theorem dX7_about_5 : decode cX7_about 5 = .ok (.aload_n 0, 1) := by decide +kernel
theorem dX7_about_6 : decode cX7_about 6 = .ok (.invokevirtual 91, 3) := by decide +kernel
theorem dX7_about_9 : decode cX7_about 9 = .ok (.iload_n 1, 1) := by decide +kernel
theorem dX7_about_10 : decode cX7_about 10 = .ok (.ifCond .ne 10, 3) := by decide +kernel
theorem dX7_about_13 : decode cX7_about 13 = .ok (.aload_n 0, 1) := by decide +kernel
theorem dX7_about_14 : decode cX7_about 14 = .ok (.getfield 7, 3) := by decide +kernel
theorem dX7_about_17 : decode cX7_about 17 = .ok (.iconst 0, 1) := by decide +kernel
theorem dX7_about_18 : decode cX7_about 18 = .ok (.iaload, 1) := by decide +kernel
theorem dX7_about_19 : decode cX7_about 19 = .ok (.ireturn, 1) := by decide +kernel
theorem dX7_about_20 : decode cX7_about 20 = .ok (.iload_n 1, 1) := by decide +kernel
theorem dX7_about_21 : decode cX7_about 21 = .ok (.iconst 1, 1) := by decide +kernel
theorem dX7_about_22 : decode cX7_about 22 = .ok (.if_icmp .ne 10, 3) := by decide +kernel
theorem dX7_about_25 : decode cX7_about 25 = .ok (.aload_n 0, 1) := by decide +kernel
theorem dX7_about_26 : decode cX7_about 26 = .ok (.getfield 7, 3) := by decide +kernel
theorem dX7_about_29 : decode cX7_about 29 = .ok (.iconst 1, 1) := by decide +kernel
theorem dX7_about_30 : decode cX7_about 30 = .ok (.iaload, 1) := by decide +kernel
theorem dX7_about_31 : decode cX7_about 31 = .ok (.ireturn, 1) := by decide +kernel
theorem dX7_about_32 : decode cX7_about 32 = .ok (.iload_n 1, 1) := by decide +kernel
theorem dX7_about_33 : decode cX7_about 33 = .ok (.iconst 2, 1) := by decide +kernel
theorem dX7_about_34 : decode cX7_about 34 = .ok (.if_icmp .ne 8, 3) := by decide +kernel
theorem dX7_about_37 : decode cX7_about 37 = .ok (.aload_n 0, 1) := by decide +kernel
theorem dX7_about_38 : decode cX7_about 38 = .ok (.invokevirtual 105, 3) := by decide +kernel
theorem dX7_about_41 : decode cX7_about 41 = .ok (.ireturn, 1) := by decide +kernel
theorem dX7_about_42 : decode cX7_about 42 = .ok (.iload_n 1, 1) := by decide +kernel
theorem dX7_about_43 : decode cX7_about 43 = .ok (.iconst 3, 1) := by decide +kernel
theorem dX7_about_44 : decode cX7_about 44 = .ok (.if_icmp .ne 37, 3) := by decide +kernel
theorem dX7_about_47 : decode cX7_about 47 = .ok (.iconst 0, 1) := by decide +kernel
theorem dX7_about_48 : decode cX7_about 48 = .ok (.istore_n 2, 1) := by decide +kernel
theorem dX7_about_49 : decode cX7_about 49 = .ok (.iconst 0, 1) := by decide +kernel
theorem dX7_about_50 : decode cX7_about 50 = .ok (.istore_n 3, 1) := by decide +kernel
theorem dX7_about_51 : decode cX7_about 51 = .ok (.iload_n 3, 1) := by decide +kernel
theorem dX7_about_52 : decode cX7_about 52 = .ok (.bipush 64, 2) := by decide +kernel
theorem dX7_about_54 : decode cX7_about 54 = .ok (.if_icmp .ge 25, 3) := by decide +kernel
theorem dX7_about_57 : decode cX7_about 57 = .ok (.aload_n 0, 1) := by decide +kernel
theorem dX7_about_58 : decode cX7_about 58 = .ok (.getfield 7, 3) := by decide +kernel
theorem dX7_about_61 : decode cX7_about 61 = .ok (.bipush 7, 2) := by decide +kernel
theorem dX7_about_63 : decode cX7_about 63 = .ok (.iload_n 3, 1) := by decide +kernel
theorem dX7_about_64 : decode cX7_about 64 = .ok (.iadd, 1) := by decide +kernel
theorem dX7_about_65 : decode cX7_about 65 = .ok (.iaload, 1) := by decide +kernel
theorem dX7_about_66 : decode cX7_about 66 = .ok (.ifCond .le 7, 3) := by decide +kernel
theorem dX7_about_69 : decode cX7_about 69 = .ok (.iload_n 2, 1) := by decide +kernel
theorem dX7_about_70 : decode cX7_about 70 = .ok (.iconst 1, 1) := by decide +kernel
theorem dX7_about_71 : decode cX7_about 71 = .ok (.iadd, 1) := by decide +kernel
theorem dX7_about_72 : decode cX7_about 72 = .ok (.istore_n 2, 1) := by decide +kernel
theorem dX7_about_73 : decode cX7_about 73 = .ok (.iinc 3 1, 3) := by decide +kernel
theorem dX7_about_76 : decode cX7_about 76 = .ok (.goto (-25), 3) := by decide +kernel
theorem dX7_about_79 : decode cX7_about 79 = .ok (.iload_n 2, 1) := by decide +kernel
theorem dX7_about_80 : decode cX7_about 80 = .ok (.ireturn, 1) := by decide +kernel
theorem dX7_about_81 : decode cX7_about 81 = .ok (.iload_n 1, 1) := by decide +kernel
theorem dX7_about_82 : decode cX7_about 82 = .ok (.iconst 4, 1) := by decide +kernel
theorem dX7_about_83 : decode cX7_about 83 = .ok (.if_icmp .ne 8, 3) := by decide +kernel
theorem dX7_about_86 : decode cX7_about 86 = .ok (.aload_n 0, 1) := by decide +kernel
theorem dX7_about_87 : decode cX7_about 87 = .ok (.invokevirtual 150, 3) := by decide +kernel
theorem dX7_about_90 : decode cX7_about 90 = .ok (.ireturn, 1) := by decide +kernel
theorem dX7_about_91 : decode cX7_about 91 = .ok (.iload_n 1, 1) := by decide +kernel
theorem dX7_about_92 : decode cX7_about 92 = .ok (.iconst 5, 1) := by decide +kernel
theorem dX7_about_93 : decode cX7_about 93 = .ok (.if_icmp .ne 11, 3) := by decide +kernel
theorem dX7_about_96 : decode cX7_about 96 = .ok (.aload_n 0, 1) := by decide +kernel
theorem dX7_about_97 : decode cX7_about 97 = .ok (.getfield 7, 3) := by decide +kernel
theorem dX7_about_100 : decode cX7_about 100 = .ok (.bipush 79, 2) := by decide +kernel
theorem dX7_about_102 : decode cX7_about 102 = .ok (.iaload, 1) := by decide +kernel
theorem dX7_about_103 : decode cX7_about 103 = .ok (.ireturn, 1) := by decide +kernel
theorem dX7_about_104 : decode cX7_about 104 = .ok (.iload_n 1, 1) := by decide +kernel
theorem dX7_about_105 : decode cX7_about 105 = .ok (.bipush 10, 2) := by decide +kernel
theorem dX7_about_107 : decode cX7_about 107 = .ok (.if_icmp .lt 28, 3) := by decide +kernel
theorem dX7_about_110 : decode cX7_about 110 = .ok (.iload_n 1, 1) := by decide +kernel
theorem dX7_about_111 : decode cX7_about 111 = .ok (.bipush 10, 2) := by decide +kernel
theorem dX7_about_113 : decode cX7_about 113 = .ok (.isub, 1) := by decide +kernel
theorem dX7_about_114 : decode cX7_about 114 = .ok (.aload_n 0, 1) := by decide +kernel
theorem dX7_about_115 : decode cX7_about 115 = .ok (.getfield 7, 3) := by decide +kernel
theorem dX7_about_118 : decode cX7_about 118 = .ok (.iconst 1, 1) := by decide +kernel
theorem dX7_about_119 : decode cX7_about 119 = .ok (.iaload, 1) := by decide +kernel
theorem dX7_about_120 : decode cX7_about 120 = .ok (.if_icmp .ge 15, 3) := by decide +kernel
theorem dX7_about_123 : decode cX7_about 123 = .ok (.aload_n 0, 1) := by decide +kernel
theorem dX7_about_124 : decode cX7_about 124 = .ok (.getfield 7, 3) := by decide +kernel
theorem dX7_about_127 : decode cX7_about 127 = .ok (.iconst 2, 1) := by decide +kernel
theorem dX7_about_128 : decode cX7_about 128 = .ok (.iload_n 1, 1) := by decide +kernel
theorem dX7_about_129 : decode cX7_about 129 = .ok (.iadd, 1) := by decide +kernel
theorem dX7_about_130 : decode cX7_about 130 = .ok (.bipush 10, 2) := by decide +kernel
theorem dX7_about_132 : decode cX7_about 132 = .ok (.isub, 1) := by decide +kernel
theorem dX7_about_133 : decode cX7_about 133 = .ok (.iaload, 1) := by decide +kernel
theorem dX7_about_134 : decode cX7_about 134 = .ok (.ireturn, 1) := by decide +kernel
theorem dX7_about_135 : decode cX7_about 135 = .ok (.iload_n 1, 1) := by decide +kernel
theorem dX7_about_136 : decode cX7_about 136 = .ok (.bipush 100, 2) := by decide +kernel
theorem dX7_about_138 : decode cX7_about 138 = .ok (.if_icmp .lt 29, 3) := by decide +kernel
theorem dX7_about_141 : decode cX7_about 141 = .ok (.aload_n 0, 1) := by decide +kernel
theorem dX7_about_142 : decode cX7_about 142 = .ok (.iload_n 1, 1) := by decide +kernel
theorem dX7_about_143 : decode cX7_about 143 = .ok (.bipush 100, 2) := by decide +kernel
theorem dX7_about_145 : decode cX7_about 145 = .ok (.isub, 1) := by decide +kernel
theorem dX7_about_146 : decode cX7_about 146 = .ok (.invokevirtual 101, 3) := by decide +kernel
theorem dX7_about_149 : decode cX7_about 149 = .ok (.ifCond .eq 18, 3) := by decide +kernel
theorem dX7_about_152 : decode cX7_about 152 = .ok (.aload_n 0, 1) := by decide +kernel
theorem dX7_about_153 : decode cX7_about 153 = .ok (.getfield 7, 3) := by decide +kernel
theorem dX7_about_156 : decode cX7_about 156 = .ok (.bipush 7, 2) := by decide +kernel
theorem dX7_about_158 : decode cX7_about 158 = .ok (.iload_n 1, 1) := by decide +kernel
theorem dX7_about_159 : decode cX7_about 159 = .ok (.iadd, 1) := by decide +kernel
theorem dX7_about_160 : decode cX7_about 160 = .ok (.bipush 100, 2) := by decide +kernel
theorem dX7_about_162 : decode cX7_about 162 = .ok (.isub, 1) := by decide +kernel
theorem dX7_about_163 : decode cX7_about 163 = .ok (.iaload, 1) := by decide +kernel
theorem dX7_about_164 : decode cX7_about 164 = .ok (.goto 4, 3) := by decide +kernel
theorem dX7_about_167 : decode cX7_about 167 = .ok (.iconst (-1), 1) := by decide +kernel
theorem dX7_about_168 : decode cX7_about 168 = .ok (.ireturn, 1) := by decide +kernel
set_option maxRecDepth 20000 in
theorem ggX7_known_X7_begins : GoodIn wsX7_known wsX7_begins := goodIn_r _ [6, 7, 8, 9, 10, 5, 11, 12, 60, 61, 62, 63, 64, 65, 66, 67, 68, 69, 70, 71, 72, 73, 74, 75, 76, 77, 78, 79, 80, 81, 82, 83, 84, 85, 86, 87, 88, 89] (by decide +kernel) (by decide +kernel)
set_option maxRecDepth 20000 in
theorem gX7_known_X7_begins : GoodIn wsX7_known (wsV RX7 91 RX7 yX7_begins wsX7_begins) := goodIn_app (goodIn_of _ (by decide +kernel)) ggX7_known_X7_begins
set_option maxRecDepth 20000 in
theorem ggX7_known_X7_takesSum : GoodIn wsX7_known wsX7_takesSum := goodIn_r _ [16, 17, 12, 18, 19, 60, 61, 62, 63, 64, 65, 66, 67, 68, 69, 70, 71, 72, 73, 74, 75, 76, 77, 78, 79, 80, 81, 82, 83, 84, 85, 86, 87, 88, 89] (by decide +kernel) (by decide +kernel)
set_option maxRecDepth 20000 in
theorem gX7_known_X7_takesSum : GoodIn wsX7_known (wsV RX7 153 RX7 yX7_takesSum wsX7_takesSum) := goodIn_app (goodIn_of _ (by decide +kernel)) ggX7_known_X7_takesSum
set_option maxRecDepth 20000 in
theorem ggX7_known_X7_tables : GoodIn wsX7_known wsX7_tables := goodIn_r _ [23, 24, 12, 25, 26, 27, 5, 28, 29, 30, 31, 32, 33, 34, 35, 36, 60, 61, 62, 63, 64, 65, 66, 67, 68, 69, 70, 71, 72, 73, 74, 75, 76, 77, 78, 79, 80, 81, 82, 83, 84, 85, 86, 87, 88, 89] (by decide +kernel) (by decide +kernel)
set_option maxRecDepth 20000 in
theorem gX7_known_X7_tables : GoodIn wsX7_known (wsV RX7 142 RX7 yX7_tables wsX7_tables) := goodIn_app (goodIn_of _ (by decide +kernel)) ggX7_known_X7_tables
set_option maxRecDepth 20000 in
theorem ggX7_known_X7_isKnown : GoodIn wsX7_known wsX7_isKnown := goodIn_r _ [40, 12, 41, 24, 17, 42, 43, 44, 45, 5, 46, 47, 48, 49, 50, 51, 52, 53, 54, 55, 56, 57, 58, 59, 33, 34, 35, 36, 60, 61, 62, 63, 64, 65, 66, 67, 68, 69, 70, 71, 72, 73, 74, 75, 76, 77, 78, 79, 80, 81, 82, 83, 84, 85, 86, 87, 88, 89] (by decide +kernel) (by decide +kernel)
set_option maxRecDepth 20000 in
theorem gX7_known_X7_isKnown : GoodIn wsX7_known (wsV RX7 157 RX7 yX7_isKnown wsX7_isKnown) := goodIn_app (goodIn_of _ (by decide +kernel)) ggX7_known_X7_isKnown
theorem dX7_known_0 : decode cX7_known 0 = .ok (.aload_n 0, 1) := by decide +kernel
theorem dX7_known_1 : decode cX7_known 1 = .ok (.iconst 0, 1) := by decide +kernel
theorem dX7_known_2 : decode cX7_known 2 = .ok (.putfield 76, 3) := by decide +kernel
theorem dX7_known_5 : decode cX7_known 5 = .ok (.aload_n 0, 1) := by decide +kernel
theorem dX7_known_6 : decode cX7_known 6 = .ok (.invokevirtual 91, 3) := by decide +kernel
theorem dX7_known_9 : decode cX7_known 9 = .ok (.aload_n 0, 1) := by decide +kernel
theorem dX7_known_10 : decode cX7_known 10 = .ok (.iload_n 1, 1) := by decide +kernel
theorem dX7_known_11 : decode cX7_known 11 = .ok (.iload_n 2, 1) := by decide +kernel
theorem dX7_known_12 : decode cX7_known 12 = .ok (.iload_n 3, 1) := by decide +kernel
theorem dX7_known_13 : decode cX7_known 13 = .ok (.iload 4, 2) := by decide +kernel
theorem dX7_known_15 : decode cX7_known 15 = .ok (.iload 5, 2) := by decide +kernel
theorem dX7_known_17 : decode cX7_known 17 = .ok (.invokevirtual 153, 3) := by decide +kernel
theorem dX7_known_20 : decode cX7_known 20 = .ok (.ifCond .ne 5, 3) := by decide +kernel
theorem dX7_known_23 : decode cX7_known 23 = .ok (.iconst (-1), 1) := by decide +kernel
theorem dX7_known_24 : decode cX7_known 24 = .ok (.ireturn, 1) := by decide +kernel
theorem dX7_known_25 : decode cX7_known 25 = .ok (.aload_n 0, 1) := by decide +kernel
theorem dX7_known_26 : decode cX7_known 26 = .ok (.iconst 0, 1) := by decide +kernel
theorem dX7_known_27 : decode cX7_known 27 = .ok (.invokevirtual 142, 3) := by decide +kernel
theorem dX7_known_30 : decode cX7_known 30 = .ok (.aload_n 0, 1) := by decide +kernel
theorem dX7_known_31 : decode cX7_known 31 = .ok (.invokevirtual 157, 3) := by decide +kernel
theorem dX7_known_34 : decode cX7_known 34 = .ok (.ifCond .eq 7, 3) := by decide +kernel
theorem dX7_known_37 : decode cX7_known 37 = .ok (.iconst 1, 1) := by decide +kernel
theorem dX7_known_38 : decode cX7_known 38 = .ok (.goto 4, 3) := by decide +kernel
theorem dX7_known_41 : decode cX7_known 41 = .ok (.iconst 0, 1) := by decide +kernel
theorem dX7_known_42 : decode cX7_known 42 = .ok (.ireturn, 1) := by decide +kernel
set_option maxRecDepth 20000 in
theorem ggX7_spread_X7_begins : GoodIn wsX7_spread wsX7_begins := goodIn_r _ [9, 10, 11, 12, 13, 8, 14, 15, 73, 74, 75, 76, 77, 78, 79, 80, 81, 82, 83, 84, 85, 86, 87, 88, 89, 90, 91, 92, 93, 94, 95, 96, 97, 98, 99, 100, 101, 102] (by decide +kernel) (by decide +kernel)
set_option maxRecDepth 20000 in
theorem gX7_spread_X7_begins : GoodIn wsX7_spread (wsV RX7 91 RX7 yX7_begins wsX7_begins) := goodIn_app (goodIn_of _ (by decide +kernel)) ggX7_spread_X7_begins
set_option maxRecDepth 20000 in
theorem ggX7_spread_X7_takesSum : GoodIn wsX7_spread wsX7_takesSum := goodIn_r _ [19, 3, 15, 20, 21, 73, 74, 75, 76, 77, 78, 79, 80, 81, 82, 83, 84, 85, 86, 87, 88, 89, 90, 91, 92, 93, 94, 95, 96, 97, 98, 99, 100, 101, 102] (by decide +kernel) (by decide +kernel)
set_option maxRecDepth 20000 in
theorem gX7_spread_X7_takesSum : GoodIn wsX7_spread (wsV RX7 153 RX7 yX7_takesSum wsX7_takesSum) := goodIn_app (goodIn_of _ (by decide +kernel)) ggX7_spread_X7_takesSum
set_option maxRecDepth 20000 in
theorem ggX7_spread_X7_tables : GoodIn wsX7_spread wsX7_tables := goodIn_r _ [25, 26, 15, 27, 28, 29, 8, 30, 31, 32, 33, 34, 35, 36, 37, 38, 73, 74, 75, 76, 77, 78, 79, 80, 81, 82, 83, 84, 85, 86, 87, 88, 89, 90, 91, 92, 93, 94, 95, 96, 97, 98, 99, 100, 101, 102] (by decide +kernel) (by decide +kernel)
set_option maxRecDepth 20000 in
theorem gX7_spread_X7_tables : GoodIn wsX7_spread (wsV RX7 142 RX7 yX7_tables wsX7_tables) := goodIn_app (goodIn_of _ (by decide +kernel)) ggX7_spread_X7_tables
set_option maxRecDepth 20000 in
theorem ggX7_spread_X7_isKnown : GoodIn wsX7_spread wsX7_isKnown := goodIn_r _ [42, 15, 43, 26, 3, 44, 45, 46, 47, 8, 48, 4, 49, 50, 51, 52, 53, 54, 55, 56, 57, 58, 59, 60, 35, 36, 37, 38, 73, 74, 75, 76, 77, 78, 79, 80, 81, 82, 83, 84, 85, 86, 87, 88, 89, 90, 91, 92, 93, 94, 95, 96, 97, 98, 99, 100, 101, 102] (by decide +kernel) (by decide +kernel)
set_option maxRecDepth 20000 in
theorem gX7_spread_X7_isKnown : GoodIn wsX7_spread (wsV RX7 157 RX7 yX7_isKnown wsX7_isKnown) := goodIn_app (goodIn_of _ (by decide +kernel)) ggX7_spread_X7_isKnown
set_option maxRecDepth 20000 in
theorem ggX7_spread_X7_given : GoodIn wsX7_spread wsX7_given := goodIn_r _ [64, 44, 51, 52, 53, 8, 54, 55, 26, 50, 56, 57, 58, 59, 60, 35, 36, 37, 38, 73, 74, 75, 76, 77, 78, 79, 80, 81, 82, 83, 84, 85, 86, 87, 88, 89, 90, 91, 92, 93, 94, 95, 96, 97, 98, 99, 100, 101, 102] (by decide +kernel) (by decide +kernel)
set_option maxRecDepth 20000 in
theorem gX7_spread_X7_given : GoodIn wsX7_spread (wsV RX7 163 RX7 yX7_given wsX7_given) := goodIn_app (goodIn_of _ (by decide +kernel)) ggX7_spread_X7_given
set_option maxRecDepth 20000 in
theorem ggX7_spread_X7_share : GoodIn wsX7_spread wsX7_share := goodIn_r _ [68, 69, 70, 71, 8, 72] (by decide +kernel) (by decide +kernel)
set_option maxRecDepth 20000 in
theorem gX7_spread_X7_share : GoodIn wsX7_spread (wsV RX7 167 RX7 yX7_share wsX7_share) := goodIn_app (goodIn_of _ (by decide +kernel)) ggX7_spread_X7_share
theorem dX7_spread_0 : decode cX7_spread 0 = .ok (.aload_n 0, 1) := by decide +kernel
theorem dX7_spread_1 : decode cX7_spread 1 = .ok (.iconst 0, 1) := by decide +kernel
theorem dX7_spread_2 : decode cX7_spread 2 = .ok (.putfield 76, 3) := by decide +kernel
theorem dX7_spread_5 : decode cX7_spread 5 = .ok (.aload_n 0, 1) := by decide +kernel
theorem dX7_spread_6 : decode cX7_spread 6 = .ok (.invokevirtual 91, 3) := by decide +kernel
theorem dX7_spread_9 : decode cX7_spread 9 = .ok (.iload 6, 2) := by decide +kernel
theorem dX7_spread_11 : decode cX7_spread 11 = .ok (.ifCond .lt 23, 3) := by decide +kernel
theorem dX7_spread_14 : decode cX7_spread 14 = .ok (.iload 6, 2) := by decide +kernel
theorem dX7_spread_16 : decode cX7_spread 16 = .ok (.iconst 1, 1) := by decide +kernel
theorem dX7_spread_17 : decode cX7_spread 17 = .ok (.if_icmp .gt 17, 3) := by decide +kernel
theorem dX7_spread_20 : decode cX7_spread 20 = .ok (.aload_n 0, 1) := by decide +kernel
theorem dX7_spread_21 : decode cX7_spread 21 = .ok (.iload_n 1, 1) := by decide +kernel
theorem dX7_spread_22 : decode cX7_spread 22 = .ok (.iload_n 2, 1) := by decide +kernel
theorem dX7_spread_23 : decode cX7_spread 23 = .ok (.iload_n 3, 1) := by decide +kernel
theorem dX7_spread_24 : decode cX7_spread 24 = .ok (.iload 4, 2) := by decide +kernel
theorem dX7_spread_26 : decode cX7_spread 26 = .ok (.iload 5, 2) := by decide +kernel
theorem dX7_spread_28 : decode cX7_spread 28 = .ok (.invokevirtual 153, 3) := by decide +kernel
theorem dX7_spread_31 : decode cX7_spread 31 = .ok (.ifCond .ne 7, 3) := by decide +kernel
theorem dX7_spread_34 : decode cX7_spread 34 = .ok (.ldc2_w 161, 3) := by decide +kernel
theorem dX7_spread_37 : decode cX7_spread 37 = .ok (.lreturn, 1) := by decide +kernel
theorem dX7_spread_38 : decode cX7_spread 38 = .ok (.aload_n 0, 1) := by decide +kernel
theorem dX7_spread_39 : decode cX7_spread 39 = .ok (.iconst 0, 1) := by decide +kernel
theorem dX7_spread_40 : decode cX7_spread 40 = .ok (.invokevirtual 142, 3) := by decide +kernel
theorem dX7_spread_43 : decode cX7_spread 43 = .ok (.aload_n 0, 1) := by decide +kernel
theorem dX7_spread_44 : decode cX7_spread 44 = .ok (.invokevirtual 157, 3) := by decide +kernel
theorem dX7_spread_47 : decode cX7_spread 47 = .ok (.ifCond .eq 28, 3) := by decide +kernel
theorem dX7_spread_50 : decode cX7_spread 50 = .ok (.aload_n 0, 1) := by decide +kernel
theorem dX7_spread_51 : decode cX7_spread 51 = .ok (.aload_n 0, 1) := by decide +kernel
theorem dX7_spread_52 : decode cX7_spread 52 = .ok (.aload_n 0, 1) := by decide +kernel
theorem dX7_spread_53 : decode cX7_spread 53 = .ok (.getfield 35, 3) := by decide +kernel
theorem dX7_spread_56 : decode cX7_spread 56 = .ok (.aload_n 0, 1) := by decide +kernel
theorem dX7_spread_57 : decode cX7_spread 57 = .ok (.getfield 35, 3) := by decide +kernel
theorem dX7_spread_60 : decode cX7_spread 60 = .ok (.invokevirtual 163, 3) := by decide +kernel
theorem dX7_spread_63 : decode cX7_spread 63 = .ok (.aload_n 0, 1) := by decide +kernel
theorem dX7_spread_64 : decode cX7_spread 64 = .ok (.getfield 123, 3) := by decide +kernel
theorem dX7_spread_67 : decode cX7_spread 67 = .ok (.iload 6, 2) := by decide +kernel
theorem dX7_spread_69 : decode cX7_spread 69 = .ok (.invokevirtual 167, 3) := by decide +kernel
theorem dX7_spread_72 : decode cX7_spread 72 = .ok (.goto 6, 3) := by decide +kernel
theorem dX7_spread_75 : decode cX7_spread 75 = .ok (.ldc2_w 161, 3) := by decide +kernel
theorem dX7_spread_78 : decode cX7_spread 78 = .ok (.lreturn, 1) := by decide +kernel
set_option maxRecDepth 20000 in
theorem ggX7_widest_X7_begins : GoodIn wsX7_widest wsX7_begins := goodIn_r _ [10, 11, 12, 13, 14, 9, 15, 3, 67, 68, 69, 70, 71, 72, 73, 74, 75, 76, 77, 78, 79, 80, 81, 82, 83, 84, 85, 86, 87, 88, 89, 90, 91, 92, 93, 94, 95, 96] (by decide +kernel) (by decide +kernel)
set_option maxRecDepth 20000 in
theorem gX7_widest_X7_begins : GoodIn wsX7_widest (wsV RX7 91 RX7 yX7_begins wsX7_begins) := goodIn_app (goodIn_of _ (by decide +kernel)) ggX7_widest_X7_begins
set_option maxRecDepth 20000 in
theorem ggX7_widest_X7_tables : GoodIn wsX7_widest wsX7_tables := goodIn_r _ [19, 20, 3, 21, 22, 23, 9, 24, 25, 26, 27, 28, 29, 30, 31, 32, 67, 68, 69, 70, 71, 72, 73, 74, 75, 76, 77, 78, 79, 80, 81, 82, 83, 84, 85, 86, 87, 88, 89, 90, 91, 92, 93, 94, 95, 96] (by decide +kernel) (by decide +kernel)
set_option maxRecDepth 20000 in
theorem gX7_widest_X7_tables : GoodIn wsX7_widest (wsV RX7 142 RX7 yX7_tables wsX7_tables) := goodIn_app (goodIn_of _ (by decide +kernel)) ggX7_widest_X7_tables
set_option maxRecDepth 20000 in
theorem ggX7_widest_X7_settings : GoodIn wsX7_widest wsX7_settings := goodIn_r _ [24, 3, 67, 68, 69, 70, 71, 72, 73, 74, 75, 76, 77, 78, 79, 80, 81, 82, 83, 84, 85, 86, 87, 88, 89, 90, 91, 92, 93, 94, 95, 96] (by decide +kernel) (by decide +kernel)
set_option maxRecDepth 20000 in
theorem gX7_widest_X7_settings : GoodIn wsX7_widest (wsV RX7 97 RX7 yX7_settings wsX7_settings) := goodIn_app (goodIn_of _ (by decide +kernel)) ggX7_widest_X7_settings
set_option maxRecDepth 20000 in
theorem ggX7_widest_X7_markOf : GoodIn wsX7_widest wsX7_markOf := goodIn_r _ [28, 29, 30, 31, 9, 32] (by decide +kernel) (by decide +kernel)
set_option maxRecDepth 20000 in
theorem gX7_widest_X7_markOf : GoodIn wsX7_widest (wsV RX7 112 RX7 yX7_markOf wsX7_markOf) := goodIn_app (goodIn_of _ (by decide +kernel)) ggX7_widest_X7_markOf
set_option maxRecDepth 20000 in
theorem ggX7_widest_X7_isKnown : GoodIn wsX7_widest wsX7_isKnown := goodIn_r _ [36, 3, 37, 20, 4, 38, 39, 40, 41, 9, 42, 5, 43, 44, 45, 46, 47, 48, 49, 50, 51, 52, 53, 54, 29, 30, 31, 32, 67, 68, 69, 70, 71, 72, 73, 74, 75, 76, 77, 78, 79, 80, 81, 82, 83, 84, 85, 86, 87, 88, 89, 90, 91, 92, 93, 94, 95, 96] (by decide +kernel) (by decide +kernel)
set_option maxRecDepth 20000 in
theorem gX7_widest_X7_isKnown : GoodIn wsX7_widest (wsV RX7 157 RX7 yX7_isKnown wsX7_isKnown) := goodIn_app (goodIn_of _ (by decide +kernel)) ggX7_widest_X7_isKnown
set_option maxRecDepth 20000 in
theorem ggX7_widest_X7_given : GoodIn wsX7_widest wsX7_given := goodIn_r _ [58, 38, 45, 46, 47, 9, 48, 49, 20, 44, 50, 51, 52, 53, 54, 29, 30, 31, 32, 67, 68, 69, 70, 71, 72, 73, 74, 75, 76, 77, 78, 79, 80, 81, 82, 83, 84, 85, 86, 87, 88, 89, 90, 91, 92, 93, 94, 95, 96] (by decide +kernel) (by decide +kernel)
set_option maxRecDepth 20000 in
theorem gX7_widest_X7_given : GoodIn wsX7_widest (wsV RX7 163 RX7 yX7_given wsX7_given) := goodIn_app (goodIn_of _ (by decide +kernel)) ggX7_widest_X7_given
set_option maxRecDepth 20000 in
theorem ggX7_widest_X7_share : GoodIn wsX7_widest wsX7_share := goodIn_r _ [62, 63, 64, 65, 9, 66] (by decide +kernel) (by decide +kernel)
set_option maxRecDepth 20000 in
theorem gX7_widest_X7_share : GoodIn wsX7_widest (wsV RX7 167 RX7 yX7_share wsX7_share) := goodIn_app (goodIn_of _ (by decide +kernel)) ggX7_widest_X7_share
theorem dX7_widest_0 : decode cX7_widest 0 = .ok (.aload_n 0, 1) := by decide +kernel
theorem dX7_widest_1 : decode cX7_widest 1 = .ok (.iconst 0, 1) := by decide +kernel
theorem dX7_widest_2 : decode cX7_widest 2 = .ok (.putfield 76, 3) := by decide +kernel
theorem dX7_widest_5 : decode cX7_widest 5 = .ok (.aload_n 0, 1) := by decide +kernel
theorem dX7_widest_6 : decode cX7_widest 6 = .ok (.invokevirtual 91, 3) := by decide +kernel
theorem dX7_widest_9 : decode cX7_widest 9 = .ok (.iload_n 1, 1) := by decide +kernel
theorem dX7_widest_10 : decode cX7_widest 10 = .ok (.ifCond .lt 8, 3) := by decide +kernel
theorem dX7_widest_13 : decode cX7_widest 13 = .ok (.iload_n 1, 1) := by decide +kernel
theorem dX7_widest_14 : decode cX7_widest 14 = .ok (.iconst 2, 1) := by decide +kernel
theorem dX7_widest_15 : decode cX7_widest 15 = .ok (.if_icmp .le 7, 3) := by decide +kernel
theorem dX7_widest_18 : decode cX7_widest 18 = .ok (.ldc2_w 161, 3) := by decide +kernel
theorem dX7_widest_21 : decode cX7_widest 21 = .ok (.lreturn, 1) := by decide +kernel
theorem dX7_widest_22 : decode cX7_widest 22 = .ok (.aload_n 0, 1) := by decide +kernel
theorem dX7_widest_23 : decode cX7_widest 23 = .ok (.iconst 0, 1) := by decide +kernel
theorem dX7_widest_24 : decode cX7_widest 24 = .ok (.invokevirtual 142, 3) := by decide +kernel
theorem dX7_widest_27 : decode cX7_widest 27 = .ok (.ldc2_w 161, 3) := by decide +kernel
theorem dX7_widest_30 : decode cX7_widest 30 = .ok (.lstore_n 2, 1) := by decide +kernel
theorem dX7_widest_31 : decode cX7_widest 31 = .ok (.iconst (-1), 1) := by decide +kernel
theorem dX7_widest_32 : decode cX7_widest 32 = .ok (.istore 4, 2) := by decide +kernel
theorem dX7_widest_34 : decode cX7_widest 34 = .ok (.iconst 0, 1) := by decide +kernel
theorem dX7_widest_35 : decode cX7_widest 35 = .ok (.istore 5, 2) := by decide +kernel
theorem dX7_widest_37 : decode cX7_widest 37 = .ok (.iload 5, 2) := by decide +kernel
theorem dX7_widest_39 : decode cX7_widest 39 = .ok (.aload_n 0, 1) := by decide +kernel
theorem dX7_widest_40 : decode cX7_widest 40 = .ok (.invokevirtual 97, 3) := by decide +kernel
theorem dX7_widest_43 : decode cX7_widest 43 = .ok (.if_icmp .ge 94, 3) := by decide +kernel
theorem dX7_widest_46 : decode cX7_widest 46 = .ok (.iconst 0, 1) := by decide +kernel
theorem dX7_widest_47 : decode cX7_widest 47 = .ok (.istore 6, 2) := by decide +kernel
theorem dX7_widest_49 : decode cX7_widest 49 = .ok (.iload 6, 2) := by decide +kernel
theorem dX7_widest_51 : decode cX7_widest 51 = .ok (.aload_n 0, 1) := by decide +kernel
theorem dX7_widest_52 : decode cX7_widest 52 = .ok (.getfield 7, 3) := by decide +kernel
theorem dX7_widest_55 : decode cX7_widest 55 = .ok (.iconst 1, 1) := by decide +kernel
theorem dX7_widest_56 : decode cX7_widest 56 = .ok (.iaload, 1) := by decide +kernel
theorem dX7_widest_57 : decode cX7_widest 57 = .ok (.if_icmp .ge 32, 3) := by decide +kernel
theorem dX7_widest_60 : decode cX7_widest 60 = .ok (.aload_n 0, 1) := by decide +kernel
theorem dX7_widest_61 : decode cX7_widest 61 = .ok (.getfield 35, 3) := by decide +kernel
theorem dX7_widest_64 : decode cX7_widest 64 = .ok (.iload 6, 2) := by decide +kernel
theorem dX7_widest_66 : decode cX7_widest 66 = .ok (.aload_n 0, 1) := by decide +kernel
theorem dX7_widest_67 : decode cX7_widest 67 = .ok (.aload_n 0, 1) := by decide +kernel
theorem dX7_widest_68 : decode cX7_widest 68 = .ok (.getfield 7, 3) := by decide +kernel
theorem dX7_widest_71 : decode cX7_widest 71 = .ok (.iconst 2, 1) := by decide +kernel
theorem dX7_widest_72 : decode cX7_widest 72 = .ok (.iload 6, 2) := by decide +kernel
theorem dX7_widest_74 : decode cX7_widest 74 = .ok (.iadd, 1) := by decide +kernel
theorem dX7_widest_75 : decode cX7_widest 75 = .ok (.iaload, 1) := by decide +kernel
theorem dX7_widest_76 : decode cX7_widest 76 = .ok (.iload 5, 2) := by decide +kernel
theorem dX7_widest_78 : decode cX7_widest 78 = .ok (.invokevirtual 112, 3) := by decide +kernel
theorem dX7_widest_81 : decode cX7_widest 81 = .ok (.i2l, 1) := by decide +kernel
theorem dX7_widest_82 : decode cX7_widest 82 = .ok (.lastore, 1) := by decide +kernel
theorem dX7_widest_83 : decode cX7_widest 83 = .ok (.iinc 6 1, 3) := by decide +kernel
theorem dX7_widest_86 : decode cX7_widest 86 = .ok (.goto (-37), 3) := by decide +kernel
theorem dX7_widest_89 : decode cX7_widest 89 = .ok (.aload_n 0, 1) := by decide +kernel
theorem dX7_widest_90 : decode cX7_widest 90 = .ok (.invokevirtual 157, 3) := by decide +kernel
theorem dX7_widest_93 : decode cX7_widest 93 = .ok (.ifCond .ne 7, 3) := by decide +kernel
theorem dX7_widest_96 : decode cX7_widest 96 = .ok (.ldc2_w 161, 3) := by decide +kernel
theorem dX7_widest_99 : decode cX7_widest 99 = .ok (.lreturn, 1) := by decide +kernel
theorem dX7_widest_100 : decode cX7_widest 100 = .ok (.aload_n 0, 1) := by decide +kernel
theorem dX7_widest_101 : decode cX7_widest 101 = .ok (.aload_n 0, 1) := by decide +kernel
theorem dX7_widest_102 : decode cX7_widest 102 = .ok (.getfield 35, 3) := by decide +kernel
theorem dX7_widest_105 : decode cX7_widest 105 = .ok (.aload_n 0, 1) := by decide +kernel
theorem dX7_widest_106 : decode cX7_widest 106 = .ok (.getfield 35, 3) := by decide +kernel
theorem dX7_widest_109 : decode cX7_widest 109 = .ok (.invokevirtual 163, 3) := by decide +kernel
theorem dX7_widest_112 : decode cX7_widest 112 = .ok (.lstore 6, 2) := by decide +kernel
theorem dX7_widest_114 : decode cX7_widest 114 = .ok (.lload 6, 2) := by decide +kernel
theorem dX7_widest_116 : decode cX7_widest 116 = .ok (.lload_n 2, 1) := by decide +kernel
theorem dX7_widest_117 : decode cX7_widest 117 = .ok (.lcmp, 1) := by decide +kernel
theorem dX7_widest_118 : decode cX7_widest 118 = .ok (.ifCond .gt 6, 3) := by decide +kernel
theorem dX7_widest_121 : decode cX7_widest 121 = .ok (.goto 10, 3) := by decide +kernel
theorem dX7_widest_124 : decode cX7_widest 124 = .ok (.lload 6, 2) := by decide +kernel
theorem dX7_widest_126 : decode cX7_widest 126 = .ok (.lstore_n 2, 1) := by decide +kernel
theorem dX7_widest_127 : decode cX7_widest 127 = .ok (.iload 5, 2) := by decide +kernel
theorem dX7_widest_129 : decode cX7_widest 129 = .ok (.istore 4, 2) := by decide +kernel
theorem dX7_widest_131 : decode cX7_widest 131 = .ok (.iinc 5 1, 3) := by decide +kernel
theorem dX7_widest_134 : decode cX7_widest 134 = .ok (.goto (-97), 3) := by decide +kernel
theorem dX7_widest_137 : decode cX7_widest 137 = .ok (.iload_n 1, 1) := by decide +kernel
theorem dX7_widest_138 : decode cX7_widest 138 = .ok (.iconst 2, 1) := by decide +kernel
theorem dX7_widest_139 : decode cX7_widest 139 = .ok (.if_icmp .ne 9, 3) := by decide +kernel
theorem dX7_widest_142 : decode cX7_widest 142 = .ok (.iload 4, 2) := by decide +kernel
theorem dX7_widest_144 : decode cX7_widest 144 = .ok (.i2l, 1) := by decide +kernel
theorem dX7_widest_145 : decode cX7_widest 145 = .ok (.goto 13, 3) := by decide +kernel
theorem dX7_widest_148 : decode cX7_widest 148 = .ok (.aload_n 0, 1) := by decide +kernel
theorem dX7_widest_149 : decode cX7_widest 149 = .ok (.lload_n 2, 1) := by decide +kernel
theorem dX7_widest_150 : decode cX7_widest 150 = .ok (.aload_n 0, 1) := by decide +kernel
theorem dX7_widest_151 : decode cX7_widest 151 = .ok (.getfield 123, 3) := by decide +kernel
theorem dX7_widest_154 : decode cX7_widest 154 = .ok (.iload_n 1, 1) := by decide +kernel
theorem dX7_widest_155 : decode cX7_widest 155 = .ok (.invokevirtual 167, 3) := by decide +kernel
theorem dX7_widest_158 : decode cX7_widest 158 = .ok (.lreturn, 1) := by decide +kernel
set_option maxRecDepth 20000 in
theorem ggX7_needed_X7_begins : GoodIn wsX7_needed wsX7_begins := goodIn_r _ [7, 8, 9, 10, 11, 6, 12, 2, 53, 54, 55, 56, 57, 58, 59, 60, 61, 62, 63, 64, 65, 66, 67, 68, 69, 70, 71, 72, 73, 74, 75, 76, 77, 78, 79, 80, 81, 82] (by decide +kernel) (by decide +kernel)
set_option maxRecDepth 20000 in
theorem gX7_needed_X7_begins : GoodIn wsX7_needed (wsV RX7 91 RX7 yX7_begins wsX7_begins) := goodIn_app (goodIn_of _ (by decide +kernel)) ggX7_needed_X7_begins
set_option maxRecDepth 20000 in
theorem ggX7_needed_X7_rank : GoodIn wsX7_needed wsX7_rank := goodIn_r _ [16, 17, 18, 19, 20, 6, 21, 22, 2, 23, 24, 25, 26, 27, 28, 29, 30, 31, 32, 33, 34, 35, 36, 37, 38, 39, 40, 41, 42, 43, 44, 45, 46, 47, 48, 49, 50, 51, 52, 53, 54, 55, 56, 57, 58, 59, 60, 61, 62, 63, 64, 65, 66, 67, 68, 69, 70, 71, 72, 73, 74, 75, 76, 77, 78, 79, 80, 81, 82] (by decide +kernel) (by decide +kernel)
set_option maxRecDepth 20000 in
theorem gX7_needed_X7_rank : GoodIn wsX7_needed (wsV RX7 150 RX7 yX7_rank wsX7_rank) := goodIn_app (goodIn_of _ (by decide +kernel)) ggX7_needed_X7_rank
set_option maxRecDepth 20000 in
theorem ggX7_needed_X7_settings : GoodIn wsX7_needed wsX7_settings := goodIn_r _ [26, 2, 53, 54, 55, 56, 57, 58, 59, 60, 61, 62, 63, 64, 65, 66, 67, 68, 69, 70, 71, 72, 73, 74, 75, 76, 77, 78, 79, 80, 81, 82] (by decide +kernel) (by decide +kernel)
set_option maxRecDepth 20000 in
theorem gX7_needed_X7_settings : GoodIn wsX7_needed (wsV RX7 97 RX7 yX7_settings wsX7_settings) := goodIn_app (goodIn_of _ (by decide +kernel)) ggX7_needed_X7_settings
theorem dX7_needed_0 : decode cX7_needed 0 = .ok (.aload_n 0, 1) := by decide +kernel
theorem dX7_needed_1 : decode cX7_needed 1 = .ok (.iconst 0, 1) := by decide +kernel
theorem dX7_needed_2 : decode cX7_needed 2 = .ok (.putfield 76, 3) := by decide +kernel
theorem dX7_needed_5 : decode cX7_needed 5 = .ok (.aload_n 0, 1) := by decide +kernel
theorem dX7_needed_6 : decode cX7_needed 6 = .ok (.invokevirtual 91, 3) := by decide +kernel
theorem dX7_needed_9 : decode cX7_needed 9 = .ok (.aload_n 0, 1) := by decide +kernel
theorem dX7_needed_10 : decode cX7_needed 10 = .ok (.invokevirtual 150, 3) := by decide +kernel
theorem dX7_needed_13 : decode cX7_needed 13 = .ok (.istore_n 1, 1) := by decide +kernel
theorem dX7_needed_14 : decode cX7_needed 14 = .ok (.iconst 0, 1) := by decide +kernel
theorem dX7_needed_15 : decode cX7_needed 15 = .ok (.istore_n 2, 1) := by decide +kernel
theorem dX7_needed_16 : decode cX7_needed 16 = .ok (.iconst 0, 1) := by decide +kernel
theorem dX7_needed_17 : decode cX7_needed 17 = .ok (.istore_n 3, 1) := by decide +kernel
theorem dX7_needed_18 : decode cX7_needed 18 = .ok (.iload_n 3, 1) := by decide +kernel
theorem dX7_needed_19 : decode cX7_needed 19 = .ok (.aload_n 0, 1) := by decide +kernel
theorem dX7_needed_20 : decode cX7_needed 20 = .ok (.invokevirtual 97, 3) := by decide +kernel
theorem dX7_needed_23 : decode cX7_needed 23 = .ok (.if_icmp .ge 76, 3) := by decide +kernel
theorem dX7_needed_26 : decode cX7_needed 26 = .ok (.aload_n 0, 1) := by decide +kernel
theorem dX7_needed_27 : decode cX7_needed 27 = .ok (.getfield 7, 3) := by decide +kernel
theorem dX7_needed_30 : decode cX7_needed 30 = .ok (.bipush 7, 2) := by decide +kernel
theorem dX7_needed_32 : decode cX7_needed 32 = .ok (.iload_n 3, 1) := by decide +kernel
theorem dX7_needed_33 : decode cX7_needed 33 = .ok (.iadd, 1) := by decide +kernel
theorem dX7_needed_34 : decode cX7_needed 34 = .ok (.iaload, 1) := by decide +kernel
theorem dX7_needed_35 : decode cX7_needed 35 = .ok (.ifCond .ne 6, 3) := by decide +kernel
theorem dX7_needed_38 : decode cX7_needed 38 = .ok (.goto 55, 3) := by decide +kernel
theorem dX7_needed_41 : decode cX7_needed 41 = .ok (.aload_n 0, 1) := by decide +kernel
theorem dX7_needed_42 : decode cX7_needed 42 = .ok (.getfield 7, 3) := by decide +kernel
theorem dX7_needed_45 : decode cX7_needed 45 = .ok (.bipush 7, 2) := by decide +kernel
theorem dX7_needed_47 : decode cX7_needed 47 = .ok (.iload_n 3, 1) := by decide +kernel
theorem dX7_needed_48 : decode cX7_needed 48 = .ok (.iadd, 1) := by decide +kernel
theorem dX7_needed_49 : decode cX7_needed 49 = .ok (.aload_n 0, 1) := by decide +kernel
theorem dX7_needed_50 : decode cX7_needed 50 = .ok (.getfield 7, 3) := by decide +kernel
theorem dX7_needed_53 : decode cX7_needed 53 = .ok (.bipush 7, 2) := by decide +kernel
theorem dX7_needed_55 : decode cX7_needed 55 = .ok (.iload_n 3, 1) := by decide +kernel
theorem dX7_needed_56 : decode cX7_needed 56 = .ok (.iadd, 1) := by decide +kernel
theorem dX7_needed_57 : decode cX7_needed 57 = .ok (.iaload, 1) := by decide +kernel
theorem dX7_needed_58 : decode cX7_needed 58 = .ok (.iconst 1, 1) := by decide +kernel
theorem dX7_needed_59 : decode cX7_needed 59 = .ok (.isub, 1) := by decide +kernel
theorem dX7_needed_60 : decode cX7_needed 60 = .ok (.iastore, 1) := by decide +kernel
theorem dX7_needed_61 : decode cX7_needed 61 = .ok (.aload_n 0, 1) := by decide +kernel
theorem dX7_needed_62 : decode cX7_needed 62 = .ok (.invokevirtual 150, 3) := by decide +kernel
theorem dX7_needed_65 : decode cX7_needed 65 = .ok (.iload_n 1, 1) := by decide +kernel
theorem dX7_needed_66 : decode cX7_needed 66 = .ok (.if_icmp .ge 7, 3) := by decide +kernel
theorem dX7_needed_69 : decode cX7_needed 69 = .ok (.iload_n 2, 1) := by decide +kernel
theorem dX7_needed_70 : decode cX7_needed 70 = .ok (.iconst 1, 1) := by decide +kernel
theorem dX7_needed_71 : decode cX7_needed 71 = .ok (.iadd, 1) := by decide +kernel
theorem dX7_needed_72 : decode cX7_needed 72 = .ok (.istore_n 2, 1) := by decide +kernel
theorem dX7_needed_73 : decode cX7_needed 73 = .ok (.aload_n 0, 1) := by decide +kernel
theorem dX7_needed_74 : decode cX7_needed 74 = .ok (.getfield 7, 3) := by decide +kernel
theorem dX7_needed_77 : decode cX7_needed 77 = .ok (.bipush 7, 2) := by decide +kernel
theorem dX7_needed_79 : decode cX7_needed 79 = .ok (.iload_n 3, 1) := by decide +kernel
theorem dX7_needed_80 : decode cX7_needed 80 = .ok (.iadd, 1) := by decide +kernel
theorem dX7_needed_81 : decode cX7_needed 81 = .ok (.aload_n 0, 1) := by decide +kernel
theorem dX7_needed_82 : decode cX7_needed 82 = .ok (.getfield 7, 3) := by decide +kernel
theorem dX7_needed_85 : decode cX7_needed 85 = .ok (.bipush 7, 2) := by decide +kernel
theorem dX7_needed_87 : decode cX7_needed 87 = .ok (.iload_n 3, 1) := by decide +kernel
theorem dX7_needed_88 : decode cX7_needed 88 = .ok (.iadd, 1) := by decide +kernel
theorem dX7_needed_89 : decode cX7_needed 89 = .ok (.iaload, 1) := by decide +kernel
theorem dX7_needed_90 : decode cX7_needed 90 = .ok (.iconst 1, 1) := by decide +kernel
theorem dX7_needed_91 : decode cX7_needed 91 = .ok (.iadd, 1) := by decide +kernel
theorem dX7_needed_92 : decode cX7_needed 92 = .ok (.iastore, 1) := by decide +kernel
theorem dX7_needed_93 : decode cX7_needed 93 = .ok (.iinc 3 1, 3) := by decide +kernel
theorem dX7_needed_96 : decode cX7_needed 96 = .ok (.goto (-78), 3) := by decide +kernel
theorem dX7_needed_99 : decode cX7_needed 99 = .ok (.iload_n 2, 1) := by decide +kernel
theorem dX7_needed_100 : decode cX7_needed 100 = .ok (.ireturn, 1) := by decide +kernel
set_option maxRecDepth 20000 in
theorem ggX7_areFew_X7_settings : GoodIn wsX7_areFew wsX7_settings := goodIn_r _ [6, 7, 8, 9, 10, 11, 12, 13, 14, 15, 16, 17, 18, 19, 20, 21, 22, 23, 24, 25, 26, 27, 28, 29, 30, 31, 32, 33, 34, 35, 36, 37] (by decide +kernel) (by decide +kernel)
set_option maxRecDepth 20000 in
theorem gX7_areFew_X7_settings : GoodIn wsX7_areFew (wsV RX7 97 RX7 yX7_settings wsX7_settings) := goodIn_app (goodIn_of _ (by decide +kernel)) ggX7_areFew_X7_settings
theorem dX7_areFew_0 : decode cX7_areFew 0 = .ok (.iload_n 1, 1) := by decide +kernel
theorem dX7_areFew_1 : decode cX7_areFew 1 = .ok (.ifCond .lt 9, 3) := by decide +kernel
theorem dX7_areFew_4 : decode cX7_areFew 4 = .ok (.iload_n 1, 1) := by decide +kernel
theorem dX7_areFew_5 : decode cX7_areFew 5 = .ok (.bipush 40, 2) := by decide +kernel
theorem dX7_areFew_7 : decode cX7_areFew 7 = .ok (.if_icmp .le 5, 3) := by decide +kernel
theorem dX7_areFew_10 : decode cX7_areFew 10 = .ok (.iconst 0, 1) := by decide +kernel
theorem dX7_areFew_11 : decode cX7_areFew 11 = .ok (.ireturn, 1) := by decide +kernel
theorem dX7_areFew_12 : decode cX7_areFew 12 = .ok (.iconst 0, 1) := by decide +kernel
theorem dX7_areFew_13 : decode cX7_areFew 13 = .ok (.istore_n 2, 1) := by decide +kernel
theorem dX7_areFew_14 : decode cX7_areFew 14 = .ok (.iload_n 2, 1) := by decide +kernel
theorem dX7_areFew_15 : decode cX7_areFew 15 = .ok (.bipush 40, 2) := by decide +kernel
theorem dX7_areFew_17 : decode cX7_areFew 17 = .ok (.if_icmp .gt 24, 3) := by decide +kernel
theorem dX7_areFew_20 : decode cX7_areFew 20 = .ok (.aload_n 0, 1) := by decide +kernel
theorem dX7_areFew_21 : decode cX7_areFew 21 = .ok (.getfield 38, 3) := by decide +kernel
theorem dX7_areFew_24 : decode cX7_areFew 24 = .ok (.iload_n 2, 1) := by decide +kernel
theorem dX7_areFew_25 : decode cX7_areFew 25 = .ok (.iload_n 2, 1) := by decide +kernel
theorem dX7_areFew_26 : decode cX7_areFew 26 = .ok (.ifCond .ne 7, 3) := by decide +kernel
theorem dX7_areFew_29 : decode cX7_areFew 29 = .ok (.iconst 1, 1) := by decide +kernel
theorem dX7_areFew_30 : decode cX7_areFew 30 = .ok (.goto 4, 3) := by decide +kernel
theorem dX7_areFew_33 : decode cX7_areFew 33 = .ok (.iconst 0, 1) := by decide +kernel
theorem dX7_areFew_34 : decode cX7_areFew 34 = .ok (.iastore, 1) := by decide +kernel
theorem dX7_areFew_35 : decode cX7_areFew 35 = .ok (.iinc 2 1, 3) := by decide +kernel
theorem dX7_areFew_38 : decode cX7_areFew 38 = .ok (.goto (-24), 3) := by decide +kernel
theorem dX7_areFew_41 : decode cX7_areFew 41 = .ok (.iconst 0, 1) := by decide +kernel
theorem dX7_areFew_42 : decode cX7_areFew 42 = .ok (.istore_n 2, 1) := by decide +kernel
theorem dX7_areFew_43 : decode cX7_areFew 43 = .ok (.iload_n 2, 1) := by decide +kernel
theorem dX7_areFew_44 : decode cX7_areFew 44 = .ok (.aload_n 0, 1) := by decide +kernel
theorem dX7_areFew_45 : decode cX7_areFew 45 = .ok (.invokevirtual 97, 3) := by decide +kernel
theorem dX7_areFew_48 : decode cX7_areFew 48 = .ok (.if_icmp .ge 92, 3) := by decide +kernel
theorem dX7_areFew_51 : decode cX7_areFew 51 = .ok (.iload_n 1, 1) := by decide +kernel
theorem dX7_areFew_52 : decode cX7_areFew 52 = .ok (.istore_n 3, 1) := by decide +kernel
theorem dX7_areFew_53 : decode cX7_areFew 53 = .ok (.iload_n 3, 1) := by decide +kernel
theorem dX7_areFew_54 : decode cX7_areFew 54 = .ok (.ifCond .lt 80, 3) := by decide +kernel
theorem dX7_areFew_57 : decode cX7_areFew 57 = .ok (.iconst 0, 1) := by decide +kernel
theorem dX7_areFew_58 : decode cX7_areFew 58 = .ok (.istore 4, 2) := by decide +kernel
theorem dX7_areFew_60 : decode cX7_areFew 60 = .ok (.iconst 0, 1) := by decide +kernel
theorem dX7_areFew_61 : decode cX7_areFew 61 = .ok (.istore 5, 2) := by decide +kernel
theorem dX7_areFew_63 : decode cX7_areFew 63 = .ok (.iload 5, 2) := by decide +kernel
theorem dX7_areFew_65 : decode cX7_areFew 65 = .ok (.bipush 9, 2) := by decide +kernel
theorem dX7_areFew_67 : decode cX7_areFew 67 = .ok (.if_icmp .gt 53, 3) := by decide +kernel
theorem dX7_areFew_70 : decode cX7_areFew 70 = .ok (.iload 5, 2) := by decide +kernel
theorem dX7_areFew_72 : decode cX7_areFew 72 = .ok (.iload_n 3, 1) := by decide +kernel
theorem dX7_areFew_73 : decode cX7_areFew 73 = .ok (.if_icmp .gt 47, 3) := by decide +kernel
theorem dX7_areFew_76 : decode cX7_areFew 76 = .ok (.iload 4, 2) := by decide +kernel
theorem dX7_areFew_78 : decode cX7_areFew 78 = .ok (.aload_n 0, 1) := by decide +kernel
theorem dX7_areFew_79 : decode cX7_areFew 79 = .ok (.getfield 38, 3) := by decide +kernel
theorem dX7_areFew_82 : decode cX7_areFew 82 = .ok (.iload_n 3, 1) := by decide +kernel
theorem dX7_areFew_83 : decode cX7_areFew 83 = .ok (.iload 5, 2) := by decide +kernel
theorem dX7_areFew_85 : decode cX7_areFew 85 = .ok (.isub, 1) := by decide +kernel
theorem dX7_areFew_86 : decode cX7_areFew 86 = .ok (.iaload, 1) := by decide +kernel
theorem dX7_areFew_87 : decode cX7_areFew 87 = .ok (.iadd, 1) := by decide +kernel
theorem dX7_areFew_88 : decode cX7_areFew 88 = .ok (.sipush 20000, 3) := by decide +kernel
theorem dX7_areFew_91 : decode cX7_areFew 91 = .ok (.if_icmp .le 9, 3) := by decide +kernel
theorem dX7_areFew_94 : decode cX7_areFew 94 = .ok (.sipush 20001, 3) := by decide +kernel
theorem dX7_areFew_97 : decode cX7_areFew 97 = .ok (.goto 15, 3) := by decide +kernel
theorem dX7_areFew_100 : decode cX7_areFew 100 = .ok (.iload 4, 2) := by decide +kernel
theorem dX7_areFew_102 : decode cX7_areFew 102 = .ok (.aload_n 0, 1) := by decide +kernel
theorem dX7_areFew_103 : decode cX7_areFew 103 = .ok (.getfield 38, 3) := by decide +kernel
theorem dX7_areFew_106 : decode cX7_areFew 106 = .ok (.iload_n 3, 1) := by decide +kernel
theorem dX7_areFew_107 : decode cX7_areFew 107 = .ok (.iload 5, 2) := by decide +kernel
theorem dX7_areFew_109 : decode cX7_areFew 109 = .ok (.isub, 1) := by decide +kernel
theorem dX7_areFew_110 : decode cX7_areFew 110 = .ok (.iaload, 1) := by decide +kernel
theorem dX7_areFew_111 : decode cX7_areFew 111 = .ok (.iadd, 1) := by decide +kernel
theorem dX7_areFew_112 : decode cX7_areFew 112 = .ok (.istore 4, 2) := by decide +kernel
theorem dX7_areFew_114 : decode cX7_areFew 114 = .ok (.iinc 5 1, 3) := by decide +kernel
theorem dX7_areFew_117 : decode cX7_areFew 117 = .ok (.goto (-54), 3) := by decide +kernel
theorem dX7_areFew_120 : decode cX7_areFew 120 = .ok (.aload_n 0, 1) := by decide +kernel
theorem dX7_areFew_121 : decode cX7_areFew 121 = .ok (.getfield 38, 3) := by decide +kernel
theorem dX7_areFew_124 : decode cX7_areFew 124 = .ok (.iload_n 3, 1) := by decide +kernel
theorem dX7_areFew_125 : decode cX7_areFew 125 = .ok (.iload 4, 2) := by decide +kernel
theorem dX7_areFew_127 : decode cX7_areFew 127 = .ok (.iastore, 1) := by decide +kernel
theorem dX7_areFew_128 : decode cX7_areFew 128 = .ok (.iinc 3 (-1), 3) := by decide +kernel
theorem dX7_areFew_131 : decode cX7_areFew 131 = .ok (.goto (-78), 3) := by decide +kernel
theorem dX7_areFew_134 : decode cX7_areFew 134 = .ok (.iinc 2 1, 3) := by decide +kernel
