set_option maxRecDepth 20000 in
theorem ggL_law_X6_undo : GoodIn wsL_law wsX6_undo := goodIn_r _ [874, 19, 15, 875, 876, 877, 18, 878, 143, 142, 60, 148, 149, 150, 14, 151, 53, 54, 152, 153, 154, 47, 155, 156, 157, 158, 48, 49, 50, 51, 52, 883, 884, 885, 886, 887, 888, 889, 890, 891, 892, 893, 935, 936, 937, 924, 925, 926, 927, 928, 929, 930, 931, 932, 933, 934] (by decide +kernel) (by decide +kernel)
set_option maxRecDepth 20000 in
theorem gL_law_X6_undo : GoodIn wsL_law (wsV RL 140 RX6 yX6_undo wsX6_undo) := goodIn_app (goodIn_of _ (by decide +kernel)) ggL_law_X6_undo
set_option maxRecDepth 20000 in
theorem ggL_law_X7_undo : GoodIn wsL_law wsX7_undo := goodIn_r _ [882, 179, 193, 112, 113, 180, 181, 182, 5, 183, 184, 185, 186, 187, 188, 894, 895, 896, 897, 898, 899, 900, 901, 902, 903, 904, 905, 906, 907, 908, 909, 910, 911, 912, 913, 914, 915, 916, 917, 918, 919, 920, 921, 922, 923] (by decide +kernel) (by decide +kernel)
set_option maxRecDepth 20000 in
theorem gL_law_X7_undo : GoodIn wsL_law (wsV RL 143 RX7 yX7_undo wsX7_undo) := goodIn_app (goodIn_of _ (by decide +kernel)) ggL_law_X7_undo
