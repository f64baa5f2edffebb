set_option maxRecDepth 20000 in
theorem ggL_law_X6_drop : GoodIn wsL_law wsX6_drop := goodIn_r _ [227, 15, 198, 19, 138, 139, 140, 18, 141, 60, 142, 143, 144, 145, 146, 147, 148, 149, 150, 14, 151, 53, 54, 152, 153, 154, 47, 155, 156, 157, 158, 48, 49, 50, 51, 52, 228, 229, 230, 231, 883, 884, 885, 886, 887, 888, 889, 890, 891, 892, 893, 924, 925, 926, 927, 928, 929, 930, 931, 932, 933, 934, 935, 936, 937] (by decide +kernel) (by decide +kernel)
set_option maxRecDepth 20000 in
theorem gL_law_X6_drop : GoodIn wsL_law (wsV RL 23 RX6 yX6_drop wsX6_drop) := goodIn_app (goodIn_of _ (by decide +kernel)) ggL_law_X6_drop
set_option maxRecDepth 20000 in
theorem ggL_law_X7_drop : GoodIn wsL_law wsX7_drop := goodIn_r _ [235, 179, 112, 180, 181, 182, 5, 183, 184, 185, 186, 187, 188, 189, 190, 191, 192, 193, 113, 894, 895, 896, 897, 898, 899, 900, 901, 902, 903, 904, 905, 906, 907, 908, 909, 910, 911, 912, 913, 914, 915, 916, 917, 918, 919, 920, 921, 922, 923] (by decide +kernel) (by decide +kernel)
set_option maxRecDepth 20000 in
theorem gL_law_X7_drop : GoodIn wsL_law (wsV RL 26 RX7 yX7_drop wsX7_drop) := goodIn_app (goodIn_of _ (by decide +kernel)) ggL_law_X7_drop
set_option maxRecDepth 20000 in
theorem ggL_law_X6_plan : GoodIn wsL_law wsX6_plan := goodIn_r _ [239, 15, 240, 241, 19, 200, 201, 202, 14, 203, 204, 205, 206, 207, 53, 138, 139, 140, 18, 141, 60, 142, 143, 144, 145, 146, 147, 148, 149, 150, 151, 54, 152, 153, 154, 47, 155, 156, 157, 158, 48, 49, 50, 51, 52, 242, 243, 244, 245, 883, 884, 885, 886, 887, 888, 889, 890, 891, 892, 893, 924, 925, 926, 927, 928, 929, 930, 931, 932, 933, 934, 935, 936, 937] (by decide +kernel) (by decide +kernel)
set_option maxRecDepth 20000 in
theorem gL_law_X6_plan : GoodIn wsL_law (wsV RL 27 RX6 yX6_plan wsX6_plan) := goodIn_app (goodIn_of _ (by decide +kernel)) ggL_law_X6_plan
set_option maxRecDepth 20000 in
theorem ggL_law_X7_plan : GoodIn wsL_law wsX7_plan := goodIn_r _ [249, 179, 112, 180, 181, 182, 5, 183, 184, 185, 186, 187, 188, 216, 217, 218, 219, 220, 221, 222, 223, 250, 251, 252, 253, 189, 190, 191, 192, 193, 113, 894, 895, 896, 897, 898, 899, 900, 901, 902, 903, 904, 905, 906, 907, 908, 909, 910, 911, 912, 913, 914, 915, 916, 917, 918, 919, 920, 921, 922, 923] (by decide +kernel) (by decide +kernel)
set_option maxRecDepth 20000 in
theorem gL_law_X7_plan : GoodIn wsL_law (wsV RL 31 RX7 yX7_plan wsX7_plan) := goodIn_app (goodIn_of _ (by decide +kernel)) ggL_law_X7_plan
set_option maxRecDepth 20000 in
theorem ggL_law_X6_clear : GoodIn wsL_law wsX6_clear := goodIn_r _ [257, 19, 15, 138, 139, 140, 18, 141, 60, 142, 143, 144, 145, 146, 147, 148, 149, 150, 14, 151, 53, 54, 152, 153, 154, 47, 155, 156, 157, 158, 48, 49, 50, 51, 52, 258, 168, 169, 170, 163, 164, 165, 166, 883, 884, 885, 886, 887, 888, 889, 890, 891, 892, 893, 935, 936, 937, 924, 925, 926, 927, 928, 929, 930, 931, 932, 933, 934] (by decide +kernel) (by decide +kernel)
set_option maxRecDepth 20000 in
theorem gL_law_X6_clear : GoodIn wsL_law (wsV RL 32 RX6 yX6_clear wsX6_clear) := goodIn_app (goodIn_of _ (by decide +kernel)) ggL_law_X6_clear
set_option maxRecDepth 20000 in
theorem ggL_law_X7_clear : GoodIn wsL_law wsX7_clear := goodIn_r _ [262, 179, 112, 180, 181, 182, 5, 183, 184, 185, 186, 187, 188, 189, 190, 191, 192, 193, 113, 894, 895, 896, 897, 898, 899, 900, 901, 902, 903, 904, 905, 906, 907, 908, 909, 910, 911, 912, 913, 914, 915, 916, 917, 918, 919, 920, 921, 922, 923] (by decide +kernel) (by decide +kernel)
set_option maxRecDepth 20000 in
theorem gL_law_X7_clear : GoodIn wsL_law (wsV RL 35 RX7 yX7_clear wsX7_clear) := goodIn_app (goodIn_of _ (by decide +kernel)) ggL_law_X7_clear
