set_option maxRecDepth 20000 in
theorem ggL_law_X6_init : GoodIn wsL_law wsX6_init := goodIn_r _ [8, 9, 10, 11, 12, 13, 14, 15, 16, 17, 18, 19, 20, 21, 22, 23, 24, 25, 26, 27, 28, 29, 30, 31, 32, 33, 34, 35, 36, 37, 38, 39, 40, 41, 42, 43, 44, 45, 46, 47, 48, 49, 50, 51, 52, 53, 54, 55, 56, 57, 58, 59, 60, 61, 62, 63, 64, 65, 66, 67, 68, 69, 70, 71, 72, 73, 74, 75, 76, 77, 78, 79, 80, 81, 82, 83, 84, 85, 86, 87, 88, 89, 90, 91, 92, 93, 94, 95, 96, 97, 98, 99, 100, 101, 102, 103, 104, 105, 106, 107, 924, 925, 926, 927, 928, 929, 930, 931, 932, 933, 934, 883, 884, 885, 886, 887, 888, 889, 890, 891, 892, 893, 935, 936, 937, 938, 939, 940, 941, 942, 943, 944, 945, 946, 947, 948, 949, 950, 951, 952, 953, 954, 955, 956, 957, 958, 959, 960, 961, 962, 963, 964, 965, 966, 967, 968, 969, 970, 971, 972, 973, 974, 975, 976, 977] (by decide +kernel) (by decide +kernel)
set_option maxRecDepth 20000 in
theorem gL_law_X6_init : GoodIn wsL_law (wsX6_init) := ggL_law_X6_init
set_option maxRecDepth 20000 in
theorem ggL_law_X7_init : GoodIn wsL_law wsX7_init := goodIn_r _ [110, 111, 10, 11, 40, 112, 113, 37, 114, 115, 116, 117, 118, 119, 120, 121, 122, 123, 124, 125, 67, 126, 127, 128, 129, 130, 131, 132, 133, 894, 895, 896, 897, 898, 899, 900, 901, 902, 903, 904, 905, 906, 907, 908, 909, 910, 911, 912, 913, 914, 915, 916, 917, 918, 919, 920, 921, 922, 923] (by decide +kernel) (by decide +kernel)
set_option maxRecDepth 20000 in
theorem gL_law_X7_init : GoodIn wsL_law (wsX7_init) := ggL_law_X7_init
set_option maxRecDepth 20000 in
theorem ggL_law_X6_factors : GoodIn wsL_law wsX6_factors := goodIn_r _ [137, 19, 15, 138, 139, 140, 18, 141, 60, 142, 143, 144, 145, 146, 147, 148, 149, 150, 14, 151, 53, 54, 152, 153, 154, 47, 155, 156, 157, 158, 48, 49, 50, 51, 52, 159, 160, 161, 162, 163, 164, 165, 166, 167, 168, 169, 170, 171, 172, 173, 174, 883, 884, 885, 886, 887, 888, 889, 890, 891, 892, 893, 935, 936, 937, 924, 925, 926, 927, 928, 929, 930, 931, 932, 933, 934] (by decide +kernel) (by decide +kernel)
set_option maxRecDepth 20000 in
theorem gL_law_X6_factors : GoodIn wsL_law (wsV RL 13 RX6 yX6_factors wsX6_factors) := goodIn_app (goodIn_of _ (by decide +kernel)) ggL_law_X6_factors
set_option maxRecDepth 20000 in
theorem ggL_law_X7_factors : GoodIn wsL_law wsX7_factors := goodIn_r _ [178, 179, 180, 181, 182, 5, 183, 184, 185, 186, 187, 188, 112, 189, 190, 191, 192, 193, 113, 894, 895, 896, 897, 898, 899, 900, 901, 902, 903, 904, 905, 906, 907, 908, 909, 910, 911, 912, 913, 914, 915, 916, 917, 918, 919, 920, 921, 922, 923] (by decide +kernel) (by decide +kernel)
set_option maxRecDepth 20000 in
theorem gL_law_X7_factors : GoodIn wsL_law (wsV RL 17 RX7 yX7_factors wsX7_factors) := goodIn_app (goodIn_of _ (by decide +kernel)) ggL_law_X7_factors
set_option maxRecDepth 20000 in
theorem ggL_law_X6_term : GoodIn wsL_law wsX6_term := goodIn_r _ [197, 15, 198, 19, 199, 200, 201, 202, 14, 203, 204, 205, 206, 207, 53, 208, 209, 210, 211, 54, 47, 138, 139, 140, 18, 141, 60, 142, 143, 144, 145, 146, 147, 148, 149, 150, 151, 152, 153, 154, 155, 156, 157, 158, 48, 49, 50, 51, 52, 883, 884, 885, 886, 887, 888, 889, 890, 891, 892, 893, 924, 925, 926, 927, 928, 929, 930, 931, 932, 933, 934, 935, 936, 937] (by decide +kernel) (by decide +kernel)
set_option maxRecDepth 20000 in
theorem gL_law_X6_term : GoodIn wsL_law (wsV RL 18 RX6 yX6_term wsX6_term) := goodIn_app (goodIn_of _ (by decide +kernel)) ggL_law_X6_term
set_option maxRecDepth 20000 in
theorem ggL_law_X7_term : GoodIn wsL_law wsX7_term := goodIn_r _ [215, 179, 112, 180, 181, 182, 5, 183, 184, 185, 186, 187, 188, 216, 217, 218, 219, 220, 221, 222, 223, 189, 190, 191, 192, 193, 113, 894, 895, 896, 897, 898, 899, 900, 901, 902, 903, 904, 905, 906, 907, 908, 909, 910, 911, 912, 913, 914, 915, 916, 917, 918, 919, 920, 921, 922, 923] (by decide +kernel) (by decide +kernel)
set_option maxRecDepth 20000 in
theorem gL_law_X7_term : GoodIn wsL_law (wsV RL 22 RX7 yX7_term wsX7_term) := goodIn_app (goodIn_of _ (by decide +kernel)) ggL_law_X7_term
