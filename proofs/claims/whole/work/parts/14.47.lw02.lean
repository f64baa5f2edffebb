set_option maxRecDepth 20000 in
theorem ggL_law_X6_about : GoodIn wsL_law wsX6_about := goodIn_r _ [266, 15, 267, 198, 240, 23, 268, 269, 270, 271, 272, 14, 273, 48, 274, 275, 276, 2, 277, 241, 278, 279, 280, 22, 281, 282, 283, 284, 285, 286, 69, 66, 287, 288, 165, 289, 290, 205, 206, 207, 53, 291, 292, 293, 294, 54, 47, 295, 296, 297, 298, 299, 300, 301, 302, 303, 304, 305, 306, 307, 308, 309, 310, 70, 311, 68, 312, 313, 314, 315, 316, 317, 318, 319, 320, 321, 322, 199, 323, 883, 884, 885, 886, 887, 888, 889, 890, 891, 892, 893, 924, 925, 926, 927, 928, 929, 930, 931, 932, 933, 934, 938, 939, 940, 941, 942] (by decide +kernel) (by decide +kernel)
set_option maxRecDepth 20000 in
theorem gL_law_X6_about : GoodIn wsL_law (wsV RL 36 RX6 yX6_about wsX6_about) := goodIn_app (goodIn_of _ (by decide +kernel)) ggL_law_X6_about
set_option maxRecDepth 20000 in
theorem ggL_law_X7_about : GoodIn wsL_law wsX7_about := goodIn_r _ [327, 179, 112, 180, 181, 182, 5, 183, 184, 185, 186, 187, 188, 250, 251, 252, 253, 328, 329, 330, 331, 332, 333, 334, 335, 336, 114, 220, 221, 222, 223, 337, 338, 339, 340, 341, 342, 343, 344, 345, 346, 347, 348, 349, 118, 119, 117, 350, 351, 352, 353, 115, 354, 355, 356, 357, 116, 216, 217, 218, 219, 894, 895, 896, 897, 898, 899, 900, 901, 902, 903, 904, 905, 906, 907, 908, 909, 910, 911, 912, 913, 914, 915, 916, 917, 918, 919, 920, 921, 922, 923] (by decide +kernel) (by decide +kernel)
set_option maxRecDepth 20000 in
theorem gL_law_X7_about : GoodIn wsL_law (wsV RL 39 RX7 yX7_about wsX7_about) := goodIn_app (goodIn_of _ (by decide +kernel)) ggL_law_X7_about
set_option maxRecDepth 20000 in
theorem ggL_law_X6_mark : GoodIn wsL_law wsX6_mark := goodIn_r _ [361, 15, 200, 201, 202, 14, 203, 204, 205, 206, 207, 53, 362, 363, 364, 295, 296, 297, 298, 299, 300, 301, 883, 884, 885, 886, 887, 888, 889, 890, 891, 892, 893, 924, 925, 926, 927, 928, 929, 930, 931, 932, 933, 934] (by decide +kernel) (by decide +kernel)
set_option maxRecDepth 20000 in
theorem gL_law_X6_mark : GoodIn wsL_law (wsV RL 40 RX6 yX6_mark wsX6_mark) := goodIn_app (goodIn_of _ (by decide +kernel)) ggL_law_X6_mark
set_option maxRecDepth 20000 in
theorem ggL_law_X7_mark : GoodIn wsL_law wsX7_mark := goodIn_r _ [368, 179, 180, 181, 182, 5, 183, 184, 185, 186, 187, 188, 112, 216, 217, 218, 219, 220, 221, 222, 223, 337, 338, 339, 340, 341, 342, 343, 344, 894, 895, 896, 897, 898, 899, 900, 901, 902, 903, 904, 905, 906, 907, 908, 909, 910, 911, 912, 913, 914, 915, 916, 917, 918, 919, 920, 921, 922, 923] (by decide +kernel) (by decide +kernel)
set_option maxRecDepth 20000 in
theorem gL_law_X7_mark : GoodIn wsL_law (wsV RL 44 RX7 yX7_mark wsX7_mark) := goodIn_app (goodIn_of _ (by decide +kernel)) ggL_law_X7_mark
set_option maxRecDepth 20000 in
theorem ggL_law_X6_table : GoodIn wsL_law wsX6_table := goodIn_r _ [372, 15, 198, 23, 241, 373, 278, 279, 280, 22, 281, 282, 283, 284, 285, 286, 69, 66, 287, 288, 165, 289, 290, 205, 206, 14, 207, 53, 291, 292, 293, 294, 54, 47, 295, 296, 297, 298, 299, 300, 301, 302, 303, 304, 305, 306, 374, 317, 318, 883, 884, 885, 886, 887, 888, 889, 890, 891, 892, 893, 924, 925, 926, 927, 928, 929, 930, 931, 932, 933, 934, 938, 939, 940, 941, 942] (by decide +kernel) (by decide +kernel)
set_option maxRecDepth 20000 in
theorem gL_law_X6_table : GoodIn wsL_law (wsV RL 45 RX6 yX6_table wsX6_table) := goodIn_app (goodIn_of _ (by decide +kernel)) ggL_law_X6_table
set_option maxRecDepth 20000 in
theorem ggL_law_X7_table : GoodIn wsL_law wsX7_table := goodIn_r _ [378, 179, 112, 114, 180, 181, 182, 5, 183, 184, 185, 186, 187, 188, 333, 334, 335, 336, 220, 221, 222, 223, 337, 338, 339, 340, 341, 342, 343, 344, 894, 895, 896, 897, 898, 899, 900, 901, 902, 903, 904, 905, 906, 907, 908, 909, 910, 911, 912, 913, 914, 915, 916, 917, 918, 919, 920, 921, 922, 923] (by decide +kernel) (by decide +kernel)
set_option maxRecDepth 20000 in
theorem gL_law_X7_table : GoodIn wsL_law (wsV RL 48 RX7 yX7_table wsX7_table) := goodIn_app (goodIn_of _ (by decide +kernel)) ggL_law_X7_table
