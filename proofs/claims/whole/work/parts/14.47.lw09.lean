set_option maxRecDepth 20000 in
theorem ggL_law_X6_forget : GoodIn wsL_law wsX6_forget := goodIn_r _ [836, 19, 15, 138, 139, 140, 18, 141, 60, 142, 143, 144, 145, 146, 147, 148, 149, 150, 14, 151, 53, 54, 152, 153, 154, 47, 155, 156, 157, 158, 48, 49, 50, 51, 52, 837, 172, 173, 174, 163, 164, 165, 166, 883, 884, 885, 886, 887, 888, 889, 890, 891, 892, 893, 935, 936, 937, 924, 925, 926, 927, 928, 929, 930, 931, 932, 933, 934] (by decide +kernel) (by decide +kernel)
set_option maxRecDepth 20000 in
theorem gL_law_X6_forget : GoodIn wsL_law (wsV RL 128 RX6 yX6_forget wsX6_forget) := goodIn_app (goodIn_of _ (by decide +kernel)) ggL_law_X6_forget
set_option maxRecDepth 20000 in
theorem ggL_law_X7_forget : GoodIn wsL_law wsX7_forget := goodIn_r _ [841, 179, 112, 180, 181, 182, 5, 183, 184, 185, 186, 187, 188, 189, 190, 191, 192, 193, 113, 894, 895, 896, 897, 898, 899, 900, 901, 902, 903, 904, 905, 906, 907, 908, 909, 910, 911, 912, 913, 914, 915, 916, 917, 918, 919, 920, 921, 922, 923] (by decide +kernel) (by decide +kernel)
set_option maxRecDepth 20000 in
theorem gL_law_X7_forget : GoodIn wsL_law (wsV RL 131 RX7 yX7_forget wsX7_forget) := goodIn_app (goodIn_of _ (by decide +kernel)) ggL_law_X7_forget
set_option maxRecDepth 20000 in
theorem ggL_law_X6_weight : GoodIn wsL_law wsX6_weight := goodIn_r _ [845, 846, 23, 38, 39, 428, 429, 430, 2, 431, 399, 400, 401, 402, 15, 198, 403, 404, 847, 848, 849, 850, 851, 852, 199, 278, 279, 280, 22, 281, 282, 283, 284, 285, 286, 69, 66, 287, 288, 165, 289, 290, 205, 206, 14, 207, 53, 291, 292, 293, 294, 54, 47, 295, 296, 297, 298, 299, 300, 301, 302, 303, 304, 305, 306, 307, 308, 309, 310, 70, 311, 68, 312, 313, 314, 315, 316, 317, 318, 323, 362, 363, 364, 405, 406, 407, 408, 432, 433, 434, 435, 436, 437, 438, 439, 440, 441, 442, 443, 146, 444, 883, 884, 885, 886, 887, 888, 889, 890, 891, 892, 893, 938, 939, 940, 941, 942, 924, 925, 926, 927, 928, 929, 930, 931, 932, 933, 934] (by decide +kernel) (by decide +kernel)
set_option maxRecDepth 20000 in
theorem gL_law_X6_weight : GoodIn wsL_law (wsV RL 132 RX6 yX6_weight wsX6_weight) := goodIn_app (goodIn_of _ (by decide +kernel)) ggL_law_X6_weight
set_option maxRecDepth 20000 in
theorem ggL_law_X7_weight : GoodIn wsL_law wsX7_weight := goodIn_r _ [856, 179, 857, 133, 120, 349, 180, 181, 182, 5, 183, 184, 185, 186, 187, 188, 112, 413, 414, 415, 416, 417, 418, 333, 334, 335, 336, 114, 220, 221, 222, 223, 337, 338, 339, 340, 341, 342, 343, 344, 419, 420, 421, 422, 119, 332, 345, 346, 347, 348, 118, 117, 350, 351, 352, 353, 115, 354, 355, 356, 357, 116, 858, 859, 860, 861, 450, 451, 452, 453, 454, 455, 456, 457, 458, 459, 460, 461, 894, 895, 896, 897, 898, 899, 900, 901, 902, 903, 904, 905, 906, 907, 908, 909, 910, 911, 912, 913, 914, 915, 916, 917, 918, 919, 920, 921, 922, 923] (by decide +kernel) (by decide +kernel)
set_option maxRecDepth 20000 in
theorem gL_law_X7_weight : GoodIn wsL_law (wsV RL 135 RX7 yX7_weight wsX7_weight) := goodIn_app (goodIn_of _ (by decide +kernel)) ggL_law_X7_weight
set_option maxRecDepth 20000 in
theorem ggL_law_X6_miss : GoodIn wsL_law wsX6_miss := goodIn_r _ [865, 427, 15, 866, 23, 428, 39, 429, 430, 2, 431, 847, 848, 849, 850, 851, 198, 852, 199, 278, 279, 280, 22, 281, 282, 283, 284, 285, 286, 69, 66, 287, 288, 165, 289, 290, 205, 206, 14, 207, 53, 291, 292, 293, 294, 54, 47, 295, 296, 297, 298, 299, 300, 301, 302, 303, 304, 305, 306, 307, 308, 309, 310, 70, 311, 68, 312, 313, 314, 315, 316, 317, 318, 323, 362, 363, 364, 432, 433, 434, 435, 436, 437, 438, 439, 440, 441, 442, 443, 146, 444, 883, 884, 885, 886, 887, 888, 889, 890, 891, 892, 893, 924, 925, 926, 927, 928, 929, 930, 931, 932, 933, 934, 938, 939, 940, 941, 942] (by decide +kernel) (by decide +kernel)
set_option maxRecDepth 20000 in
theorem gL_law_X6_miss : GoodIn wsL_law (wsV RL 136 RX6 yX6_miss wsX6_miss) := goodIn_app (goodIn_of _ (by decide +kernel)) ggL_law_X6_miss
set_option maxRecDepth 20000 in
theorem ggL_law_X7_miss : GoodIn wsL_law wsX7_miss := goodIn_r _ [870, 179, 449, 112, 349, 133, 180, 181, 182, 5, 183, 184, 185, 186, 187, 188, 333, 334, 335, 336, 114, 220, 221, 222, 223, 337, 338, 339, 340, 341, 342, 343, 344, 345, 346, 347, 348, 332, 118, 119, 117, 350, 351, 352, 353, 115, 354, 355, 356, 357, 116, 858, 859, 860, 861, 450, 451, 452, 453, 454, 455, 456, 457, 458, 459, 460, 461, 894, 895, 896, 897, 898, 899, 900, 901, 902, 903, 904, 905, 906, 907, 908, 909, 910, 911, 912, 913, 914, 915, 916, 917, 918, 919, 920, 921, 922, 923] (by decide +kernel) (by decide +kernel)
set_option maxRecDepth 20000 in
theorem gL_law_X7_miss : GoodIn wsL_law (wsV RL 139 RX7 yX7_miss wsX7_miss) := goodIn_app (goodIn_of _ (by decide +kernel)) ggL_law_X7_miss
