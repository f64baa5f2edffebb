set_option maxRecDepth 20000 in
theorem ggL_law_X6_worth : GoodIn wsL_law wsX6_worth := goodIn_r _ [382, 23, 15, 241, 278, 279, 280, 22, 281, 282, 283, 284, 285, 286, 69, 66, 287, 288, 165, 289, 290, 205, 206, 14, 207, 53, 291, 292, 293, 294, 54, 47, 295, 296, 297, 298, 299, 300, 301, 302, 303, 304, 305, 306, 383, 384, 385, 386, 883, 884, 885, 886, 887, 888, 889, 890, 891, 892, 893, 924, 925, 926, 927, 928, 929, 930, 931, 932, 933, 934, 938, 939, 940, 941, 942] (by decide +kernel) (by decide +kernel)
set_option maxRecDepth 20000 in
theorem gL_law_X6_worth : GoodIn wsL_law (wsV RL 49 RX6 yX6_worth wsX6_worth) := goodIn_app (goodIn_of _ (by decide +kernel)) ggL_law_X6_worth
set_option maxRecDepth 20000 in
theorem ggL_law_X7_worth : GoodIn wsL_law wsX7_worth := goodIn_r _ [390, 179, 180, 181, 182, 5, 183, 184, 185, 186, 187, 188, 112, 333, 334, 335, 336, 114, 220, 221, 222, 223, 337, 338, 339, 340, 341, 342, 343, 344, 391, 392, 393, 394, 115, 354, 355, 356, 357, 116, 894, 895, 896, 897, 898, 899, 900, 901, 902, 903, 904, 905, 906, 907, 908, 909, 910, 911, 912, 913, 914, 915, 916, 917, 918, 919, 920, 921, 922, 923] (by decide +kernel) (by decide +kernel)
set_option maxRecDepth 20000 in
theorem gL_law_X7_worth : GoodIn wsL_law (wsV RL 53 RX7 yX7_worth wsX7_worth) := goodIn_app (goodIn_of _ (by decide +kernel)) ggL_law_X7_worth
set_option maxRecDepth 20000 in
theorem ggL_law_X6_known : GoodIn wsL_law wsX6_known := goodIn_r _ [398, 23, 38, 399, 400, 401, 2, 402, 15, 198, 403, 404, 274, 275, 276, 277, 241, 278, 279, 280, 22, 281, 282, 283, 284, 285, 286, 69, 66, 287, 288, 165, 289, 290, 205, 206, 14, 207, 53, 291, 292, 293, 294, 54, 47, 295, 296, 297, 298, 299, 300, 301, 302, 303, 304, 305, 306, 307, 308, 309, 310, 70, 311, 68, 312, 313, 314, 315, 316, 317, 318, 405, 406, 407, 408, 883, 884, 885, 886, 887, 888, 889, 890, 891, 892, 893, 924, 925, 926, 927, 928, 929, 930, 931, 932, 933, 934, 938, 939, 940, 941, 942] (by decide +kernel) (by decide +kernel)
set_option maxRecDepth 20000 in
theorem gL_law_X6_known : GoodIn wsL_law (wsV RL 54 RX6 yX6_known wsX6_known) := goodIn_app (goodIn_of _ (by decide +kernel)) ggL_law_X6_known
set_option maxRecDepth 20000 in
theorem ggL_law_X7_known : GoodIn wsL_law wsX7_known := goodIn_r _ [412, 179, 180, 181, 182, 5, 183, 184, 185, 186, 187, 188, 112, 413, 414, 415, 416, 120, 417, 418, 333, 334, 335, 336, 114, 220, 221, 222, 223, 337, 338, 339, 340, 341, 342, 343, 344, 419, 420, 421, 422, 119, 332, 345, 346, 347, 348, 349, 118, 117, 350, 351, 352, 353, 115, 354, 355, 356, 357, 116, 894, 895, 896, 897, 898, 899, 900, 901, 902, 903, 904, 905, 906, 907, 908, 909, 910, 911, 912, 913, 914, 915, 916, 917, 918, 919, 920, 921, 922, 923] (by decide +kernel) (by decide +kernel)
set_option maxRecDepth 20000 in
theorem gL_law_X7_known : GoodIn wsL_law (wsV RL 58 RX7 yX7_known wsX7_known) := goodIn_app (goodIn_of _ (by decide +kernel)) ggL_law_X7_known
set_option maxRecDepth 20000 in
theorem ggL_law_X6_spread : GoodIn wsL_law wsX6_spread := goodIn_r _ [426, 427, 23, 38, 428, 429, 430, 2, 431, 399, 400, 401, 402, 15, 198, 403, 404, 274, 275, 276, 277, 241, 278, 279, 280, 22, 281, 282, 283, 284, 285, 286, 69, 66, 287, 288, 165, 289, 290, 205, 206, 14, 207, 53, 291, 292, 293, 294, 54, 47, 295, 296, 297, 298, 299, 300, 301, 302, 303, 304, 305, 306, 307, 308, 309, 310, 70, 311, 68, 312, 313, 314, 315, 316, 317, 318, 405, 406, 407, 408, 432, 433, 434, 435, 436, 437, 438, 439, 440, 441, 442, 443, 146, 444, 883, 884, 885, 886, 887, 888, 889, 890, 891, 892, 893, 938, 939, 940, 941, 942, 924, 925, 926, 927, 928, 929, 930, 931, 932, 933, 934] (by decide +kernel) (by decide +kernel)
set_option maxRecDepth 20000 in
theorem gL_law_X6_spread : GoodIn wsL_law (wsV RL 59 RX6 yX6_spread wsX6_spread) := goodIn_app (goodIn_of _ (by decide +kernel)) ggL_law_X6_spread
set_option maxRecDepth 20000 in
theorem ggL_law_X7_spread : GoodIn wsL_law wsX7_spread := goodIn_r _ [448, 179, 449, 120, 349, 180, 181, 182, 5, 183, 184, 185, 186, 187, 188, 112, 413, 414, 415, 416, 417, 418, 333, 334, 335, 336, 114, 220, 221, 222, 223, 337, 338, 339, 340, 341, 342, 343, 344, 419, 420, 421, 422, 119, 332, 345, 346, 347, 348, 118, 117, 350, 351, 352, 353, 115, 354, 355, 356, 357, 116, 450, 451, 452, 453, 454, 455, 456, 457, 458, 459, 460, 461, 894, 895, 896, 897, 898, 899, 900, 901, 902, 903, 904, 905, 906, 907, 908, 909, 910, 911, 912, 913, 914, 915, 916, 917, 918, 919, 920, 921, 922, 923] (by decide +kernel) (by decide +kernel)
set_option maxRecDepth 20000 in
theorem gL_law_X7_spread : GoodIn wsL_law (wsV RL 63 RX7 yX7_spread wsX7_spread) := goodIn_app (goodIn_of _ (by decide +kernel)) ggL_law_X7_spread
