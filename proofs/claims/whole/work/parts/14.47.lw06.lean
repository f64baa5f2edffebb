set_option maxRecDepth 20000 in
theorem ggL_law_X6_word : GoodIn wsL_law wsX6_word := goodIn_r _ [612, 15, 19, 613, 614, 200, 201, 202, 14, 203, 204, 205, 206, 207, 53, 615, 616, 617, 618, 49, 619, 620, 621, 622, 623, 624, 625, 138, 139, 140, 18, 141, 60, 142, 143, 144, 145, 146, 147, 148, 149, 150, 151, 54, 152, 153, 154, 47, 155, 156, 157, 158, 48, 50, 51, 52, 883, 884, 885, 886, 887, 888, 889, 890, 891, 892, 893, 924, 925, 926, 927, 928, 929, 930, 931, 932, 933, 934, 935, 936, 937] (by decide +kernel) (by decide +kernel)
set_option maxRecDepth 20000 in
theorem gL_law_X6_word : GoodIn wsL_law (wsV RL 91 RX6 yX6_word wsX6_word) := goodIn_app (goodIn_of _ (by decide +kernel)) ggL_law_X6_word
set_option maxRecDepth 20000 in
theorem ggL_law_X7_word : GoodIn wsL_law wsX7_word := goodIn_r _ [629, 179, 112, 180, 181, 182, 5, 183, 184, 185, 186, 187, 188, 216, 217, 218, 219, 220, 221, 222, 223, 630, 631, 632, 633, 634, 124, 635, 636, 637, 638, 639, 640, 641, 642, 189, 190, 191, 192, 193, 113, 894, 895, 896, 897, 898, 899, 900, 901, 902, 903, 904, 905, 906, 907, 908, 909, 910, 911, 912, 913, 914, 915, 916, 917, 918, 919, 920, 921, 922, 923] (by decide +kernel) (by decide +kernel)
set_option maxRecDepth 20000 in
theorem gL_law_X7_word : GoodIn wsL_law (wsV RL 95 RX7 yX7_word wsX7_word) := goodIn_app (goodIn_of _ (by decide +kernel)) ggL_law_X7_word
set_option maxRecDepth 20000 in
theorem ggL_law_X6_part : GoodIn wsL_law wsX6_part := goodIn_r _ [646, 15, 19, 323, 205, 206, 14, 207, 53, 647, 648, 649, 650, 49, 138, 139, 140, 18, 141, 60, 142, 143, 144, 145, 146, 147, 148, 149, 150, 151, 54, 152, 153, 154, 47, 155, 156, 157, 158, 48, 50, 51, 52, 258, 168, 169, 170, 163, 164, 165, 166, 651, 652, 653, 654, 655, 363, 364, 295, 296, 297, 298, 299, 300, 301, 242, 243, 244, 245, 883, 884, 885, 886, 887, 888, 889, 890, 891, 892, 893, 924, 925, 926, 927, 928, 929, 930, 931, 932, 933, 934, 935, 936, 937] (by decide +kernel) (by decide +kernel)
set_option maxRecDepth 20000 in
theorem gL_law_X6_part : GoodIn wsL_law (wsV RL 96 RX6 yX6_part wsX6_part) := goodIn_app (goodIn_of _ (by decide +kernel)) ggL_law_X6_part
set_option maxRecDepth 20000 in
theorem ggL_law_X7_part : GoodIn wsL_law wsX7_part := goodIn_r _ [659, 179, 112, 180, 181, 182, 5, 183, 184, 185, 186, 187, 188, 220, 221, 222, 223, 660, 661, 662, 663, 337, 338, 339, 340, 341, 342, 343, 344, 189, 190, 191, 192, 193, 113, 216, 217, 218, 219, 894, 895, 896, 897, 898, 899, 900, 901, 902, 903, 904, 905, 906, 907, 908, 909, 910, 911, 912, 913, 914, 915, 916, 917, 918, 919, 920, 921, 922, 923] (by decide +kernel) (by decide +kernel)
set_option maxRecDepth 20000 in
theorem gL_law_X7_part : GoodIn wsL_law (wsV RL 99 RX7 yX7_part wsX7_part) := goodIn_app (goodIn_of _ (by decide +kernel)) ggL_law_X7_part
set_option maxRecDepth 20000 in
theorem ggL_law_X6_alike : GoodIn wsL_law wsX6_alike := goodIn_r _ [667, 15, 200, 201, 202, 14, 203, 204, 205, 206, 207, 53, 647, 648, 649, 650, 49, 883, 884, 885, 886, 887, 888, 889, 890, 891, 892, 893, 924, 925, 926, 927, 928, 929, 930, 931, 932, 933, 934] (by decide +kernel) (by decide +kernel)
set_option maxRecDepth 20000 in
theorem gL_law_X6_alike : GoodIn wsL_law (wsV RL 100 RX6 yX6_alike wsX6_alike) := goodIn_app (goodIn_of _ (by decide +kernel)) ggL_law_X6_alike
set_option maxRecDepth 20000 in
theorem ggL_law_X7_alike : GoodIn wsL_law wsX7_alike := goodIn_r _ [671, 179, 634, 180, 181, 182, 5, 183, 184, 185, 186, 187, 188, 112, 216, 217, 218, 219, 220, 221, 222, 223, 630, 631, 632, 633, 124, 635, 636, 637, 638, 894, 895, 896, 897, 898, 899, 900, 901, 902, 903, 904, 905, 906, 907, 908, 909, 910, 911, 912, 913, 914, 915, 916, 917, 918, 919, 920, 921, 922, 923] (by decide +kernel) (by decide +kernel)
set_option maxRecDepth 20000 in
theorem gL_law_X7_alike : GoodIn wsL_law (wsV RL 103 RX7 yX7_alike wsX7_alike) := goodIn_app (goodIn_of _ (by decide +kernel)) ggL_law_X7_alike
