set_option maxRecDepth 20000 in
theorem ggL_law_X6_alikeOf : GoodIn wsL_law wsX6_alikeOf := goodIn_r _ [675, 15, 200, 201, 202, 14, 203, 204, 205, 206, 207, 53, 615, 616, 617, 618, 49, 619, 620, 621, 622, 623, 624, 323, 625, 883, 884, 885, 886, 887, 888, 889, 890, 891, 892, 893, 924, 925, 926, 927, 928, 929, 930, 931, 932, 933, 934] (by decide +kernel) (by decide +kernel)
set_option maxRecDepth 20000 in
theorem gL_law_X6_alikeOf : GoodIn wsL_law (wsV RL 104 RX6 yX6_alikeOf wsX6_alikeOf) := goodIn_app (goodIn_of _ (by decide +kernel)) ggL_law_X6_alikeOf
set_option maxRecDepth 20000 in
theorem ggL_law_X7_alikeOf : GoodIn wsL_law wsX7_alikeOf := goodIn_r _ [679, 179, 180, 181, 182, 5, 183, 184, 185, 186, 187, 188, 112, 216, 217, 218, 219, 220, 221, 222, 223, 630, 631, 632, 633, 634, 124, 635, 636, 637, 638, 639, 640, 641, 642, 894, 895, 896, 897, 898, 899, 900, 901, 902, 903, 904, 905, 906, 907, 908, 909, 910, 911, 912, 913, 914, 915, 916, 917, 918, 919, 920, 921, 922, 923] (by decide +kernel) (by decide +kernel)
set_option maxRecDepth 20000 in
theorem gL_law_X7_alikeOf : GoodIn wsL_law (wsV RL 107 RX7 yX7_alikeOf wsX7_alikeOf) := goodIn_app (goodIn_of _ (by decide +kernel)) ggL_law_X7_alikeOf
set_option maxRecDepth 20000 in
theorem ggL_law_X6_length : GoodIn wsL_law wsX6_length := goodIn_r _ [683, 15, 684, 145, 146, 147, 615, 616, 617, 14, 618, 49, 619, 620, 621, 622, 623, 624, 323, 205, 206, 207, 53, 625, 685, 296, 297, 298, 299, 300, 301, 883, 884, 885, 886, 887, 888, 889, 890, 891, 892, 893, 924, 925, 926, 927, 928, 929, 930, 931, 932, 933, 934] (by decide +kernel) (by decide +kernel)
set_option maxRecDepth 20000 in
theorem gL_law_X6_length : GoodIn wsL_law (wsV RL 108 RX6 yX6_length wsX6_length) := goodIn_app (goodIn_of _ (by decide +kernel)) ggL_law_X6_length
set_option maxRecDepth 20000 in
theorem ggL_law_X7_length : GoodIn wsL_law wsX7_length := goodIn_r _ [689, 179, 180, 181, 182, 5, 183, 184, 185, 186, 187, 188, 112, 630, 631, 632, 633, 634, 124, 635, 636, 637, 638, 690, 691, 692, 693, 341, 342, 343, 344, 894, 895, 896, 897, 898, 899, 900, 901, 902, 903, 904, 905, 906, 907, 908, 909, 910, 911, 912, 913, 914, 915, 916, 917, 918, 919, 920, 921, 922, 923] (by decide +kernel) (by decide +kernel)
set_option maxRecDepth 20000 in
theorem gL_law_X7_length : GoodIn wsL_law (wsV RL 111 RX7 yX7_length wsX7_length) := goodIn_app (goodIn_of _ (by decide +kernel)) ggL_law_X7_length
set_option maxRecDepth 20000 in
theorem ggL_law_X6_bestPart : GoodIn wsL_law wsX6_bestPart := goodIn_r _ [697, 15, 267, 32, 19, 613, 698, 614, 323, 205, 206, 14, 207, 53, 699, 700, 701, 31, 702, 703, 704, 705, 706, 91, 707, 708, 709, 710, 711, 712, 146, 713, 90, 714, 715, 716, 717, 92, 718, 156, 157, 158, 719, 720, 721, 722, 723, 724, 725, 726, 296, 297, 298, 299, 300, 301, 138, 139, 140, 18, 141, 60, 142, 143, 144, 145, 147, 148, 149, 150, 151, 54, 152, 153, 154, 47, 155, 48, 49, 50, 51, 52, 883, 884, 885, 886, 887, 888, 889, 890, 891, 892, 893, 924, 925, 926, 927, 928, 929, 930, 931, 932, 933, 934, 957, 958, 959, 960, 961, 962, 935, 936, 937] (by decide +kernel) (by decide +kernel)
set_option maxRecDepth 20000 in
theorem gL_law_X6_bestPart : GoodIn wsL_law (wsV RL 112 RX6 yX6_bestPart wsX6_bestPart) := goodIn_app (goodIn_of _ (by decide +kernel)) ggL_law_X6_bestPart
set_option maxRecDepth 20000 in
theorem ggL_law_X7_bestPart : GoodIn wsL_law wsX7_bestPart := goodIn_r _ [730, 179, 112, 128, 634, 124, 127, 126, 180, 181, 182, 5, 183, 184, 185, 186, 187, 188, 220, 221, 222, 223, 635, 636, 637, 638, 639, 640, 641, 642, 731, 732, 733, 734, 125, 690, 691, 692, 693, 341, 342, 343, 344, 735, 736, 737, 738, 189, 190, 191, 192, 193, 113, 894, 895, 896, 897, 898, 899, 900, 901, 902, 903, 904, 905, 906, 907, 908, 909, 910, 911, 912, 913, 914, 915, 916, 917, 918, 919, 920, 921, 922, 923] (by decide +kernel) (by decide +kernel)
set_option maxRecDepth 20000 in
theorem gL_law_X7_bestPart : GoodIn wsL_law (wsV RL 115 RX7 yX7_bestPart wsX7_bestPart) := goodIn_app (goodIn_of _ (by decide +kernel)) ggL_law_X7_bestPart
