set_option maxRecDepth 20000 in
theorem ggL_law_X6_chain : GoodIn wsL_law wsX6_chain := goodIn_r _ [742, 15, 240, 36, 241, 743, 744, 745, 746, 35, 747, 97, 748, 156, 157, 158, 749, 750, 751, 752, 753, 754, 755, 756, 757, 758, 759, 98, 99, 100, 760, 761, 762, 763, 101, 764, 296, 297, 298, 299, 300, 301, 765, 766, 767, 768, 103, 769, 770, 712, 146, 713, 771, 145, 147, 102, 772, 773, 774, 775, 104, 776, 777, 164, 165, 166, 778, 779, 780, 781, 105, 106, 782, 783, 784, 785, 786, 787, 788, 789, 790, 791, 792, 793, 794, 795, 796, 797, 798, 107, 883, 884, 885, 886, 887, 888, 889, 890, 891, 892, 893, 924, 925, 926, 927, 928, 929, 930, 931, 932, 933, 934, 963, 964, 965, 966, 967, 968, 969, 970, 971, 972, 973, 974, 975, 976, 977] (by decide +kernel) (by decide +kernel)
set_option maxRecDepth 20000 in
theorem gL_law_X6_chain : GoodIn wsL_law (wsV RL 116 RX6 yX6_chain wsX6_chain) := goodIn_app (goodIn_of _ (by decide +kernel)) ggL_law_X6_chain
set_option maxRecDepth 20000 in
theorem ggL_law_X7_chain : GoodIn wsL_law wsX7_chain := goodIn_r _ [802, 179, 180, 181, 182, 5, 183, 184, 185, 186, 187, 188, 112, 803, 804, 805, 806, 807, 129, 132, 130, 250, 251, 252, 253, 220, 221, 222, 223, 808, 809, 810, 811, 341, 342, 343, 344, 894, 895, 896, 897, 898, 899, 900, 901, 902, 903, 904, 905, 906, 907, 908, 909, 910, 911, 912, 913, 914, 915, 916, 917, 918, 919, 920, 921, 922, 923] (by decide +kernel) (by decide +kernel)
set_option maxRecDepth 20000 in
theorem gL_law_X7_chain : GoodIn wsL_law (wsV RL 119 RX7 yX7_chain wsX7_chain) := goodIn_app (goodIn_of _ (by decide +kernel)) ggL_law_X7_chain
set_option maxRecDepth 20000 in
theorem ggL_law_X6_chainOf : GoodIn wsL_law wsX6_chainOf := goodIn_r _ [815, 15, 240, 36, 241, 816, 744, 745, 746, 35, 747, 97, 748, 156, 157, 158, 749, 750, 751, 752, 753, 754, 755, 756, 757, 758, 759, 98, 99, 100, 760, 761, 762, 763, 101, 764, 296, 297, 298, 299, 300, 301, 765, 766, 767, 768, 103, 769, 770, 712, 146, 713, 771, 145, 147, 102, 772, 773, 774, 775, 104, 776, 777, 164, 165, 166, 778, 779, 780, 781, 105, 106, 782, 783, 784, 785, 786, 787, 788, 789, 790, 791, 792, 793, 794, 795, 796, 797, 798, 107, 883, 884, 885, 886, 887, 888, 889, 890, 891, 892, 893, 924, 925, 926, 927, 928, 929, 930, 931, 932, 933, 934, 963, 964, 965, 966, 967, 968, 969, 970, 971, 972, 973, 974, 975, 976, 977] (by decide +kernel) (by decide +kernel)
set_option maxRecDepth 20000 in
theorem gL_law_X6_chainOf : GoodIn wsL_law (wsV RL 120 RX6 yX6_chainOf wsX6_chainOf) := goodIn_app (goodIn_of _ (by decide +kernel)) ggL_law_X6_chainOf
set_option maxRecDepth 20000 in
theorem ggL_law_X7_chainOf : GoodIn wsL_law wsX7_chainOf := goodIn_r _ [820, 179, 807, 130, 180, 181, 182, 5, 183, 184, 185, 186, 187, 188, 112, 803, 804, 805, 806, 129, 132, 250, 251, 252, 253, 220, 221, 222, 223, 808, 809, 810, 811, 341, 342, 343, 344, 894, 895, 896, 897, 898, 899, 900, 901, 902, 903, 904, 905, 906, 907, 908, 909, 910, 911, 912, 913, 914, 915, 916, 917, 918, 919, 920, 921, 922, 923] (by decide +kernel) (by decide +kernel)
set_option maxRecDepth 20000 in
theorem gL_law_X7_chainOf : GoodIn wsL_law (wsV RL 123 RX7 yX7_chainOf wsX7_chainOf) := goodIn_app (goodIn_of _ (by decide +kernel)) ggL_law_X7_chainOf
set_option maxRecDepth 20000 in
theorem ggL_law_X6_see : GoodIn wsL_law wsX6_see := goodIn_r _ [824, 15, 269, 19, 200, 201, 202, 14, 203, 204, 205, 206, 207, 53, 138, 139, 140, 18, 141, 60, 142, 143, 144, 145, 146, 147, 148, 149, 150, 151, 54, 152, 153, 154, 47, 155, 156, 157, 158, 48, 49, 50, 51, 52, 825, 826, 827, 828, 883, 884, 885, 886, 887, 888, 889, 890, 891, 892, 893, 924, 925, 926, 927, 928, 929, 930, 931, 932, 933, 934, 935, 936, 937] (by decide +kernel) (by decide +kernel)
set_option maxRecDepth 20000 in
theorem gL_law_X6_see : GoodIn wsL_law (wsV RL 124 RX6 yX6_see wsX6_see) := goodIn_app (goodIn_of _ (by decide +kernel)) ggL_law_X6_see
set_option maxRecDepth 20000 in
theorem ggL_law_X7_see : GoodIn wsL_law wsX7_see := goodIn_r _ [832, 179, 112, 180, 181, 182, 5, 183, 184, 185, 186, 187, 188, 216, 217, 218, 219, 220, 221, 222, 223, 189, 190, 191, 192, 193, 113, 894, 895, 896, 897, 898, 899, 900, 901, 902, 903, 904, 905, 906, 907, 908, 909, 910, 911, 912, 913, 914, 915, 916, 917, 918, 919, 920, 921, 922, 923] (by decide +kernel) (by decide +kernel)
set_option maxRecDepth 20000 in
theorem gL_law_X7_see : GoodIn wsL_law (wsV RL 127 RX7 yX7_see wsX7_see) := goodIn_app (goodIn_of _ (by decide +kernel)) ggL_law_X7_see
