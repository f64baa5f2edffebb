theorem mem_r {big : List Cond} (ws : List Cond) (ps : List Nat) (hp : ws = ps.filterMap (fun i => big[i]?)) : ∀ w ∈ ws, w ∈ big := by
  intro w hw
  rw [hp] at hw
  obtain ⟨i, -, hi⟩ := List.mem_filterMap.mp hw
  exact List.mem_of_getElem? hi
set_option maxRecDepth 20000 in
theorem i_wsL_law_r1 : ∀ w ∈ wsL_law_r1, w ∈ lw_tbl := mem_r _ [74, 75, 62, 787, 788, 69, 76, 77, 78, 79, 80, 81, 82, 83, 63, 318, 138, 139, 64, 319, 157, 158, 65, 320] (by decide +kernel)
set_option maxRecDepth 20000 in
theorem i_wsL_law_r2 : ∀ w ∈ wsL_law_r2, w ∈ lw_tbl := mem_r _ [321, 184, 185, 66, 322, 237, 238, 67, 323, 263, 264, 68, 324, 182, 325, 326, 137, 327, 328, 84, 85, 86, 87, 101] (by decide +kernel)
set_option maxRecDepth 20000 in
theorem i_wsL_law_r3 : ∀ w ∈ wsL_law_r3, w ∈ lw_tbl := mem_r _ [104, 106, 108, 110, 112, 88, 91, 140, 141, 142, 143, 144, 147, 146, 159, 160, 161, 162, 163, 183, 165, 166, 169, 186] (by decide +kernel)
set_option maxRecDepth 20000 in
theorem i_wsL_law_r4 : ∀ w ∈ wsL_law_r4, w ∈ lw_tbl := mem_r _ [187, 188, 189, 192, 197, 198, 199, 200, 190, 201, 202, 204, 195, 191, 239, 240, 241, 242, 243, 244, 245, 265, 266, 267] (by decide +kernel)
set_option maxRecDepth 20000 in
theorem i_wsL_law_r5 : ∀ w ∈ wsL_law_r5, w ∈ lw_tbl := mem_r _ [268, 269, 271, 272, 273, 274, 317, 277, 278, 279, 280, 282, 789, 790, 791, 792, 795, 796, 799, 800, 801, 803, 805, 806] (by decide +kernel)
set_option maxRecDepth 20000 in
theorem i_wsL_law_r6 : ∀ w ∈ wsL_law_r6, w ∈ lw_tbl := mem_r _ [807, 808, 809, 810, 814, 815, 816, 817, 818, 820, 821, 793, 822, 823, 352, 353, 354, 355, 356, 357, 358, 359, 149, 148] (by decide +kernel)
set_option maxRecDepth 20000 in
theorem i_wsL_law_r7 : ∀ w ∈ wsL_law_r7, w ∈ lw_tbl := mem_r _ [367, 368, 71, 369, 360, 361, 362, 363, 95, 97, 99, 364, 366, 365, 70, 370, 371, 372, 373, 374, 375, 72, 376, 377] (by decide +kernel)
set_option maxRecDepth 20000 in
theorem i_wsL_law_r8 : ∀ w ∈ wsL_law_r8, w ∈ lw_tbl := mem_r _ [378, 379, 380, 381, 382, 383, 384, 897, 898, 899, 900, 794, 889, 891, 27, 892, 798, 893, 895, 28, 896, 901, 903, 29] (by decide +kernel)
set_option maxRecDepth 20000 in
theorem i_wsL_law_r9 : ∀ w ∈ wsL_law_r9, w ∈ lw_tbl := mem_r _ [904, 797, 385, 386, 387, 388, 93, 103, 389, 390, 391, 392, 393, 394, 395, 396, 397, 398, 399, 400, 905, 906, 907, 908] (by decide +kernel)
set_option maxRecDepth 20000 in
theorem i_wsL_law_r10 : ∀ w ∈ wsL_law_r10, w ∈ lw_tbl := mem_r _ [909, 911, 30, 912, 913, 915, 31, 916, 401, 402, 403, 404, 405, 406, 407, 408, 917, 918, 919, 920, 409, 410, 411, 412] (by decide +kernel)
set_option maxRecDepth 20000 in
theorem i_wsL_law_r11 : ∀ w ∈ wsL_law_r11, w ∈ lw_tbl := mem_r _ [96, 105, 413, 414, 415, 416, 921, 922, 923, 924, 925, 927, 32, 928, 417, 418, 419, 420, 421, 929, 930, 931, 932, 422] (by decide +kernel)
set_option maxRecDepth 20000 in
theorem i_wsL_law_r12 : ∀ w ∈ wsL_law_r12, w ∈ lw_tbl := mem_r _ [423, 424, 425, 90, 167, 98, 426, 427, 428, 429, 430, 432, 0, 433, 434, 435, 436, 437, 94, 438, 439, 440, 441, 442] (by decide +kernel)
set_option maxRecDepth 20000 in
theorem i_wsL_law_r13 : ∀ w ∈ wsL_law_r13, w ∈ lw_tbl := mem_r _ [443, 444, 445, 446, 447, 448, 449, 450, 451, 73, 452, 453, 454, 455, 456, 457, 458, 459, 460, 462, 463, 464, 465, 168] (by decide +kernel)
set_option maxRecDepth 20000 in
theorem i_wsL_law_r14 : ∀ w ∈ wsL_law_r14, w ∈ lw_tbl := mem_r _ [466, 468, 1, 469, 470, 471, 472, 473, 475, 2, 476, 477, 965, 966, 967, 968, 969, 971, 38, 972, 802, 949, 951, 35] (by decide +kernel)
set_option maxRecDepth 20000 in
theorem i_wsL_law_r15 : ∀ w ∈ wsL_law_r15, w ∈ lw_tbl := mem_r _ [952, 937, 939, 33, 940, 941, 943, 34, 944, 973, 975, 39, 976, 804, 977, 979, 40, 980, 961, 963, 37, 964, 478, 479] (by decide +kernel)
set_option maxRecDepth 20000 in
theorem i_wsL_law_r16 : ∀ w ∈ wsL_law_r16, w ∈ lw_tbl := mem_r _ [480, 481, 482, 483, 484, 933, 934, 935, 936, 485, 486, 487, 488, 164, 489, 945, 946, 947, 948, 490, 491, 492, 493, 494] (by decide +kernel)
set_option maxRecDepth 20000 in
theorem i_wsL_law_r17 : ∀ w ∈ wsL_law_r17, w ∈ lw_tbl := mem_r _ [495, 496, 497, 953, 954, 955, 956, 957, 959, 36, 960, 498, 499, 500, 501, 502, 504, 3, 505, 506, 507, 508, 509, 510] (by decide +kernel)
set_option maxRecDepth 20000 in
theorem i_wsL_law_r18 : ∀ w ∈ wsL_law_r18, w ∈ lw_tbl := mem_r _ [511, 981, 982, 983, 984, 985, 987, 41, 988, 989, 990, 991, 993, 42, 994, 512, 513, 514, 515, 519, 170, 516, 517, 518] (by decide +kernel)
set_option maxRecDepth 20000 in
theorem i_wsL_law_r19 : ∀ w ∈ wsL_law_r19, w ∈ lw_tbl := mem_r _ [520, 521, 522, 523, 524, 525, 526, 527, 528, 529, 530, 531, 532, 995, 996, 997, 998, 999, 1000, 1002, 43, 1003, 1004, 1006] (by decide +kernel)
set_option maxRecDepth 20000 in
theorem i_wsL_law_r20 : ∀ w ∈ wsL_law_r20, w ∈ lw_tbl := mem_r _ [44, 1007, 1008, 1010, 45, 1011, 533, 534, 535, 536, 537, 539, 4, 540, 541, 1012, 1013, 1014, 1015, 542, 543, 544, 545, 1016] (by decide +kernel)
set_option maxRecDepth 20000 in
theorem i_wsL_law_r21 : ∀ w ∈ wsL_law_r21, w ∈ lw_tbl := mem_r _ [1017, 1018, 1019, 546, 547, 548, 549, 207, 205, 550, 551, 552, 553, 206, 92, 572, 203, 554, 556, 5, 557, 89, 194, 193] (by decide +kernel)
set_option maxRecDepth 20000 in
theorem i_wsL_law_r22 : ∀ w ∈ wsL_law_r22, w ∈ lw_tbl := mem_r _ [102, 558, 560, 6, 561, 562, 196, 563, 564, 565, 567, 7, 568, 570, 569, 571, 573, 575, 8, 576, 577, 579, 9, 580] (by decide +kernel)
set_option maxRecDepth 20000 in
theorem i_wsL_law_r23 : ∀ w ∈ wsL_law_r23, w ∈ lw_tbl := mem_r _ [581, 582, 583, 584, 585, 586, 587, 588, 590, 10, 591, 592, 593, 594, 595, 596, 1020, 1021, 1022, 1023, 1024, 1026, 46, 1027] (by decide +kernel)
set_option maxRecDepth 20000 in
theorem i_wsL_law_r24 : ∀ w ∈ wsL_law_r24, w ∈ lw_tbl := mem_r _ [1028, 1030, 47, 1031, 812, 811, 1032, 1034, 48, 1035, 597, 598, 599, 600, 1036, 1037, 1038, 1039, 601, 602, 603, 604, 605, 607] (by decide +kernel)
set_option maxRecDepth 20000 in
theorem i_wsL_law_r25 : ∀ w ∈ wsL_law_r25, w ∈ lw_tbl := mem_r _ [11, 608, 609, 610, 611, 612, 613, 614, 615, 617, 12, 618, 619, 1040, 1041, 1042, 1043, 1044, 1046, 49, 1047, 1048, 1050, 50] (by decide +kernel)
set_option maxRecDepth 20000 in
theorem i_wsL_law_r26 : ∀ w ∈ wsL_law_r26, w ∈ lw_tbl := mem_r _ [1051, 620, 621, 622, 623, 1052, 1053, 1054, 1055, 624, 625, 626, 627, 107, 109, 628, 629, 630, 631, 632, 633, 634, 635, 636] (by decide +kernel)
set_option maxRecDepth 20000 in
theorem i_wsL_law_r27 : ∀ w ∈ wsL_law_r27, w ∈ lw_tbl := mem_r _ [637, 638, 1056, 1057, 1058, 1059, 1060, 1062, 51, 1063, 813, 1064, 1066, 52, 1067, 1068, 1070, 53, 1071, 639, 640, 641, 642, 643] (by decide +kernel)
set_option maxRecDepth 20000 in
theorem i_wsL_law_r28 : ∀ w ∈ wsL_law_r28, w ∈ lw_tbl := mem_r _ [644, 645, 646, 647, 648, 649, 650, 651, 1072, 1073, 1074, 1075, 1076, 1078, 54, 1079, 652, 653, 654, 655, 1080, 1081, 1082, 1083] (by decide +kernel)
set_option maxRecDepth 20000 in
theorem i_wsL_law_r29 : ∀ w ∈ wsL_law_r29, w ∈ lw_tbl := mem_r _ [656, 657, 658, 659, 1084, 1085, 1086, 1087, 660, 661, 662, 663, 665, 664, 1088, 1089, 1090, 1091, 1092, 1094, 55, 1095, 666, 667] (by decide +kernel)
set_option maxRecDepth 20000 in
theorem i_wsL_law_r30 : ∀ w ∈ wsL_law_r30, w ∈ lw_tbl := mem_r _ [668, 669, 246, 670, 671, 672, 673, 247, 248, 674, 249, 675, 677, 13, 678, 687, 688, 689, 679, 681, 14, 682, 683, 684] (by decide +kernel)
set_option maxRecDepth 20000 in
theorem i_wsL_law_r31 : ∀ w ∈ wsL_law_r31, w ∈ lw_tbl := mem_r _ [685, 686, 690, 692, 15, 693, 694, 1096, 1097, 1098, 1099, 1100, 1102, 56, 1103, 1104, 1106, 57, 1107, 695, 696, 697, 698, 285] (by decide +kernel)
set_option maxRecDepth 20000 in
theorem i_wsL_law_r32 : ∀ w ∈ wsL_law_r32, w ∈ lw_tbl := mem_r _ [699, 700, 701, 702, 707, 270, 276, 275, 703, 705, 16, 706, 708, 710, 17, 711, 712, 714, 18, 715, 716, 717, 719, 19] (by decide +kernel)
set_option maxRecDepth 20000 in
theorem i_wsL_law_r33 : ∀ w ∈ wsL_law_r33, w ∈ lw_tbl := mem_r _ [720, 721, 722, 723, 724, 726, 20, 727, 281, 728, 729, 731, 21, 732, 733, 735, 22, 736, 737, 739, 23, 740, 741, 743] (by decide +kernel)
set_option maxRecDepth 20000 in
theorem i_wsL_law_r34 : ∀ w ∈ wsL_law_r34, w ∈ lw_tbl := mem_r _ [24, 744, 745, 747, 25, 748, 284, 1108, 1109, 1110, 1111, 1112, 1114, 58, 1115, 819, 1116, 1118, 59, 1119, 749, 750, 751, 752] (by decide +kernel)
set_option maxRecDepth 20000 in
theorem i_wsL_law_r35 : ∀ w ∈ wsL_law_r35, w ∈ lw_tbl := mem_r _ [283, 1120, 1121, 1122, 1123, 753, 754, 755, 756, 757, 758, 759, 760, 1124, 1125, 1126, 1127, 761, 762, 763, 764, 765, 1128, 1129] (by decide +kernel)
set_option maxRecDepth 20000 in
theorem i_wsL_law_r36 : ∀ w ∈ wsL_law_r36, w ∈ lw_tbl := mem_r _ [1130, 1131, 766, 767, 768, 769, 770, 771, 773, 26, 774, 111, 113, 1132, 1133, 1134, 1135, 1136, 1137, 1139, 60, 1140, 775, 776] (by decide +kernel)
set_option maxRecDepth 20000 in
theorem i_wsL_law_r37 : ∀ w ∈ wsL_law_r37, w ∈ lw_tbl := mem_r _ [777, 778, 100, 1141, 1142, 1143, 1144, 779, 780, 781, 782, 783, 784, 785, 786, 885, 886, 887, 888] (by decide +kernel)
set_option maxRecDepth 20000 in
theorem i_wsX60 : ∀ w ∈ wsX60, w ∈ lw_tbl := mem_r _ [329, 331, 333, 335, 337, 339, 341, 343, 345, 347, 349] (by decide +kernel)
set_option maxRecDepth 20000 in
theorem i_wsX70 : ∀ w ∈ wsX70, w ∈ lw_tbl := mem_r _ [824, 826, 828, 830, 832, 834, 836, 838, 840, 842, 844, 846, 848, 850, 852, 854, 856, 858, 860, 862, 864, 866, 868, 870, 872, 874, 876, 878, 880, 882] (by decide +kernel)
set_option maxRecDepth 20000 in
theorem i_wsX10 : ∀ w ∈ wsX10, w ∈ lw_tbl := mem_r _ [114, 116, 118, 120, 122, 124, 126, 128, 130, 132, 134] (by decide +kernel)
set_option maxRecDepth 20000 in
theorem i_wsX30 : ∀ w ∈ wsX30, w ∈ lw_tbl := mem_r _ [150, 152, 154] (by decide +kernel)
set_option maxRecDepth 20000 in
theorem i_wsX20 : ∀ w ∈ wsX20, w ∈ lw_tbl := mem_r _ [171, 173, 175, 177, 179] (by decide +kernel)
set_option maxRecDepth 20000 in
theorem i_wsX50 : ∀ w ∈ wsX50, w ∈ lw_tbl := mem_r _ [208, 210, 212, 214, 216, 218, 220, 222, 224, 226, 228, 230, 232, 234] (by decide +kernel)
set_option maxRecDepth 20000 in
theorem i_wsX40 : ∀ w ∈ wsX40, w ∈ lw_tbl := mem_r _ [250, 252, 254, 256, 258, 260] (by decide +kernel)
set_option maxRecDepth 20000 in
theorem i_wsX00 : ∀ w ∈ wsX00, w ∈ lw_tbl := mem_r _ [286, 288, 290, 292, 294, 296, 298, 300, 302, 304, 306, 308, 310, 312, 314] (by decide +kernel)
theorem mem_a {big a b : List Cond} (ha : ∀ w ∈ a, w ∈ big) (hb : ∀ w ∈ b, w ∈ big) : ∀ w ∈ a ++ b, w ∈ big := fun w h => (List.mem_append.mp h).elim (ha w) (hb w)
theorem wsL_law_in : ∀ w ∈ wsL_law, w ∈ lw_tbl := mem_a (mem_a (mem_a (mem_a (mem_a (mem_a (mem_a (mem_a (mem_a (mem_a i_wsL_law_r1 (mem_a i_wsL_law_r2 (mem_a i_wsL_law_r3 (mem_a i_wsL_law_r4 (mem_a i_wsL_law_r5 (mem_a i_wsL_law_r6 (mem_a i_wsL_law_r7 (mem_a i_wsL_law_r8 (mem_a i_wsL_law_r9 (mem_a i_wsL_law_r10 (mem_a i_wsL_law_r11 (mem_a i_wsL_law_r12 (mem_a i_wsL_law_r13 (mem_a i_wsL_law_r14 (mem_a i_wsL_law_r15 (mem_a i_wsL_law_r16 (mem_a i_wsL_law_r17 (mem_a i_wsL_law_r18 (mem_a i_wsL_law_r19 (mem_a i_wsL_law_r20 (mem_a i_wsL_law_r21 (mem_a i_wsL_law_r22 (mem_a i_wsL_law_r23 (mem_a i_wsL_law_r24 (mem_a i_wsL_law_r25 (mem_a i_wsL_law_r26 (mem_a i_wsL_law_r27 (mem_a i_wsL_law_r28 (mem_a i_wsL_law_r29 (mem_a i_wsL_law_r30 (mem_a i_wsL_law_r31 (mem_a i_wsL_law_r32 (mem_a i_wsL_law_r33 (mem_a i_wsL_law_r34 (mem_a i_wsL_law_r35 (mem_a i_wsL_law_r36 i_wsL_law_r37)))))))))))))))))))))))))))))))))))) i_wsX60) i_wsX70) i_wsX10) i_wsX30) i_wsX20) i_wsX50) i_wsX40) i_wsX00) (fun _ h => absurd h List.not_mem_nil)
theorem inlX0 : ∀ w ∈ wsX00, w ∈ wsL_law := fun _ h => List.mem_append_left _ (List.mem_append_right _ h)
theorem inX0 : ∀ w ∈ wsX00, w ∈ lw_tbl := fun w h => wsL_law_in w (inlX0 w h)
theorem inlX1 : ∀ w ∈ wsX10, w ∈ wsL_law := fun _ h => List.mem_append_left _ (List.mem_append_left _ (List.mem_append_left _ (List.mem_append_left _ (List.mem_append_left _ (List.mem_append_left _ (List.mem_append_right _ h))))))
theorem inX1 : ∀ w ∈ wsX10, w ∈ lw_tbl := fun w h => wsL_law_in w (inlX1 w h)
theorem inlX2 : ∀ w ∈ wsX20, w ∈ wsL_law := fun _ h => List.mem_append_left _ (List.mem_append_left _ (List.mem_append_left _ (List.mem_append_left _ (List.mem_append_right _ h))))
theorem inX2 : ∀ w ∈ wsX20, w ∈ lw_tbl := fun w h => wsL_law_in w (inlX2 w h)
theorem inlX3 : ∀ w ∈ wsX30, w ∈ wsL_law := fun _ h => List.mem_append_left _ (List.mem_append_left _ (List.mem_append_left _ (List.mem_append_left _ (List.mem_append_left _ (List.mem_append_right _ h)))))
theorem inX3 : ∀ w ∈ wsX30, w ∈ lw_tbl := fun w h => wsL_law_in w (inlX3 w h)
theorem inlX4 : ∀ w ∈ wsX40, w ∈ wsL_law := fun _ h => List.mem_append_left _ (List.mem_append_left _ (List.mem_append_right _ h))
theorem inX4 : ∀ w ∈ wsX40, w ∈ lw_tbl := fun w h => wsL_law_in w (inlX4 w h)
theorem inlX5 : ∀ w ∈ wsX50, w ∈ wsL_law := fun _ h => List.mem_append_left _ (List.mem_append_left _ (List.mem_append_left _ (List.mem_append_right _ h)))
theorem inX5 : ∀ w ∈ wsX50, w ∈ lw_tbl := fun w h => wsL_law_in w (inlX5 w h)
theorem inlX6 : ∀ w ∈ wsX60, w ∈ wsL_law := fun _ h => List.mem_append_left _ (List.mem_append_left _ (List.mem_append_left _ (List.mem_append_left _ (List.mem_append_left _ (List.mem_append_left _ (List.mem_append_left _ (List.mem_append_left _ (List.mem_append_right _ h))))))))
theorem inX6 : ∀ w ∈ wsX60, w ∈ lw_tbl := fun w h => wsL_law_in w (inlX6 w h)
theorem inlX7 : ∀ w ∈ wsX70, w ∈ wsL_law := fun _ h => List.mem_append_left _ (List.mem_append_left _ (List.mem_append_left _ (List.mem_append_left _ (List.mem_append_left _ (List.mem_append_left _ (List.mem_append_left _ (List.mem_append_right _ h)))))))
theorem inX7 : ∀ w ∈ wsX70, w ∈ lw_tbl := fun w h => wsL_law_in w (inlX7 w h)
theorem inJ6 : ∀ w ∈ wsJ60, w ∈ lw_tbl := by decide +kernel
theorem inJ9 : ∀ w ∈ wsJ90, w ∈ lw_tbl := by decide +kernel
theorem inJ10 : ∀ w ∈ wsJ100, w ∈ lw_tbl := by decide +kernel
theorem inJ7 : ∀ w ∈ wsJ70, w ∈ lw_tbl := by decide +kernel

