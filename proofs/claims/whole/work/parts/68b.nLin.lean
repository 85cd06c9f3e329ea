/-! the law's words lie in the table's words -/
theorem wsL_mem {big : List Cond} (ws : List Cond) (ps : List Nat) (hp : ws = ps.filterMap (fun i => big[i]?)) : ∀ w ∈ ws, w ∈ big := by
  intro w hw
  rw [hp] at hw
  obtain ⟨i, -, hi⟩ := List.mem_filterMap.mp hw
  exact List.mem_of_getElem? hi
theorem wsL_step {big ws : List Cond} {n m : Nat} (h1 : ∀ w ∈ (ws.drop n).take m, w ∈ big) (h2 : ∀ w ∈ ws.drop (n + m), w ∈ big) : ∀ w ∈ ws.drop n, w ∈ big := by
  intro w hw
  rw [← List.take_append_drop m (ws.drop n), List.mem_append, List.drop_drop] at hw
  rcases hw with hw | hw
  · exact h1 w hw
  · exact h2 w hw
set_option maxRecDepth 200000 in
set_option maxHeartbeats 4000000 in
theorem wsL_c0 : ∀ w ∈ (wsL_law0.drop 0).take 60, w ∈ lw_tbl := wsL_mem _ [81, 82, 66, 793, 794, 72, 1143, 1144, 83, 84, 85, 86, 87, 88, 89, 90, 67, 261, 126, 127, 68, 262, 208, 209, 70, 263, 224, 264, 226, 71, 266, 125, 267, 92, 93, 94, 95, 96, 105, 106, 107, 128, 129, 130, 131, 169, 175, 176, 164, 177, 132, 178, 134, 179, 171, 136, 69, 138, 139, 140] rfl
set_option maxRecDepth 200000 in
set_option maxHeartbeats 4000000 in
theorem wsL_c60 : ∀ w ∈ (wsL_law0.drop 60).take 60, w ∈ lw_tbl := wsL_mem _ [211, 212, 213, 214, 215, 227, 228, 229, 230, 231, 235, 237, 233, 795, 796, 797, 798, 804, 805, 807, 808, 809, 810, 811, 812, 814, 815, 817, 818, 819, 820, 821, 822, 823, 824, 825, 826, 827, 828, 829, 830, 799, 801, 27, 802, 806, 813, 816, 361, 362, 65, 363, 364, 365, 366, 367, 368, 369, 76, 265] rfl
set_option maxRecDepth 200000 in
set_option maxHeartbeats 4000000 in
theorem wsL_c120 : ∀ w ∈ (wsL_law0.drop 120).take 60, w ∈ lw_tbl := wsL_mem _ [268, 437, 438, 439, 440, 98, 101, 103, 892, 893, 894, 895, 896, 897, 898, 899, 901, 28, 902, 803, 888, 889, 890, 891, 441, 442, 443, 444, 445, 446, 447, 448, 462, 77, 449, 451, 5, 452, 453, 454, 455, 456, 458, 459, 460, 461, 903, 904, 905, 906, 907, 909, 29, 910, 478, 479, 480, 481, 482, 483] rfl
set_option maxRecDepth 200000 in
set_option maxHeartbeats 4000000 in
theorem wsL_c180 : ∀ w ∈ (wsL_law0.drop 180).take 60, w ∈ lw_tbl := wsL_mem _ [484, 102, 911, 912, 913, 914, 486, 487, 488, 489, 490, 491, 492, 493, 104, 494, 496, 6, 497, 502, 78, 498, 499, 500, 501, 518, 519, 520, 521, 523, 525, 7, 526, 527, 528, 529, 530, 149, 242, 298, 299, 300, 301, 244, 915, 916, 917, 918, 919, 921, 30, 922, 923, 925, 31, 926, 927, 929, 32, 930] rfl
set_option maxRecDepth 200000 in
set_option maxHeartbeats 4000000 in
theorem wsL_c240 : ∀ w ∈ (wsL_law0.drop 240).take 60, w ∈ lw_tbl := wsL_mem _ [931, 933, 33, 934, 531, 532, 533, 534, 535, 536, 537, 935, 936, 937, 938, 539, 540, 541, 542, 543, 544, 545, 97, 294, 295, 296, 297, 302, 303, 304, 305, 141, 306, 307, 308, 309, 148, 310, 311, 312, 313, 152, 939, 940, 941, 942, 286, 287, 288, 289, 99, 320, 321, 80, 322, 290, 292, 0, 293, 314] rfl
set_option maxRecDepth 200000 in
set_option maxHeartbeats 4000000 in
theorem wsL_c300 : ∀ w ∈ (wsL_law0.drop 300).take 60, w ∈ lw_tbl := wsL_mem _ [315, 79, 316, 317, 318, 319, 943, 944, 945, 946, 947, 949, 34, 950, 547, 548, 549, 550, 551, 552, 553, 951, 952, 953, 954, 555, 556, 557, 558, 559, 560, 561, 245, 562, 563, 564, 567, 569, 8, 570, 243, 571, 572, 573, 574, 238, 240, 575, 577, 9, 578, 579, 581, 10, 582, 170, 583, 584, 585, 586] rfl
set_option maxRecDepth 200000 in
set_option maxHeartbeats 4000000 in
theorem wsL_c360 : ∀ w ∈ (wsL_law0.drop 360).take 60, w ∈ lw_tbl := wsL_mem _ [100, 587, 589, 11, 590, 172, 173, 174, 180, 591, 593, 12, 594, 595, 597, 13, 598, 599, 601, 14, 602, 603, 605, 15, 606, 607, 608, 609, 610, 143, 146, 611, 613, 16, 614, 616, 617, 618, 619, 620, 621, 622, 623, 624, 625, 626, 627, 628, 629, 630, 631, 633, 17, 634, 165, 167, 635, 636, 637, 638] rfl
set_option maxRecDepth 200000 in
set_option maxHeartbeats 4000000 in
theorem wsL_c420 : ∀ w ∈ (wsL_law0.drop 420).take 60, w ∈ lw_tbl := wsL_mem _ [639, 640, 641, 642, 643, 644, 645, 646, 150, 647, 649, 18, 650, 651, 652, 653, 144, 654, 656, 19, 657, 166, 168, 659, 661, 20, 662, 339, 664, 665, 666, 667, 668, 669, 670, 671, 955, 956, 957, 958, 959, 961, 35, 962, 963, 965, 36, 966, 967, 969, 37, 970, 971, 973, 38, 974, 975, 977, 39, 978] rfl
set_option maxRecDepth 200000 in
set_option maxHeartbeats 4000000 in
theorem wsL_c480 : ∀ w ∈ (wsL_law0.drop 480).take 60, w ∈ lw_tbl := wsL_mem _ [979, 981, 40, 982, 983, 984, 985, 986, 988, 41, 989, 990, 992, 42, 993, 994, 996, 43, 997, 998, 1000, 44, 1001, 1002, 1004, 45, 1005, 1006, 1008, 46, 1009, 1010, 1011, 1012, 1013, 1014, 1015, 1016, 1018, 47, 1019, 1020, 1022, 48, 1023, 1024, 1026, 49, 1027, 1028, 1030, 50, 1031, 1032, 1034, 51, 1035, 1036, 1038, 52] rfl
set_option maxRecDepth 200000 in
set_option maxHeartbeats 4000000 in
theorem wsL_c540 : ∀ w ∈ (wsL_law0.drop 540).take 60, w ∈ lw_tbl := wsL_mem _ [1039, 1040, 1042, 53, 1043, 1044, 1045, 1046, 672, 673, 674, 675, 676, 677, 678, 145, 1047, 1048, 1049, 1050, 680, 681, 682, 683, 684, 685, 686, 687, 689, 21, 690, 1051, 1052, 1053, 1054, 1055, 1057, 54, 1058, 1059, 1061, 55, 1062, 693, 694, 695, 696, 697, 698, 699, 234, 1063, 1064, 1065, 1066, 323, 324, 325, 326, 1067] rfl
set_option maxRecDepth 200000 in
set_option maxHeartbeats 4000000 in
theorem wsL_c600 : ∀ w ∈ (wsL_law0.drop 600).take 60, w ∈ lw_tbl := wsL_mem _ [1068, 1069, 1070, 327, 328, 329, 330, 1071, 1072, 1073, 1074, 700, 701, 702, 703, 704, 705, 706, 707, 709, 22, 710, 1075, 1076, 1077, 1078, 1079, 1081, 56, 1082, 712, 713, 714, 715, 716, 717, 718, 1083, 1084, 1085, 1086, 719, 720, 721, 722, 723, 724, 725, 142, 726, 728, 23, 729, 730, 731, 732, 733, 1087, 1088, 1089] rfl
set_option maxRecDepth 200000 in
set_option maxHeartbeats 4000000 in
theorem wsL_c660 : ∀ w ∈ (wsL_law0.drop 660).take 60, w ∈ lw_tbl := wsL_mem _ [1090, 1091, 1093, 57, 1094, 735, 736, 737, 738, 739, 740, 741, 743, 1095, 1096, 1097, 1098, 744, 745, 746, 747, 748, 749, 750, 239, 241, 236, 753, 1099, 1100, 1101, 1102, 754, 755, 756, 757, 758, 759, 760, 761, 763, 24, 764, 765, 767, 25, 768, 1103, 1104, 1105, 1106, 1107, 1109, 58, 1110, 1111, 1113, 59, 1114, 770] rfl
set_option maxRecDepth 200000 in
set_option maxHeartbeats 4000000 in
theorem wsL_c720 : ∀ w ∈ (wsL_law0.drop 720).take 60, w ∈ lw_tbl := wsL_mem _ [771, 772, 773, 774, 775, 776, 777, 779, 26, 780, 147, 781, 782, 783, 784, 785, 786, 787, 788, 789, 790, 791, 1115, 1116, 1117, 1118, 1119, 1121, 60, 1122, 1123, 1125, 61, 1126, 331, 332, 333, 334, 151, 335, 336, 337, 338, 216, 340, 341, 342, 343, 344, 345, 346, 347, 348, 350, 1, 351, 352, 353, 355, 2] rfl
set_option maxRecDepth 200000 in
set_option maxHeartbeats 4000000 in
theorem wsL_c780 : ∀ w ∈ (wsL_law0.drop 780).take 60, w ∈ lw_tbl := wsL_mem _ [356, 357, 359, 3, 360, 1127, 1128, 1129, 1130, 1131, 1133, 62, 1134, 1135, 1137, 63, 1138, 1139, 1141, 64, 1142, 269, 271, 273, 275, 277, 279, 281, 283, 831, 833, 835, 837, 839, 841, 843, 845, 847, 849, 851, 853, 855, 857, 859, 861, 863, 865, 867, 869, 871, 873, 875, 877, 879, 881, 883, 885, 108, 110, 112] rfl
set_option maxRecDepth 200000 in
set_option maxHeartbeats 4000000 in
theorem wsL_c840 : ∀ w ∈ (wsL_law0.drop 840).take 60, w ∈ lw_tbl := wsL_mem _ [114, 116, 118, 120, 122, 181, 183, 185, 187, 189, 191, 193, 195, 197, 199, 201, 203, 205, 217, 219, 221, 246, 248, 250, 252, 254, 256, 258, 153, 155, 157, 159, 161] rfl
set_option maxRecDepth 200000 in
theorem wsL_e : ∀ w ∈ wsL_law0.drop 900, w ∈ lw_tbl := fun w h => by
  have e : wsL_law0.drop 900 = [] := rfl
  rw [e] at h
  cases h
theorem wsL_d840 : ∀ w ∈ wsL_law0.drop 840, w ∈ lw_tbl := wsL_step (n := 840) (m := 60) wsL_c840 wsL_e
theorem wsL_d780 : ∀ w ∈ wsL_law0.drop 780, w ∈ lw_tbl := wsL_step (n := 780) (m := 60) wsL_c780 wsL_d840
theorem wsL_d720 : ∀ w ∈ wsL_law0.drop 720, w ∈ lw_tbl := wsL_step (n := 720) (m := 60) wsL_c720 wsL_d780
theorem wsL_d660 : ∀ w ∈ wsL_law0.drop 660, w ∈ lw_tbl := wsL_step (n := 660) (m := 60) wsL_c660 wsL_d720
theorem wsL_d600 : ∀ w ∈ wsL_law0.drop 600, w ∈ lw_tbl := wsL_step (n := 600) (m := 60) wsL_c600 wsL_d660
theorem wsL_d540 : ∀ w ∈ wsL_law0.drop 540, w ∈ lw_tbl := wsL_step (n := 540) (m := 60) wsL_c540 wsL_d600
theorem wsL_d480 : ∀ w ∈ wsL_law0.drop 480, w ∈ lw_tbl := wsL_step (n := 480) (m := 60) wsL_c480 wsL_d540
theorem wsL_d420 : ∀ w ∈ wsL_law0.drop 420, w ∈ lw_tbl := wsL_step (n := 420) (m := 60) wsL_c420 wsL_d480
theorem wsL_d360 : ∀ w ∈ wsL_law0.drop 360, w ∈ lw_tbl := wsL_step (n := 360) (m := 60) wsL_c360 wsL_d420
theorem wsL_d300 : ∀ w ∈ wsL_law0.drop 300, w ∈ lw_tbl := wsL_step (n := 300) (m := 60) wsL_c300 wsL_d360
theorem wsL_d240 : ∀ w ∈ wsL_law0.drop 240, w ∈ lw_tbl := wsL_step (n := 240) (m := 60) wsL_c240 wsL_d300
theorem wsL_d180 : ∀ w ∈ wsL_law0.drop 180, w ∈ lw_tbl := wsL_step (n := 180) (m := 60) wsL_c180 wsL_d240
theorem wsL_d120 : ∀ w ∈ wsL_law0.drop 120, w ∈ lw_tbl := wsL_step (n := 120) (m := 60) wsL_c120 wsL_d180
theorem wsL_d60 : ∀ w ∈ wsL_law0.drop 60, w ∈ lw_tbl := wsL_step (n := 60) (m := 60) wsL_c60 wsL_d120
theorem wsL_d0 : ∀ w ∈ wsL_law0.drop 0, w ∈ lw_tbl := wsL_step (n := 0) (m := 60) wsL_c0 wsL_d60
theorem wsL_law_in0 : ∀ w ∈ wsL_law0, w ∈ lw_tbl := wsL_d0
