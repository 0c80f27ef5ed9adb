theorem mem_fm {big ws : List Cond} (ps : List Nat) (hp : ws = ps.filterMap (fun i => big[i]?)) : ∀ w ∈ ws, w ∈ big := by
  subst hp
  intro w hw
  obtain ⟨i, -, hi⟩ := List.mem_filterMap.mp hw
  exact List.mem_of_getElem? hi
set_option maxRecDepth 20000 in
theorem lin1 : ∀ w ∈ wsL_law_r1, w ∈ lw_tbl := mem_fm [68, 69, 52, 779, 780, 60, 1115, 70, 71, 72, 73, 74, 75, 76, 77, 53, 321, 110, 111, 54, 322, 323, 175, 176] (by decide +kernel)
set_option maxRecDepth 20000 in
theorem lin2 : ∀ w ∈ wsL_law_r2, w ∈ lw_tbl := mem_fm [55, 324, 325, 326, 228, 229, 56, 328, 245, 246, 57, 329, 261, 262, 58, 330, 291, 292, 59, 331, 79, 80, 81, 109] (by decide +kernel)
set_option maxRecDepth 20000 in
theorem lin3 : ∀ w ∈ wsL_law_r3, w ∈ lw_tbl := mem_fm [82, 85, 113, 114, 115, 127, 130, 174, 137, 139, 141, 143, 145, 149, 178, 179, 180, 181, 186, 190, 192, 194, 196, 198] (by decide +kernel)
set_option maxRecDepth 20000 in
theorem lin4 : ∀ w ∈ wsL_law_r4, w ∈ lw_tbl := mem_fm [231, 232, 233, 234, 235, 248, 249, 250, 264, 265, 266, 267, 269, 270, 271, 272, 273, 294, 295, 296, 297, 299, 300, 301] (by decide +kernel)
set_option maxRecDepth 20000 in
theorem lin5 : ∀ w ∈ wsL_law_r5, w ∈ lw_tbl := mem_fm [302, 781, 782, 783, 784, 878, 790, 879, 791, 792, 793, 794, 795, 796, 797, 798, 799, 800, 807, 813, 814, 815, 816, 817] (by decide +kernel)
set_option maxRecDepth 20000 in
theorem lin6 : ∀ w ∈ wsL_law_r6, w ∈ lw_tbl := mem_fm [785, 787, 25, 788, 789, 355, 356, 357, 358, 362, 367, 84, 359, 360, 361, 363, 364, 365, 366, 83, 368, 369, 370, 371] (by decide +kernel)
set_option maxRecDepth 20000 in
theorem lin7 : ∀ w ∈ wsL_law_r7, w ∈ lw_tbl := mem_fm [880, 881, 882, 883, 884, 888, 808, 889, 890, 885, 886, 887, 372, 373, 374, 375, 237, 327, 119, 376, 377, 378, 379, 88] (by decide +kernel)
set_option maxRecDepth 20000 in
theorem lin8 : ∀ w ∈ wsL_law_r8, w ∈ lw_tbl := mem_fm [87, 90, 91, 380, 381, 382, 383, 116, 122, 133, 384, 386, 0, 387, 388, 390, 1, 391, 392, 394, 2, 395, 396, 398] (by decide +kernel)
set_option maxRecDepth 20000 in
theorem lin9 : ∀ w ∈ wsL_law_r9, w ∈ lw_tbl := mem_fm [3, 399, 89, 401, 403, 4, 404, 405, 406, 407, 61, 408, 1116, 409, 410, 411, 412, 413, 1117, 415, 416, 417, 418, 419] (by decide +kernel)
set_option maxRecDepth 20000 in
theorem lin10 : ∀ w ∈ wsL_law_r10, w ∈ lw_tbl := mem_fm [420, 421, 422, 423, 424, 62, 425, 426, 427, 428, 429, 431, 432, 63, 433, 434, 435, 64, 436, 437, 438, 439, 440, 441] (by decide +kernel)
set_option maxRecDepth 20000 in
theorem lin11 : ∀ w ∈ wsL_law_r11, w ∈ lw_tbl := mem_fm [442, 443, 444, 445, 446, 447, 449, 451, 453, 455, 5, 456, 120, 457, 459, 6, 460, 461, 463, 7, 464, 466, 468, 8] (by decide +kernel)
set_option maxRecDepth 20000 in
theorem lin12 : ∀ w ∈ wsL_law_r12, w ∈ lw_tbl := mem_fm [469, 470, 471, 472, 473, 475, 477, 9, 478, 126, 479, 481, 10, 482, 488, 489, 490, 491, 493, 495, 11, 496, 129, 132] (by decide +kernel)
set_option maxRecDepth 20000 in
theorem lin13 : ∀ w ∈ wsL_law_r13, w ∈ lw_tbl := mem_fm [498, 500, 12, 501, 136, 502, 503, 504, 505, 117, 142, 123, 150, 200, 202, 891, 892, 893, 894, 809, 812, 805, 806, 802] (by decide +kernel)
set_option maxRecDepth 20000 in
theorem lin14 : ∀ w ∈ wsL_law_r14, w ∈ lw_tbl := mem_fm [803, 804, 801, 818, 895, 897, 26, 898, 899, 901, 27, 902, 810, 903, 905, 28, 906, 907, 908, 811, 909, 911, 29, 912] (by decide +kernel)
set_option maxRecDepth 20000 in
theorem lin15 : ∀ w ∈ wsL_law_r15, w ∈ lw_tbl := mem_fm [913, 915, 30, 916, 917, 919, 31, 920, 921, 923, 32, 924, 925, 926, 927, 928, 930, 33, 931, 506, 507, 508, 509, 86] (by decide +kernel)
set_option maxRecDepth 20000 in
theorem lin16 : ∀ w ∈ wsL_law_r16, w ∈ lw_tbl := mem_fm [932, 933, 934, 935, 510, 511, 512, 513, 125, 203, 201, 128, 131, 135, 193, 185, 189, 517, 514, 515, 516, 936, 937, 938] (by decide +kernel)
set_option maxRecDepth 20000 in
theorem lin17 : ∀ w ∈ wsL_law_r17, w ∈ lw_tbl := mem_fm [939, 944, 940, 942, 34, 943, 518, 519, 520, 521, 526, 138, 140, 522, 523, 524, 525, 527, 528, 529, 530, 945, 946, 947] (by decide +kernel)
set_option maxRecDepth 20000 in
theorem lin18 : ∀ w ∈ wsL_law_r18, w ∈ lw_tbl := mem_fm [948, 953, 949, 951, 35, 952, 954, 956, 36, 957, 531, 532, 533, 534, 144, 148, 191, 195, 197, 535, 536, 537, 538, 958] (by decide +kernel)
set_option maxRecDepth 20000 in
theorem lin19 : ∀ w ∈ wsL_law_r19, w ∈ lw_tbl := mem_fm [959, 960, 961, 962, 964, 37, 965, 539, 540, 541, 542, 199, 543, 544, 545, 966, 967, 968, 969, 546, 547, 548, 549, 550] (by decide +kernel)
set_option maxRecDepth 20000 in
theorem lin20 : ∀ w ∈ wsL_law_r20, w ∈ lw_tbl := mem_fm [970, 971, 972, 973, 974, 551, 552, 553, 554, 555, 556, 557, 558, 134, 147, 559, 560, 562, 13, 563, 564, 565, 566, 567] (by decide +kernel)
set_option maxRecDepth 20000 in
theorem lin21 : ∀ w ∈ wsL_law_r21, w ∈ lw_tbl := mem_fm [571, 572, 65, 573, 574, 575, 576, 568, 569, 570, 577, 579, 14, 580, 582, 583, 584, 585, 586, 588, 15, 589, 590, 591] (by decide +kernel)
set_option maxRecDepth 20000 in
theorem lin22 : ∀ w ∈ wsL_law_r22, w ∈ lw_tbl := mem_fm [593, 16, 594, 595, 596, 597, 598, 975, 976, 977, 978, 979, 980, 982, 38, 983, 984, 986, 39, 987, 988, 990, 40, 991] (by decide +kernel)
set_option maxRecDepth 20000 in
theorem lin23 : ∀ w ∈ wsL_law_r23, w ∈ lw_tbl := mem_fm [992, 993, 994, 995, 996, 997, 999, 41, 1000, 1001, 1002, 1003, 1004, 1005, 1006, 1007, 1009, 42, 1010, 599, 600, 601, 602, 603] (by decide +kernel)
set_option maxRecDepth 20000 in
theorem lin24 : ∀ w ∈ wsL_law_r24, w ∈ lw_tbl := mem_fm [604, 605, 606, 607, 609, 17, 610, 204, 611, 612, 613, 614, 615, 1011, 1012, 1013, 1014, 1015, 1017, 43, 1018, 1019, 1021, 44] (by decide +kernel)
set_option maxRecDepth 20000 in
theorem lin25 : ∀ w ∈ wsL_law_r25, w ∈ lw_tbl := mem_fm [1022, 1023, 1024, 1025, 1026, 616, 617, 618, 619, 620, 621, 1027, 1028, 1029, 1030, 1031, 1032, 622, 623, 624, 625, 1033, 1034, 1035] (by decide +kernel)
set_option maxRecDepth 20000 in
theorem lin26 : ∀ w ∈ wsL_law_r26, w ∈ lw_tbl := mem_fm [1036, 626, 627, 628, 629, 1037, 1038, 1039, 1040, 630, 631, 632, 633, 634, 635, 636, 637, 121, 118, 274, 638, 640, 18, 641] (by decide +kernel)
set_option maxRecDepth 20000 in
theorem lin27 : ∀ w ∈ wsL_law_r27, w ∈ lw_tbl := mem_fm [187, 184, 252, 146, 642, 643, 644, 645, 251, 253, 646, 647, 648, 649, 653, 650, 651, 652, 654, 655, 656, 657, 659, 19] (by decide +kernel)
set_option maxRecDepth 20000 in
theorem lin28 : ∀ w ∈ wsL_law_r28, w ∈ lw_tbl := mem_fm [660, 668, 661, 663, 20, 664, 275, 665, 667, 666, 66, 669, 670, 671, 672, 674, 1041, 1042, 1043, 1044, 1045, 1046, 1048, 45] (by decide +kernel)
set_option maxRecDepth 20000 in
theorem lin29 : ∀ w ∈ wsL_law_r29, w ∈ lw_tbl := mem_fm [1049, 1050, 1051, 1052, 1053, 1055, 46, 1056, 1057, 1059, 47, 1060, 1061, 1063, 48, 1064, 675, 676, 677, 678, 679, 680, 67, 681] (by decide +kernel)
set_option maxRecDepth 20000 in
theorem lin30 : ∀ w ∈ wsL_law_r30, w ∈ lw_tbl := mem_fm [682, 683, 684, 685, 686, 687, 688, 303, 304, 182, 689, 691, 21, 692, 124, 693, 695, 22, 696, 305, 697, 698, 700, 23] (by decide +kernel)
set_option maxRecDepth 20000 in
theorem lin31 : ∀ w ∈ wsL_law_r31, w ∈ lw_tbl := mem_fm [701, 188, 703, 254, 702, 704, 705, 706, 707, 708, 709, 711, 1065, 1066, 1067, 1068, 1069, 1070, 1072, 49, 1073, 1074, 1076, 50] (by decide +kernel)
set_option maxRecDepth 20000 in
theorem lin32 : ∀ w ∈ wsL_law_r32, w ∈ lw_tbl := mem_fm [1077, 712, 713, 714, 715, 716, 718, 24, 719, 721, 720, 1078, 1079, 1080, 1081, 1082, 722, 723, 724, 725, 255, 733, 734, 735] (by decide +kernel)
set_option maxRecDepth 20000 in
theorem lin33 : ∀ w ∈ wsL_law_r33, w ∈ lw_tbl := mem_fm [726, 727, 728, 729, 730, 731, 732, 1083, 1084, 1085, 1086, 736, 737, 738, 739, 740, 741, 742, 743, 744, 1087, 1088, 1089, 1090] (by decide +kernel)
set_option maxRecDepth 20000 in
theorem lin34 : ∀ w ∈ wsL_law_r34, w ∈ lw_tbl := mem_fm [745, 746, 747, 748, 749, 750, 751, 752, 236, 1091, 1092, 1093, 1094, 753, 754, 755, 756, 1095, 1096, 1097, 1098, 757, 758, 759] (by decide +kernel)
set_option maxRecDepth 20000 in
theorem lin35 : ∀ w ∈ wsL_law_r35, w ∈ lw_tbl := mem_fm [760, 761, 762, 763, 764, 183, 765, 766, 1099, 1100, 1101, 1102, 767, 768, 769, 770, 205, 1103, 1104, 1105, 1106, 771, 772, 773] (by decide +kernel)
set_option maxRecDepth 20000 in
theorem lin36 : ∀ w ∈ wsL_law_r36, w ∈ lw_tbl := mem_fm [774, 1107, 1108, 1109, 1110, 775, 776, 777, 778, 1111, 1112, 1113, 1114] (by decide +kernel)
set_option maxRecDepth 20000 in
theorem inX0 : ∀ w ∈ wsX00, w ∈ lw_tbl := mem_fm [238, 240, 242] (by decide +kernel)
set_option maxRecDepth 20000 in
theorem inX1 : ∀ w ∈ wsX10, w ∈ lw_tbl := mem_fm [206, 208, 210, 212, 214, 216, 218, 220, 222, 224] (by decide +kernel)
set_option maxRecDepth 20000 in
theorem inX2 : ∀ w ∈ wsX20, w ∈ lw_tbl := mem_fm [306, 308, 310, 312, 314, 316, 318] (by decide +kernel)
set_option maxRecDepth 20000 in
theorem inX3 : ∀ w ∈ wsX30, w ∈ lw_tbl := mem_fm [276, 278, 280, 282, 284, 286, 288] (by decide +kernel)
set_option maxRecDepth 20000 in
theorem inX4 : ∀ w ∈ wsX40, w ∈ lw_tbl := mem_fm [256, 258] (by decide +kernel)
set_option maxRecDepth 20000 in
theorem inX5 : ∀ w ∈ wsX50, w ∈ lw_tbl := mem_fm [92, 94, 96, 98, 100, 102, 104, 106] (by decide +kernel)
set_option maxRecDepth 20000 in
theorem inX6 : ∀ w ∈ wsX60, w ∈ lw_tbl := mem_fm [151, 153, 155, 157, 159, 161, 163, 165, 167, 169, 171] (by decide +kernel)
set_option maxRecDepth 20000 in
theorem inX7 : ∀ w ∈ wsX70, w ∈ lw_tbl := mem_fm [332, 334, 336, 338, 340, 342, 344, 346, 348, 350, 352] (by decide +kernel)
set_option maxRecDepth 20000 in
theorem inX8 : ∀ w ∈ wsX80, w ∈ lw_tbl := mem_fm [819, 821, 823, 825, 827, 829, 831, 833, 835, 837, 839, 841, 843, 845, 847, 849, 851, 853, 855, 857, 859, 861, 863, 865, 867, 869, 871, 873, 875] (by decide +kernel)
theorem wsL_law_in : ∀ w ∈ wsL_law, w ∈ lw_tbl := (List.forall_mem_append.mpr ⟨(List.forall_mem_append.mpr ⟨(List.forall_mem_append.mpr ⟨(List.forall_mem_append.mpr ⟨(List.forall_mem_append.mpr ⟨(List.forall_mem_append.mpr ⟨(List.forall_mem_append.mpr ⟨(List.forall_mem_append.mpr ⟨(List.forall_mem_append.mpr ⟨(List.forall_mem_append.mpr ⟨(List.forall_mem_append.mpr ⟨lin1, (List.forall_mem_append.mpr ⟨lin2, (List.forall_mem_append.mpr ⟨lin3, (List.forall_mem_append.mpr ⟨lin4, (List.forall_mem_append.mpr ⟨lin5, (List.forall_mem_append.mpr ⟨lin6, (List.forall_mem_append.mpr ⟨lin7, (List.forall_mem_append.mpr ⟨lin8, (List.forall_mem_append.mpr ⟨lin9, (List.forall_mem_append.mpr ⟨lin10, (List.forall_mem_append.mpr ⟨lin11, (List.forall_mem_append.mpr ⟨lin12, (List.forall_mem_append.mpr ⟨lin13, (List.forall_mem_append.mpr ⟨lin14, (List.forall_mem_append.mpr ⟨lin15, (List.forall_mem_append.mpr ⟨lin16, (List.forall_mem_append.mpr ⟨lin17, (List.forall_mem_append.mpr ⟨lin18, (List.forall_mem_append.mpr ⟨lin19, (List.forall_mem_append.mpr ⟨lin20, (List.forall_mem_append.mpr ⟨lin21, (List.forall_mem_append.mpr ⟨lin22, (List.forall_mem_append.mpr ⟨lin23, (List.forall_mem_append.mpr ⟨lin24, (List.forall_mem_append.mpr ⟨lin25, (List.forall_mem_append.mpr ⟨lin26, (List.forall_mem_append.mpr ⟨lin27, (List.forall_mem_append.mpr ⟨lin28, (List.forall_mem_append.mpr ⟨lin29, (List.forall_mem_append.mpr ⟨lin30, (List.forall_mem_append.mpr ⟨lin31, (List.forall_mem_append.mpr ⟨lin32, (List.forall_mem_append.mpr ⟨lin33, (List.forall_mem_append.mpr ⟨lin34, (List.forall_mem_append.mpr ⟨lin35, lin36⟩)⟩)⟩)⟩)⟩)⟩)⟩)⟩)⟩)⟩)⟩)⟩)⟩)⟩)⟩)⟩)⟩)⟩)⟩)⟩)⟩)⟩)⟩)⟩)⟩)⟩)⟩)⟩)⟩)⟩)⟩)⟩)⟩)⟩)⟩), inX7⟩), inX8⟩), inX5⟩), inX6⟩), inX1⟩), inX0⟩), inX4⟩), inX3⟩), inX2⟩), fun _ h => absurd h List.not_mem_nil⟩)
