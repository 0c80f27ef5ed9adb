theorem dX0_init_0 : decode cX0_init 0 = .ok (.aload_n 0, 1) := by decide +kernel
theorem dX0_init_1 : decode cX0_init 1 = .ok (.invokespecial 3, 3) := by decide +kernel
theorem dX0_init_4 : decode cX0_init 4 = .ok (.aload_n 0, 1) := by decide +kernel
theorem dX0_init_5 : decode cX0_init 5 = .ok (.bipush 30, 2) := by decide +kernel
theorem dX0_init_7 : decode cX0_init 7 = .ok (.newarray .int, 2) := by decide +kernel
theorem dX0_init_9 : decode cX0_init 9 = .ok (.putfield 9, 3) := by decide +kernel
theorem dX0_init_12 : decode cX0_init 12 = .ok (.aload_n 0, 1) := by decide +kernel
theorem dX0_init_13 : decode cX0_init 13 = .ok (.bipush 30, 2) := by decide +kernel
theorem dX0_init_15 : decode cX0_init 15 = .ok (.newarray .int, 2) := by decide +kernel
theorem dX0_init_17 : decode cX0_init 17 = .ok (.putfield 15, 3) := by decide +kernel
theorem dX0_init_20 : decode cX0_init 20 = .ok (.return_, 1) := by decide +kernel
theorem dX0_append_0 : decode cX0_append 0 = .ok (.aload_n 0, 1) := by decide +kernel
theorem dX0_append_1 : decode cX0_append 1 = .ok (.getfield 18, 3) := by decide +kernel
theorem dX0_append_4 : decode cX0_append 4 = .ok (.bipush 30, 2) := by decide +kernel
theorem dX0_append_6 : decode cX0_append 6 = .ok (.if_icmp .ge 33, 3) := by decide +kernel
theorem dX0_append_9 : decode cX0_append 9 = .ok (.aload_n 0, 1) := by decide +kernel
theorem dX0_append_10 : decode cX0_append 10 = .ok (.getfield 9, 3) := by decide +kernel
theorem dX0_append_13 : decode cX0_append 13 = .ok (.aload_n 0, 1) := by decide +kernel
theorem dX0_append_14 : decode cX0_append 14 = .ok (.getfield 18, 3) := by decide +kernel
theorem dX0_append_17 : decode cX0_append 17 = .ok (.iload_n 1, 1) := by decide +kernel
theorem dX0_append_18 : decode cX0_append 18 = .ok (.iastore, 1) := by decide +kernel
theorem dX0_append_19 : decode cX0_append 19 = .ok (.aload_n 0, 1) := by decide +kernel
theorem dX0_append_20 : decode cX0_append 20 = .ok (.getfield 15, 3) := by decide +kernel
theorem dX0_append_23 : decode cX0_append 23 = .ok (.aload_n 0, 1) := by decide +kernel
theorem dX0_append_24 : decode cX0_append 24 = .ok (.getfield 18, 3) := by decide +kernel
theorem dX0_append_27 : decode cX0_append 27 = .ok (.iload_n 2, 1) := by decide +kernel
theorem dX0_append_28 : decode cX0_append 28 = .ok (.iastore, 1) := by decide +kernel
theorem dX0_append_29 : decode cX0_append 29 = .ok (.aload_n 0, 1) := by decide +kernel
theorem dX0_append_30 : decode cX0_append 30 = .ok (.dup, 1) := by decide +kernel
theorem dX0_append_31 : decode cX0_append 31 = .ok (.getfield 18, 3) := by decide +kernel
theorem dX0_append_34 : decode cX0_append 34 = .ok (.iconst 1, 1) := by decide +kernel
theorem dX0_append_35 : decode cX0_append 35 = .ok (.iadd, 1) := by decide +kernel
theorem dX0_append_36 : decode cX0_append 36 = .ok (.putfield 18, 3) := by decide +kernel
theorem dX0_append_39 : decode cX0_append 39 = .ok (.return_, 1) := by decide +kernel
set_option maxRecDepth 20000 in
theorem ggX0_firstWrong_X6_hasStone : GoodIn wsX0_firstWrong wsX6_hasStone := goodIn_r _ [9, 10, 90, 91, 92, 93, 94, 95, 96, 97, 98, 99, 100] (by decide +kernel) (by decide +kernel)
set_option maxRecDepth 20000 in
theorem gX0_firstWrong_X6_hasStone : GoodIn wsX0_firstWrong (wsV RX0 22 RX6 yX6_hasStone wsX6_hasStone) := goodIn_app (goodIn_of _ (by decide +kernel)) ggX0_firstWrong_X6_hasStone
set_option maxRecDepth 20000 in
theorem ggX0_firstWrong_X1_passMinute : GoodIn wsX0_firstWrong wsX1_passMinute := goodIn_r _ [15, 16, 17, 18, 19, 20, 21, 22, 23, 24, 6, 7, 8, 9, 10, 25, 26, 27, 14, 28, 29, 30, 31, 32, 33, 34, 35, 36, 37, 38, 39, 40, 41, 42, 43, 44, 45, 46, 47, 48, 49, 50, 51, 52, 53, 54, 55, 56, 57, 58, 59, 60, 61, 62, 63, 64, 65, 66, 67, 68, 69, 70, 71, 72, 73, 74, 75, 76, 90, 91, 92, 93, 94, 95, 96, 97, 98, 99, 100, 80, 81, 82, 83, 84, 85, 86, 87, 88, 89] (by decide +kernel) (by decide +kernel)
set_option maxRecDepth 20000 in
theorem gX0_firstWrong_X1_passMinute : GoodIn wsX0_firstWrong (wsV RX0 31 RX1 yX1_passMinute wsX1_passMinute) := goodIn_app (goodIn_of _ (by decide +kernel)) ggX0_firstWrong_X1_passMinute
theorem dX0_firstWrong_0 : decode cX0_firstWrong 0 = .ok (.iconst 0, 1) := by decide +kernel
theorem dX0_firstWrong_1 : decode cX0_firstWrong 1 = .ok (.istore_n 3, 1) := by decide +kernel
theorem dX0_firstWrong_2 : decode cX0_firstWrong 2 = .ok (.iload_n 3, 1) := by decide +kernel
theorem dX0_firstWrong_3 : decode cX0_firstWrong 3 = .ok (.aload_n 0, 1) := by decide +kernel
theorem dX0_firstWrong_4 : decode cX0_firstWrong 4 = .ok (.getfield 18, 3) := by decide +kernel
theorem dX0_firstWrong_7 : decode cX0_firstWrong 7 = .ok (.if_icmp .ge 50, 3) := by decide +kernel
theorem dX0_firstWrong_10 : decode cX0_firstWrong 10 = .ok (.aload_n 1, 1) := by decide +kernel
theorem dX0_firstWrong_11 : decode cX0_firstWrong 11 = .ok (.aload_n 0, 1) := by decide +kernel
theorem dX0_firstWrong_12 : decode cX0_firstWrong 12 = .ok (.getfield 9, 3) := by decide +kernel
theorem dX0_firstWrong_15 : decode cX0_firstWrong 15 = .ok (.iload_n 3, 1) := by decide +kernel
theorem dX0_firstWrong_16 : decode cX0_firstWrong 16 = .ok (.iaload, 1) := by decide +kernel
theorem dX0_firstWrong_17 : decode cX0_firstWrong 17 = .ok (.invokevirtual 22, 3) := by decide +kernel
theorem dX0_firstWrong_20 : decode cX0_firstWrong 20 = .ok (.ifCond .eq 23, 3) := by decide +kernel
theorem dX0_firstWrong_23 : decode cX0_firstWrong 23 = .ok (.aload_n 2, 1) := by decide +kernel
theorem dX0_firstWrong_24 : decode cX0_firstWrong 24 = .ok (.getfield 28, 3) := by decide +kernel
theorem dX0_firstWrong_27 : decode cX0_firstWrong 27 = .ok (.aload_n 0, 1) := by decide +kernel
theorem dX0_firstWrong_28 : decode cX0_firstWrong 28 = .ok (.getfield 9, 3) := by decide +kernel
theorem dX0_firstWrong_31 : decode cX0_firstWrong 31 = .ok (.iload_n 3, 1) := by decide +kernel
theorem dX0_firstWrong_32 : decode cX0_firstWrong 32 = .ok (.iaload, 1) := by decide +kernel
theorem dX0_firstWrong_33 : decode cX0_firstWrong 33 = .ok (.iaload, 1) := by decide +kernel
theorem dX0_firstWrong_34 : decode cX0_firstWrong 34 = .ok (.aload_n 0, 1) := by decide +kernel
theorem dX0_firstWrong_35 : decode cX0_firstWrong 35 = .ok (.getfield 15, 3) := by decide +kernel
theorem dX0_firstWrong_38 : decode cX0_firstWrong 38 = .ok (.iload_n 3, 1) := by decide +kernel
theorem dX0_firstWrong_39 : decode cX0_firstWrong 39 = .ok (.iaload, 1) := by decide +kernel
theorem dX0_firstWrong_40 : decode cX0_firstWrong 40 = .ok (.if_icmp .eq 5, 3) := by decide +kernel
theorem dX0_firstWrong_43 : decode cX0_firstWrong 43 = .ok (.iload_n 3, 1) := by decide +kernel
theorem dX0_firstWrong_44 : decode cX0_firstWrong 44 = .ok (.ireturn, 1) := by decide +kernel
theorem dX0_firstWrong_45 : decode cX0_firstWrong 45 = .ok (.aload_n 2, 1) := by decide +kernel
theorem dX0_firstWrong_46 : decode cX0_firstWrong 46 = .ok (.aload_n 1, 1) := by decide +kernel
theorem dX0_firstWrong_47 : decode cX0_firstWrong 47 = .ok (.invokevirtual 31, 3) := by decide +kernel
theorem dX0_firstWrong_50 : decode cX0_firstWrong 50 = .ok (.pop, 1) := by decide +kernel
theorem dX0_firstWrong_51 : decode cX0_firstWrong 51 = .ok (.iinc 3 1, 3) := by decide +kernel
theorem dX0_firstWrong_54 : decode cX0_firstWrong 54 = .ok (.goto (-52), 3) := by decide +kernel
theorem dX0_firstWrong_57 : decode cX0_firstWrong 57 = .ok (.iconst (-1), 1) := by decide +kernel
theorem dX0_firstWrong_58 : decode cX0_firstWrong 58 = .ok (.ireturn, 1) := by decide +kernel
theorem dX1_init_0 : decode cX1_init 0 = .ok (.aload_n 0, 1) := by decide +kernel
theorem dX1_init_1 : decode cX1_init 1 = .ok (.invokespecial 3, 3) := by decide +kernel
theorem dX1_init_4 : decode cX1_init 4 = .ok (.aload_n 0, 1) := by decide +kernel
theorem dX1_init_5 : decode cX1_init 5 = .ok (.bipush 9, 2) := by decide +kernel
theorem dX1_init_7 : decode cX1_init 7 = .ok (.newarray .int, 2) := by decide +kernel
theorem dX1_init_9 : decode cX1_init 9 = .ok (.putfield 9, 3) := by decide +kernel
theorem dX1_init_12 : decode cX1_init 12 = .ok (.aload_n 0, 1) := by decide +kernel
theorem dX1_init_13 : decode cX1_init 13 = .ok (.bipush 8, 2) := by decide +kernel
theorem dX1_init_15 : decode cX1_init 15 = .ok (.newarray .int, 2) := by decide +kernel
theorem dX1_init_17 : decode cX1_init 17 = .ok (.putfield 15, 3) := by decide +kernel
theorem dX1_init_20 : decode cX1_init 20 = .ok (.aload_n 0, 1) := by decide +kernel
theorem dX1_init_21 : decode cX1_init 21 = .ok (.bipush 8, 2) := by decide +kernel
theorem dX1_init_23 : decode cX1_init 23 = .ok (.newarray .int, 2) := by decide +kernel
theorem dX1_init_25 : decode cX1_init 25 = .ok (.putfield 18, 3) := by decide +kernel
theorem dX1_init_28 : decode cX1_init 28 = .ok (.aload_n 0, 1) := by decide +kernel
theorem dX1_init_29 : decode cX1_init 29 = .ok (.bipush 8, 2) := by decide +kernel
theorem dX1_init_31 : decode cX1_init 31 = .ok (.newarray .int, 2) := by decide +kernel
theorem dX1_init_33 : decode cX1_init 33 = .ok (.putfield 21, 3) := by decide +kernel
theorem dX1_init_36 : decode cX1_init 36 = .ok (.aload_n 0, 1) := by decide +kernel
theorem dX1_init_37 : decode cX1_init 37 = .ok (.bipush 8, 2) := by decide +kernel
theorem dX1_init_39 : decode cX1_init 39 = .ok (.newarray .int, 2) := by decide +kernel
theorem dX1_init_41 : decode cX1_init 41 = .ok (.putfield 24, 3) := by decide +kernel
theorem dX1_init_44 : decode cX1_init 44 = .ok (.aload_n 0, 1) := by decide +kernel
theorem dX1_init_45 : decode cX1_init 45 = .ok (.bipush 8, 2) := by decide +kernel
theorem dX1_init_47 : decode cX1_init 47 = .ok (.newarray .int, 2) := by decide +kernel
theorem dX1_init_49 : decode cX1_init 49 = .ok (.putfield 27, 3) := by decide +kernel
theorem dX1_init_52 : decode cX1_init 52 = .ok (.aload_n 0, 1) := by decide +kernel
theorem dX1_init_53 : decode cX1_init 53 = .ok (.bipush 72, 2) := by decide +kernel
theorem dX1_init_55 : decode cX1_init 55 = .ok (.newarray .int, 2) := by decide +kernel
theorem dX1_init_57 : decode cX1_init 57 = .ok (.putfield 30, 3) := by decide +kernel
theorem dX1_init_60 : decode cX1_init 60 = .ok (.return_, 1) := by decide +kernel
theorem dX1_begin_0 : decode cX1_begin 0 = .ok (.iconst 0, 1) := by decide +kernel
theorem dX1_begin_1 : decode cX1_begin 1 = .ok (.istore_n 2, 1) := by decide +kernel
theorem dX1_begin_2 : decode cX1_begin 2 = .ok (.iload_n 2, 1) := by decide +kernel
theorem dX1_begin_3 : decode cX1_begin 3 = .ok (.bipush 9, 2) := by decide +kernel
theorem dX1_begin_5 : decode cX1_begin 5 = .ok (.if_icmp .ge 33, 3) := by decide +kernel
theorem dX1_begin_8 : decode cX1_begin 8 = .ok (.aload_n 0, 1) := by decide +kernel
theorem dX1_begin_9 : decode cX1_begin 9 = .ok (.getfield 9, 3) := by decide +kernel
theorem dX1_begin_12 : decode cX1_begin 12 = .ok (.iload_n 2, 1) := by decide +kernel
theorem dX1_begin_13 : decode cX1_begin 13 = .ok (.iload_n 2, 1) := by decide +kernel
theorem dX1_begin_14 : decode cX1_begin 14 = .ok (.aload_n 1, 1) := by decide +kernel
theorem dX1_begin_15 : decode cX1_begin 15 = .ok (.getfield 33, 3) := by decide +kernel
theorem dX1_begin_18 : decode cX1_begin 18 = .ok (.if_icmp .ge 12, 3) := by decide +kernel
theorem dX1_begin_21 : decode cX1_begin 21 = .ok (.aload_n 1, 1) := by decide +kernel
theorem dX1_begin_22 : decode cX1_begin 22 = .ok (.getfield 39, 3) := by decide +kernel
theorem dX1_begin_25 : decode cX1_begin 25 = .ok (.iload_n 2, 1) := by decide +kernel
theorem dX1_begin_26 : decode cX1_begin 26 = .ok (.iaload, 1) := by decide +kernel
theorem dX1_begin_27 : decode cX1_begin 27 = .ok (.goto 4, 3) := by decide +kernel
theorem dX1_begin_30 : decode cX1_begin 30 = .ok (.iconst 0, 1) := by decide +kernel
theorem dX1_begin_31 : decode cX1_begin 31 = .ok (.iastore, 1) := by decide +kernel
theorem dX1_begin_32 : decode cX1_begin 32 = .ok (.iinc 2 1, 3) := by decide +kernel
theorem dX1_begin_35 : decode cX1_begin 35 = .ok (.goto (-33), 3) := by decide +kernel
theorem dX1_begin_38 : decode cX1_begin 38 = .ok (.iconst 0, 1) := by decide +kernel
theorem dX1_begin_39 : decode cX1_begin 39 = .ok (.istore_n 2, 1) := by decide +kernel
theorem dX1_begin_40 : decode cX1_begin 40 = .ok (.iload_n 2, 1) := by decide +kernel
theorem dX1_begin_41 : decode cX1_begin 41 = .ok (.bipush 8, 2) := by decide +kernel
theorem dX1_begin_43 : decode cX1_begin 43 = .ok (.if_icmp .ge 61, 3) := by decide +kernel
theorem dX1_begin_46 : decode cX1_begin 46 = .ok (.aload_n 0, 1) := by decide +kernel
theorem dX1_begin_47 : decode cX1_begin 47 = .ok (.getfield 15, 3) := by decide +kernel
theorem dX1_begin_50 : decode cX1_begin 50 = .ok (.iload_n 2, 1) := by decide +kernel
theorem dX1_begin_51 : decode cX1_begin 51 = .ok (.iload_n 2, 1) := by decide +kernel
theorem dX1_begin_52 : decode cX1_begin 52 = .ok (.aload_n 1, 1) := by decide +kernel
theorem dX1_begin_53 : decode cX1_begin 53 = .ok (.getfield 42, 3) := by decide +kernel
theorem dX1_begin_56 : decode cX1_begin 56 = .ok (.if_icmp .ge 12, 3) := by decide +kernel
theorem dX1_begin_59 : decode cX1_begin 59 = .ok (.aload_n 1, 1) := by decide +kernel
theorem dX1_begin_60 : decode cX1_begin 60 = .ok (.getfield 45, 3) := by decide +kernel
theorem dX1_begin_63 : decode cX1_begin 63 = .ok (.iload_n 2, 1) := by decide +kernel
theorem dX1_begin_64 : decode cX1_begin 64 = .ok (.iaload, 1) := by decide +kernel
theorem dX1_begin_65 : decode cX1_begin 65 = .ok (.goto 4, 3) := by decide +kernel
theorem dX1_begin_68 : decode cX1_begin 68 = .ok (.iconst 0, 1) := by decide +kernel
theorem dX1_begin_69 : decode cX1_begin 69 = .ok (.iastore, 1) := by decide +kernel
theorem dX1_begin_70 : decode cX1_begin 70 = .ok (.aload_n 0, 1) := by decide +kernel
theorem dX1_begin_71 : decode cX1_begin 71 = .ok (.getfield 18, 3) := by decide +kernel
theorem dX1_begin_74 : decode cX1_begin 74 = .ok (.iload_n 2, 1) := by decide +kernel
theorem dX1_begin_75 : decode cX1_begin 75 = .ok (.iconst (-1), 1) := by decide +kernel
theorem dX1_begin_76 : decode cX1_begin 76 = .ok (.iastore, 1) := by decide +kernel
theorem dX1_begin_77 : decode cX1_begin 77 = .ok (.aload_n 0, 1) := by decide +kernel
theorem dX1_begin_78 : decode cX1_begin 78 = .ok (.getfield 21, 3) := by decide +kernel
theorem dX1_begin_81 : decode cX1_begin 81 = .ok (.iload_n 2, 1) := by decide +kernel
theorem dX1_begin_82 : decode cX1_begin 82 = .ok (.iconst 0, 1) := by decide +kernel
theorem dX1_begin_83 : decode cX1_begin 83 = .ok (.iastore, 1) := by decide +kernel
theorem dX1_begin_84 : decode cX1_begin 84 = .ok (.aload_n 0, 1) := by decide +kernel
theorem dX1_begin_85 : decode cX1_begin 85 = .ok (.getfield 24, 3) := by decide +kernel
theorem dX1_begin_88 : decode cX1_begin 88 = .ok (.iload_n 2, 1) := by decide +kernel
theorem dX1_begin_89 : decode cX1_begin 89 = .ok (.iconst 0, 1) := by decide +kernel
theorem dX1_begin_90 : decode cX1_begin 90 = .ok (.iastore, 1) := by decide +kernel
theorem dX1_begin_91 : decode cX1_begin 91 = .ok (.aload_n 0, 1) := by decide +kernel
theorem dX1_begin_92 : decode cX1_begin 92 = .ok (.getfield 27, 3) := by decide +kernel
theorem dX1_begin_95 : decode cX1_begin 95 = .ok (.iload_n 2, 1) := by decide +kernel
theorem dX1_begin_96 : decode cX1_begin 96 = .ok (.iconst 0, 1) := by decide +kernel
theorem dX1_begin_97 : decode cX1_begin 97 = .ok (.iastore, 1) := by decide +kernel
theorem dX1_begin_98 : decode cX1_begin 98 = .ok (.iinc 2 1, 3) := by decide +kernel
theorem dX1_begin_101 : decode cX1_begin 101 = .ok (.goto (-61), 3) := by decide +kernel
theorem dX1_begin_104 : decode cX1_begin 104 = .ok (.iconst 0, 1) := by decide +kernel
theorem dX1_begin_105 : decode cX1_begin 105 = .ok (.istore_n 2, 1) := by decide +kernel
theorem dX1_begin_106 : decode cX1_begin 106 = .ok (.iload_n 2, 1) := by decide +kernel
theorem dX1_begin_107 : decode cX1_begin 107 = .ok (.aload_n 0, 1) := by decide +kernel
theorem dX1_begin_108 : decode cX1_begin 108 = .ok (.getfield 30, 3) := by decide +kernel
theorem dX1_begin_111 : decode cX1_begin 111 = .ok (.arraylength, 1) := by decide +kernel
theorem dX1_begin_112 : decode cX1_begin 112 = .ok (.if_icmp .ge 16, 3) := by decide +kernel
theorem dX1_begin_115 : decode cX1_begin 115 = .ok (.aload_n 0, 1) := by decide +kernel
theorem dX1_begin_116 : decode cX1_begin 116 = .ok (.getfield 30, 3) := by decide +kernel
theorem dX1_begin_119 : decode cX1_begin 119 = .ok (.iload_n 2, 1) := by decide +kernel
theorem dX1_begin_120 : decode cX1_begin 120 = .ok (.iconst 0, 1) := by decide +kernel
theorem dX1_begin_121 : decode cX1_begin 121 = .ok (.iastore, 1) := by decide +kernel
theorem dX1_begin_122 : decode cX1_begin 122 = .ok (.iinc 2 1, 3) := by decide +kernel
theorem dX1_begin_125 : decode cX1_begin 125 = .ok (.goto (-19), 3) := by decide +kernel
theorem dX1_begin_128 : decode cX1_begin 128 = .ok (.aload_n 0, 1) := by decide +kernel
theorem dX1_begin_129 : decode cX1_begin 129 = .ok (.iconst 0, 1) := by decide +kernel
theorem dX1_begin_130 : decode cX1_begin 130 = .ok (.putfield 48, 3) := by decide +kernel
theorem dX1_begin_133 : decode cX1_begin 133 = .ok (.aload_n 0, 1) := by decide +kernel
theorem dX1_begin_134 : decode cX1_begin 134 = .ok (.iconst 0, 1) := by decide +kernel
theorem dX1_begin_135 : decode cX1_begin 135 = .ok (.putfield 51, 3) := by decide +kernel
theorem dX1_begin_138 : decode cX1_begin 138 = .ok (.return_, 1) := by decide +kernel
theorem dX1_copyFrom_0 : decode cX1_copyFrom 0 = .ok (.aload_n 1, 1) := by decide +kernel
theorem dX1_copyFrom_1 : decode cX1_copyFrom 1 = .ok (.getfield 9, 3) := by decide +kernel
theorem dX1_copyFrom_4 : decode cX1_copyFrom 4 = .ok (.iconst 0, 1) := by decide +kernel
theorem dX1_copyFrom_5 : decode cX1_copyFrom 5 = .ok (.aload_n 0, 1) := by decide +kernel
theorem dX1_copyFrom_6 : decode cX1_copyFrom 6 = .ok (.getfield 9, 3) := by decide +kernel
theorem dX1_copyFrom_9 : decode cX1_copyFrom 9 = .ok (.iconst 0, 1) := by decide +kernel
theorem dX1_copyFrom_10 : decode cX1_copyFrom 10 = .ok (.bipush 9, 2) := by decide +kernel
theorem dX1_copyFrom_12 : decode cX1_copyFrom 12 = .ok (.invokestatic 54, 3) := by decide +kernel
theorem dX1_copyFrom_15 : decode cX1_copyFrom 15 = .ok (.aload_n 1, 1) := by decide +kernel
theorem dX1_copyFrom_16 : decode cX1_copyFrom 16 = .ok (.getfield 15, 3) := by decide +kernel
theorem dX1_copyFrom_19 : decode cX1_copyFrom 19 = .ok (.iconst 0, 1) := by decide +kernel
theorem dX1_copyFrom_20 : decode cX1_copyFrom 20 = .ok (.aload_n 0, 1) := by decide +kernel
theorem dX1_copyFrom_21 : decode cX1_copyFrom 21 = .ok (.getfield 15, 3) := by decide +kernel
theorem dX1_copyFrom_24 : decode cX1_copyFrom 24 = .ok (.iconst 0, 1) := by decide +kernel
theorem dX1_copyFrom_25 : decode cX1_copyFrom 25 = .ok (.bipush 8, 2) := by decide +kernel
theorem dX1_copyFrom_27 : decode cX1_copyFrom 27 = .ok (.invokestatic 54, 3) := by decide +kernel
theorem dX1_copyFrom_30 : decode cX1_copyFrom 30 = .ok (.aload_n 1, 1) := by decide +kernel
theorem dX1_copyFrom_31 : decode cX1_copyFrom 31 = .ok (.getfield 18, 3) := by decide +kernel
theorem dX1_copyFrom_34 : decode cX1_copyFrom 34 = .ok (.iconst 0, 1) := by decide +kernel
theorem dX1_copyFrom_35 : decode cX1_copyFrom 35 = .ok (.aload_n 0, 1) := by decide +kernel
theorem dX1_copyFrom_36 : decode cX1_copyFrom 36 = .ok (.getfield 18, 3) := by decide +kernel
theorem dX1_copyFrom_39 : decode cX1_copyFrom 39 = .ok (.iconst 0, 1) := by decide +kernel
theorem dX1_copyFrom_40 : decode cX1_copyFrom 40 = .ok (.bipush 8, 2) := by decide +kernel
theorem dX1_copyFrom_42 : decode cX1_copyFrom 42 = .ok (.invokestatic 54, 3) := by decide +kernel
theorem dX1_copyFrom_45 : decode cX1_copyFrom 45 = .ok (.aload_n 1, 1) := by decide +kernel
theorem dX1_copyFrom_46 : decode cX1_copyFrom 46 = .ok (.getfield 21, 3) := by decide +kernel
theorem dX1_copyFrom_49 : decode cX1_copyFrom 49 = .ok (.iconst 0, 1) := by decide +kernel
theorem dX1_copyFrom_50 : decode cX1_copyFrom 50 = .ok (.aload_n 0, 1) := by decide +kernel
theorem dX1_copyFrom_51 : decode cX1_copyFrom 51 = .ok (.getfield 21, 3) := by decide +kernel
theorem dX1_copyFrom_54 : decode cX1_copyFrom 54 = .ok (.iconst 0, 1) := by decide +kernel
theorem dX1_copyFrom_55 : decode cX1_copyFrom 55 = .ok (.bipush 8, 2) := by decide +kernel
theorem dX1_copyFrom_57 : decode cX1_copyFrom 57 = .ok (.invokestatic 54, 3) := by decide +kernel
theorem dX1_copyFrom_60 : decode cX1_copyFrom 60 = .ok (.aload_n 1, 1) := by decide +kernel
theorem dX1_copyFrom_61 : decode cX1_copyFrom 61 = .ok (.getfield 24, 3) := by decide +kernel
theorem dX1_copyFrom_64 : decode cX1_copyFrom 64 = .ok (.iconst 0, 1) := by decide +kernel
theorem dX1_copyFrom_65 : decode cX1_copyFrom 65 = .ok (.aload_n 0, 1) := by decide +kernel
theorem dX1_copyFrom_66 : decode cX1_copyFrom 66 = .ok (.getfield 24, 3) := by decide +kernel
theorem dX1_copyFrom_69 : decode cX1_copyFrom 69 = .ok (.iconst 0, 1) := by decide +kernel
theorem dX1_copyFrom_70 : decode cX1_copyFrom 70 = .ok (.bipush 8, 2) := by decide +kernel
theorem dX1_copyFrom_72 : decode cX1_copyFrom 72 = .ok (.invokestatic 54, 3) := by decide +kernel
theorem dX1_copyFrom_75 : decode cX1_copyFrom 75 = .ok (.aload_n 1, 1) := by decide +kernel
theorem dX1_copyFrom_76 : decode cX1_copyFrom 76 = .ok (.getfield 27, 3) := by decide +kernel
theorem dX1_copyFrom_79 : decode cX1_copyFrom 79 = .ok (.iconst 0, 1) := by decide +kernel
theorem dX1_copyFrom_80 : decode cX1_copyFrom 80 = .ok (.aload_n 0, 1) := by decide +kernel
theorem dX1_copyFrom_81 : decode cX1_copyFrom 81 = .ok (.getfield 27, 3) := by decide +kernel
theorem dX1_copyFrom_84 : decode cX1_copyFrom 84 = .ok (.iconst 0, 1) := by decide +kernel
theorem dX1_copyFrom_85 : decode cX1_copyFrom 85 = .ok (.bipush 8, 2) := by decide +kernel
theorem dX1_copyFrom_87 : decode cX1_copyFrom 87 = .ok (.invokestatic 54, 3) := by decide +kernel
theorem dX1_copyFrom_90 : decode cX1_copyFrom 90 = .ok (.aload_n 1, 1) := by decide +kernel
theorem dX1_copyFrom_91 : decode cX1_copyFrom 91 = .ok (.getfield 30, 3) := by decide +kernel
theorem dX1_copyFrom_94 : decode cX1_copyFrom 94 = .ok (.iconst 0, 1) := by decide +kernel
theorem dX1_copyFrom_95 : decode cX1_copyFrom 95 = .ok (.aload_n 0, 1) := by decide +kernel
theorem dX1_copyFrom_96 : decode cX1_copyFrom 96 = .ok (.getfield 30, 3) := by decide +kernel
theorem dX1_copyFrom_99 : decode cX1_copyFrom 99 = .ok (.iconst 0, 1) := by decide +kernel
theorem dX1_copyFrom_100 : decode cX1_copyFrom 100 = .ok (.bipush 72, 2) := by decide +kernel
theorem dX1_copyFrom_102 : decode cX1_copyFrom 102 = .ok (.invokestatic 54, 3) := by decide +kernel
theorem dX1_copyFrom_105 : decode cX1_copyFrom 105 = .ok (.aload_n 0, 1) := by decide +kernel
theorem dX1_copyFrom_106 : decode cX1_copyFrom 106 = .ok (.aload_n 1, 1) := by decide +kernel
theorem dX1_copyFrom_107 : decode cX1_copyFrom 107 = .ok (.getfield 48, 3) := by decide +kernel
theorem dX1_copyFrom_110 : decode cX1_copyFrom 110 = .ok (.putfield 48, 3) := by decide +kernel
theorem dX1_copyFrom_113 : decode cX1_copyFrom 113 = .ok (.aload_n 0, 1) := by decide +kernel
theorem dX1_copyFrom_114 : decode cX1_copyFrom 114 = .ok (.aload_n 1, 1) := by decide +kernel
theorem dX1_copyFrom_115 : decode cX1_copyFrom 115 = .ok (.getfield 51, 3) := by decide +kernel
theorem dX1_copyFrom_118 : decode cX1_copyFrom 118 = .ok (.putfield 51, 3) := by decide +kernel
theorem dX1_copyFrom_121 : decode cX1_copyFrom 121 = .ok (.aload_n 0, 1) := by decide +kernel
theorem dX1_copyFrom_122 : decode cX1_copyFrom 122 = .ok (.aload_n 1, 1) := by decide +kernel
theorem dX1_copyFrom_123 : decode cX1_copyFrom 123 = .ok (.getfield 60, 3) := by decide +kernel
theorem dX1_copyFrom_126 : decode cX1_copyFrom 126 = .ok (.putfield 60, 3) := by decide +kernel
theorem dX1_copyFrom_129 : decode cX1_copyFrom 129 = .ok (.return_, 1) := by decide +kernel
theorem dX1_sitterOn_0 : decode cX1_sitterOn 0 = .ok (.iconst 0, 1) := by decide +kernel
theorem dX1_sitterOn_1 : decode cX1_sitterOn 1 = .ok (.istore_n 2, 1) := by decide +kernel
theorem dX1_sitterOn_2 : decode cX1_sitterOn 2 = .ok (.iload_n 2, 1) := by decide +kernel
theorem dX1_sitterOn_3 : decode cX1_sitterOn 3 = .ok (.bipush 8, 2) := by decide +kernel
theorem dX1_sitterOn_5 : decode cX1_sitterOn 5 = .ok (.if_icmp .ge 21, 3) := by decide +kernel
theorem dX1_sitterOn_8 : decode cX1_sitterOn 8 = .ok (.aload_n 0, 1) := by decide +kernel
theorem dX1_sitterOn_9 : decode cX1_sitterOn 9 = .ok (.getfield 18, 3) := by decide +kernel
theorem dX1_sitterOn_12 : decode cX1_sitterOn 12 = .ok (.iload_n 2, 1) := by decide +kernel
theorem dX1_sitterOn_13 : decode cX1_sitterOn 13 = .ok (.iaload, 1) := by decide +kernel
theorem dX1_sitterOn_14 : decode cX1_sitterOn 14 = .ok (.iload_n 1, 1) := by decide +kernel
theorem dX1_sitterOn_15 : decode cX1_sitterOn 15 = .ok (.if_icmp .ne 5, 3) := by decide +kernel
theorem dX1_sitterOn_18 : decode cX1_sitterOn 18 = .ok (.iload_n 2, 1) := by decide +kernel
theorem dX1_sitterOn_19 : decode cX1_sitterOn 19 = .ok (.ireturn, 1) := by decide +kernel
theorem dX1_sitterOn_20 : decode cX1_sitterOn 20 = .ok (.iinc 2 1, 3) := by decide +kernel
theorem dX1_sitterOn_23 : decode cX1_sitterOn 23 = .ok (.goto (-21), 3) := by decide +kernel
theorem dX1_sitterOn_26 : decode cX1_sitterOn 26 = .ok (.iconst (-1), 1) := by decide +kernel
theorem dX1_sitterOn_27 : decode cX1_sitterOn 27 = .ok (.ireturn, 1) := by decide +kernel
set_option maxRecDepth 20000 in
theorem ggX1_passMinute_X6_hasStone : GoodIn wsX1_passMinute wsX6_hasStone := goodIn_r _ [13, 14, 68, 69, 70, 71, 72, 73, 74, 75, 76, 77, 78] (by decide +kernel) (by decide +kernel)
set_option maxRecDepth 20000 in
theorem gX1_passMinute_X6_hasStone : GoodIn wsX1_passMinute (wsV RX1 63 RX6 yX6_hasStone wsX6_hasStone) := goodIn_app (goodIn_of _ (by decide +kernel)) ggX1_passMinute_X6_hasStone
set_option maxRecDepth 20000 in
theorem ggX1_passMinute_X1_shareHeat : GoodIn wsX1_passMinute wsX1_shareHeat := goodIn_r _ [19, 5, 20, 21, 22, 23, 12, 24, 25, 26, 27, 28, 29, 30, 31, 32, 33, 34, 35, 36, 79, 80, 81, 82, 83, 84, 85, 86, 87, 88, 68, 69, 70, 71, 72, 73, 74, 75, 76, 77, 78] (by decide +kernel) (by decide +kernel)
set_option maxRecDepth 20000 in
theorem gX1_passMinute_X1_shareHeat : GoodIn wsX1_passMinute (wsV RX1 67 RX1 yX1_shareHeat wsX1_shareHeat) := goodIn_app (goodIn_of _ (by decide +kernel)) ggX1_passMinute_X1_shareHeat
set_option maxRecDepth 20000 in
theorem ggX1_passMinute_X1_useMinute : GoodIn wsX1_passMinute wsX1_useMinute := goodIn_r _ [40, 41, 42, 43, 44, 45, 79, 80, 81, 82, 83, 84, 85, 86, 87, 88] (by decide +kernel) (by decide +kernel)
set_option maxRecDepth 20000 in
theorem gX1_passMinute_X1_useMinute : GoodIn wsX1_passMinute (wsV RX1 71 RX1 yX1_useMinute wsX1_useMinute) := goodIn_app (goodIn_of _ (by decide +kernel)) ggX1_passMinute_X1_useMinute
set_option maxRecDepth 20000 in
theorem ggX1_passMinute_X6_frostOn : GoodIn wsX1_passMinute wsX6_frostOn := goodIn_r _ [49, 25, 50, 51, 68, 69, 70, 71, 72, 73, 74, 75, 76, 77, 78] (by decide +kernel) (by decide +kernel)
set_option maxRecDepth 20000 in
theorem gX1_passMinute_X6_frostOn : GoodIn wsX1_passMinute (wsV RX1 78 RX6 yX6_frostOn wsX6_frostOn) := goodIn_app (goodIn_of _ (by decide +kernel)) ggX1_passMinute_X6_frostOn
set_option maxRecDepth 20000 in
theorem ggX1_passMinute_X1_freeze : GoodIn wsX1_passMinute wsX1_freeze := goodIn_r _ [55, 5, 56, 27, 28, 29, 57, 79, 80, 81, 82, 83, 84, 85, 86, 87, 88] (by decide +kernel) (by decide +kernel)
set_option maxRecDepth 20000 in
theorem gX1_passMinute_X1_freeze : GoodIn wsX1_passMinute (wsV RX1 82 RX1 yX1_freeze wsX1_freeze) := goodIn_app (goodIn_of _ (by decide +kernel)) ggX1_passMinute_X1_freeze
set_option maxRecDepth 20000 in
theorem ggX1_passMinute_X1_coolEmptyStones : GoodIn wsX1_passMinute wsX1_coolEmptyStones := goodIn_r _ [61, 62, 20, 57, 63, 64, 65, 12, 66, 67, 30, 31, 28, 32, 68, 69, 70, 71, 72, 73, 74, 75, 76, 77, 78, 79, 80, 81, 82, 83, 84, 85, 86, 87, 88] (by decide +kernel) (by decide +kernel)
set_option maxRecDepth 20000 in
theorem gX1_passMinute_X1_coolEmptyStones : GoodIn wsX1_passMinute (wsV RX1 88 RX1 yX1_coolEmptyStones wsX1_coolEmptyStones) := goodIn_app (goodIn_of _ (by decide +kernel)) ggX1_passMinute_X1_coolEmptyStones
theorem dX1_passMinute_0 : decode cX1_passMinute 0 = .ok (.iconst 0, 1) := by decide +kernel
theorem dX1_passMinute_1 : decode cX1_passMinute 1 = .ok (.istore_n 2, 1) := by decide +kernel
theorem dX1_passMinute_2 : decode cX1_passMinute 2 = .ok (.iconst 0, 1) := by decide +kernel
theorem dX1_passMinute_3 : decode cX1_passMinute 3 = .ok (.istore_n 3, 1) := by decide +kernel
theorem dX1_passMinute_4 : decode cX1_passMinute 4 = .ok (.iconst 0, 1) := by decide +kernel
theorem dX1_passMinute_5 : decode cX1_passMinute 5 = .ok (.istore 4, 2) := by decide +kernel
theorem dX1_passMinute_7 : decode cX1_passMinute 7 = .ok (.iload 4, 2) := by decide +kernel
theorem dX1_passMinute_9 : decode cX1_passMinute 9 = .ok (.aload_n 1, 1) := by decide +kernel
theorem dX1_passMinute_10 : decode cX1_passMinute 10 = .ok (.getfield 42, 3) := by decide +kernel
theorem dX1_passMinute_13 : decode cX1_passMinute 13 = .ok (.if_icmp .ge 121, 3) := by decide +kernel
theorem dX1_passMinute_16 : decode cX1_passMinute 16 = .ok (.aload_n 0, 1) := by decide +kernel
theorem dX1_passMinute_17 : decode cX1_passMinute 17 = .ok (.getfield 18, 3) := by decide +kernel
theorem dX1_passMinute_20 : decode cX1_passMinute 20 = .ok (.iload 4, 2) := by decide +kernel
theorem dX1_passMinute_22 : decode cX1_passMinute 22 = .ok (.iaload, 1) := by decide +kernel
theorem dX1_passMinute_23 : decode cX1_passMinute 23 = .ok (.istore 5, 2) := by decide +kernel
theorem dX1_passMinute_25 : decode cX1_passMinute 25 = .ok (.aload_n 1, 1) := by decide +kernel
theorem dX1_passMinute_26 : decode cX1_passMinute 26 = .ok (.iload 5, 2) := by decide +kernel
theorem dX1_passMinute_28 : decode cX1_passMinute 28 = .ok (.invokevirtual 63, 3) := by decide +kernel
theorem dX1_passMinute_31 : decode cX1_passMinute 31 = .ok (.istore 6, 2) := by decide +kernel
theorem dX1_passMinute_33 : decode cX1_passMinute 33 = .ok (.iload 6, 2) := by decide +kernel
theorem dX1_passMinute_35 : decode cX1_passMinute 35 = .ok (.ifCond .eq 30, 3) := by decide +kernel
theorem dX1_passMinute_38 : decode cX1_passMinute 38 = .ok (.aload_n 0, 1) := by decide +kernel
theorem dX1_passMinute_39 : decode cX1_passMinute 39 = .ok (.aload_n 1, 1) := by decide +kernel
theorem dX1_passMinute_40 : decode cX1_passMinute 40 = .ok (.iload 4, 2) := by decide +kernel
theorem dX1_passMinute_42 : decode cX1_passMinute 42 = .ok (.iload 5, 2) := by decide +kernel
theorem dX1_passMinute_44 : decode cX1_passMinute 44 = .ok (.invokevirtual 67, 3) := by decide +kernel
theorem dX1_passMinute_47 : decode cX1_passMinute 47 = .ok (.aload_n 0, 1) := by decide +kernel
theorem dX1_passMinute_48 : decode cX1_passMinute 48 = .ok (.iload 4, 2) := by decide +kernel
theorem dX1_passMinute_50 : decode cX1_passMinute 50 = .ok (.iload 5, 2) := by decide +kernel
theorem dX1_passMinute_52 : decode cX1_passMinute 52 = .ok (.invokevirtual 71, 3) := by decide +kernel
theorem dX1_passMinute_55 : decode cX1_passMinute 55 = .ok (.iload_n 3, 1) := by decide +kernel
theorem dX1_passMinute_56 : decode cX1_passMinute 56 = .ok (.iconst 1, 1) := by decide +kernel
theorem dX1_passMinute_57 : decode cX1_passMinute 57 = .ok (.iload 5, 2) := by decide +kernel
theorem dX1_passMinute_59 : decode cX1_passMinute 59 = .ok (.ishl, 1) := by decide +kernel
theorem dX1_passMinute_60 : decode cX1_passMinute 60 = .ok (.ior, 1) := by decide +kernel
theorem dX1_passMinute_61 : decode cX1_passMinute 61 = .ok (.istore_n 3, 1) := by decide +kernel
theorem dX1_passMinute_62 : decode cX1_passMinute 62 = .ok (.goto 17, 3) := by decide +kernel
theorem dX1_passMinute_65 : decode cX1_passMinute 65 = .ok (.aload_n 0, 1) := by decide +kernel
theorem dX1_passMinute_66 : decode cX1_passMinute 66 = .ok (.getfield 27, 3) := by decide +kernel
theorem dX1_passMinute_69 : decode cX1_passMinute 69 = .ok (.iload 4, 2) := by decide +kernel
theorem dX1_passMinute_71 : decode cX1_passMinute 71 = .ok (.dup2, 1) := by decide +kernel
theorem dX1_passMinute_72 : decode cX1_passMinute 72 = .ok (.iaload, 1) := by decide +kernel
theorem dX1_passMinute_73 : decode cX1_passMinute 73 = .ok (.aload_n 1, 1) := by decide +kernel
theorem dX1_passMinute_74 : decode cX1_passMinute 74 = .ok (.getfield 75, 3) := by decide +kernel
theorem dX1_passMinute_77 : decode cX1_passMinute 77 = .ok (.iadd, 1) := by decide +kernel
theorem dX1_passMinute_78 : decode cX1_passMinute 78 = .ok (.iastore, 1) := by decide +kernel
theorem dX1_passMinute_79 : decode cX1_passMinute 79 = .ok (.aload_n 0, 1) := by decide +kernel
theorem dX1_passMinute_80 : decode cX1_passMinute 80 = .ok (.iload 4, 2) := by decide +kernel
theorem dX1_passMinute_82 : decode cX1_passMinute 82 = .ok (.aload_n 1, 1) := by decide +kernel
theorem dX1_passMinute_83 : decode cX1_passMinute 83 = .ok (.iload 4, 2) := by decide +kernel
theorem dX1_passMinute_85 : decode cX1_passMinute 85 = .ok (.iload 6, 2) := by decide +kernel
theorem dX1_passMinute_87 : decode cX1_passMinute 87 = .ok (.invokevirtual 78, 3) := by decide +kernel
theorem dX1_passMinute_90 : decode cX1_passMinute 90 = .ok (.invokevirtual 82, 3) := by decide +kernel
theorem dX1_passMinute_93 : decode cX1_passMinute 93 = .ok (.aload_n 0, 1) := by decide +kernel
theorem dX1_passMinute_94 : decode cX1_passMinute 94 = .ok (.getfield 15, 3) := by decide +kernel
theorem dX1_passMinute_97 : decode cX1_passMinute 97 = .ok (.iload 4, 2) := by decide +kernel
theorem dX1_passMinute_99 : decode cX1_passMinute 99 = .ok (.iaload, 1) := by decide +kernel
theorem dX1_passMinute_100 : decode cX1_passMinute 100 = .ok (.aload_n 1, 1) := by decide +kernel
theorem dX1_passMinute_101 : decode cX1_passMinute 101 = .ok (.getfield 85, 3) := by decide +kernel
theorem dX1_passMinute_104 : decode cX1_passMinute 104 = .ok (.iload 4, 2) := by decide +kernel
theorem dX1_passMinute_106 : decode cX1_passMinute 106 = .ok (.iaload, 1) := by decide +kernel
theorem dX1_passMinute_107 : decode cX1_passMinute 107 = .ok (.if_icmp .ge 21, 3) := by decide +kernel
theorem dX1_passMinute_110 : decode cX1_passMinute 110 = .ok (.aload_n 0, 1) := by decide +kernel
theorem dX1_passMinute_111 : decode cX1_passMinute 111 = .ok (.getfield 21, 3) := by decide +kernel
theorem dX1_passMinute_114 : decode cX1_passMinute 114 = .ok (.iload 4, 2) := by decide +kernel
theorem dX1_passMinute_116 : decode cX1_passMinute 116 = .ok (.dup2, 1) := by decide +kernel
theorem dX1_passMinute_117 : decode cX1_passMinute 117 = .ok (.iaload, 1) := by decide +kernel
theorem dX1_passMinute_118 : decode cX1_passMinute 118 = .ok (.iconst 1, 1) := by decide +kernel
theorem dX1_passMinute_119 : decode cX1_passMinute 119 = .ok (.iadd, 1) := by decide +kernel
theorem dX1_passMinute_120 : decode cX1_passMinute 120 = .ok (.iastore, 1) := by decide +kernel
theorem dX1_passMinute_121 : decode cX1_passMinute 121 = .ok (.iload_n 2, 1) := by decide +kernel
theorem dX1_passMinute_122 : decode cX1_passMinute 122 = .ok (.iconst 1, 1) := by decide +kernel
theorem dX1_passMinute_123 : decode cX1_passMinute 123 = .ok (.iload 4, 2) := by decide +kernel
theorem dX1_passMinute_125 : decode cX1_passMinute 125 = .ok (.ishl, 1) := by decide +kernel
theorem dX1_passMinute_126 : decode cX1_passMinute 126 = .ok (.ior, 1) := by decide +kernel
theorem dX1_passMinute_127 : decode cX1_passMinute 127 = .ok (.istore_n 2, 1) := by decide +kernel
theorem dX1_passMinute_128 : decode cX1_passMinute 128 = .ok (.iinc 4 1, 3) := by decide +kernel
theorem dX1_passMinute_131 : decode cX1_passMinute 131 = .ok (.goto (-124), 3) := by decide +kernel
theorem dX1_passMinute_134 : decode cX1_passMinute 134 = .ok (.aload_n 0, 1) := by decide +kernel
theorem dX1_passMinute_135 : decode cX1_passMinute 135 = .ok (.aload_n 1, 1) := by decide +kernel
theorem dX1_passMinute_136 : decode cX1_passMinute 136 = .ok (.iload_n 3, 1) := by decide +kernel
theorem dX1_passMinute_137 : decode cX1_passMinute 137 = .ok (.invokevirtual 88, 3) := by decide +kernel
theorem dX1_passMinute_140 : decode cX1_passMinute 140 = .ok (.aload_n 0, 1) := by decide +kernel
theorem dX1_passMinute_141 : decode cX1_passMinute 141 = .ok (.dup, 1) := by decide +kernel
theorem dX1_passMinute_142 : decode cX1_passMinute 142 = .ok (.getfield 51, 3) := by decide +kernel
theorem dX1_passMinute_145 : decode cX1_passMinute 145 = .ok (.iconst 1, 1) := by decide +kernel
theorem dX1_passMinute_146 : decode cX1_passMinute 146 = .ok (.iadd, 1) := by decide +kernel
theorem dX1_passMinute_147 : decode cX1_passMinute 147 = .ok (.putfield 51, 3) := by decide +kernel
theorem dX1_passMinute_150 : decode cX1_passMinute 150 = .ok (.iload_n 2, 1) := by decide +kernel
theorem dX1_passMinute_151 : decode cX1_passMinute 151 = .ok (.ireturn, 1) := by decide +kernel
set_option maxRecDepth 20000 in
theorem ggX1_shareHeat_X6_flow : GoodIn wsX1_shareHeat wsX6_flow := goodIn_r _ [7, 8, 9, 10, 11, 12, 13, 14, 15, 16, 17, 18, 6, 19, 30, 31, 32, 33, 34, 35, 36, 37, 38, 39, 40] (by decide +kernel) (by decide +kernel)
set_option maxRecDepth 20000 in
theorem gX1_shareHeat_X6_flow : GoodIn wsX1_shareHeat (wsV RX1 92 RX6 yX6_flow wsX6_flow) := goodIn_app (goodIn_of _ (by decide +kernel)) ggX1_shareHeat_X6_flow
theorem dX1_shareHeat_0 : decode cX1_shareHeat 0 = .ok (.aload_n 1, 1) := by decide +kernel
theorem dX1_shareHeat_1 : decode cX1_shareHeat 1 = .ok (.iload_n 2, 1) := by decide +kernel
theorem dX1_shareHeat_2 : decode cX1_shareHeat 2 = .ok (.iload_n 3, 1) := by decide +kernel
theorem dX1_shareHeat_3 : decode cX1_shareHeat 3 = .ok (.aload_n 0, 1) := by decide +kernel
theorem dX1_shareHeat_4 : decode cX1_shareHeat 4 = .ok (.getfield 15, 3) := by decide +kernel
theorem dX1_shareHeat_7 : decode cX1_shareHeat 7 = .ok (.iload_n 2, 1) := by decide +kernel
theorem dX1_shareHeat_8 : decode cX1_shareHeat 8 = .ok (.iaload, 1) := by decide +kernel
theorem dX1_shareHeat_9 : decode cX1_shareHeat 9 = .ok (.aload_n 0, 1) := by decide +kernel
theorem dX1_shareHeat_10 : decode cX1_shareHeat 10 = .ok (.getfield 9, 3) := by decide +kernel
theorem dX1_shareHeat_13 : decode cX1_shareHeat 13 = .ok (.iload_n 3, 1) := by decide +kernel
theorem dX1_shareHeat_14 : decode cX1_shareHeat 14 = .ok (.iaload, 1) := by decide +kernel
theorem dX1_shareHeat_15 : decode cX1_shareHeat 15 = .ok (.invokevirtual 92, 3) := by decide +kernel
theorem dX1_shareHeat_18 : decode cX1_shareHeat 18 = .ok (.istore 4, 2) := by decide +kernel
theorem dX1_shareHeat_20 : decode cX1_shareHeat 20 = .ok (.aload_n 0, 1) := by decide +kernel
theorem dX1_shareHeat_21 : decode cX1_shareHeat 21 = .ok (.getfield 15, 3) := by decide +kernel
theorem dX1_shareHeat_24 : decode cX1_shareHeat 24 = .ok (.iload_n 2, 1) := by decide +kernel
theorem dX1_shareHeat_25 : decode cX1_shareHeat 25 = .ok (.dup2, 1) := by decide +kernel
theorem dX1_shareHeat_26 : decode cX1_shareHeat 26 = .ok (.iaload, 1) := by decide +kernel
theorem dX1_shareHeat_27 : decode cX1_shareHeat 27 = .ok (.iload 4, 2) := by decide +kernel
theorem dX1_shareHeat_29 : decode cX1_shareHeat 29 = .ok (.isub, 1) := by decide +kernel
theorem dX1_shareHeat_30 : decode cX1_shareHeat 30 = .ok (.iastore, 1) := by decide +kernel
theorem dX1_shareHeat_31 : decode cX1_shareHeat 31 = .ok (.aload_n 0, 1) := by decide +kernel
theorem dX1_shareHeat_32 : decode cX1_shareHeat 32 = .ok (.getfield 9, 3) := by decide +kernel
theorem dX1_shareHeat_35 : decode cX1_shareHeat 35 = .ok (.iload_n 3, 1) := by decide +kernel
theorem dX1_shareHeat_36 : decode cX1_shareHeat 36 = .ok (.dup2, 1) := by decide +kernel
theorem dX1_shareHeat_37 : decode cX1_shareHeat 37 = .ok (.iaload, 1) := by decide +kernel
theorem dX1_shareHeat_38 : decode cX1_shareHeat 38 = .ok (.iload 4, 2) := by decide +kernel
theorem dX1_shareHeat_40 : decode cX1_shareHeat 40 = .ok (.iadd, 1) := by decide +kernel
theorem dX1_shareHeat_41 : decode cX1_shareHeat 41 = .ok (.iastore, 1) := by decide +kernel
theorem dX1_shareHeat_42 : decode cX1_shareHeat 42 = .ok (.return_, 1) := by decide +kernel
set_option maxRecDepth 20000 in
theorem ggX1_useMinute_X7_ownedAt : GoodIn wsX1_useMinute wsX7_ownedAt := goodIn_r _ [5] (by decide +kernel) (by decide +kernel)
set_option maxRecDepth 20000 in
theorem gX1_useMinute_X7_ownedAt_n96 : GoodIn wsX1_useMinute (wsX7_ownedAt) := ggX1_useMinute_X7_ownedAt
theorem dX1_useMinute_0 : decode cX1_useMinute 0 = .ok (.iload_n 1, 1) := by decide +kernel
theorem dX1_useMinute_1 : decode cX1_useMinute 1 = .ok (.iload_n 2, 1) := by decide +kernel
theorem dX1_useMinute_2 : decode cX1_useMinute 2 = .ok (.invokestatic 96, 3) := by decide +kernel
theorem dX1_useMinute_5 : decode cX1_useMinute 5 = .ok (.istore_n 3, 1) := by decide +kernel
theorem dX1_useMinute_6 : decode cX1_useMinute 6 = .ok (.aload_n 0, 1) := by decide +kernel
theorem dX1_useMinute_7 : decode cX1_useMinute 7 = .ok (.getfield 30, 3) := by decide +kernel
theorem dX1_useMinute_10 : decode cX1_useMinute 10 = .ok (.iload_n 3, 1) := by decide +kernel
theorem dX1_useMinute_11 : decode cX1_useMinute 11 = .ok (.iaload, 1) := by decide +kernel
theorem dX1_useMinute_12 : decode cX1_useMinute 12 = .ok (.ifCond .le 16, 3) := by decide +kernel
theorem dX1_useMinute_15 : decode cX1_useMinute 15 = .ok (.aload_n 0, 1) := by decide +kernel
theorem dX1_useMinute_16 : decode cX1_useMinute 16 = .ok (.getfield 30, 3) := by decide +kernel
theorem dX1_useMinute_19 : decode cX1_useMinute 19 = .ok (.iload_n 3, 1) := by decide +kernel
theorem dX1_useMinute_20 : decode cX1_useMinute 20 = .ok (.dup2, 1) := by decide +kernel
theorem dX1_useMinute_21 : decode cX1_useMinute 21 = .ok (.iaload, 1) := by decide +kernel
theorem dX1_useMinute_22 : decode cX1_useMinute 22 = .ok (.iconst 1, 1) := by decide +kernel
theorem dX1_useMinute_23 : decode cX1_useMinute 23 = .ok (.isub, 1) := by decide +kernel
theorem dX1_useMinute_24 : decode cX1_useMinute 24 = .ok (.iastore, 1) := by decide +kernel
theorem dX1_useMinute_25 : decode cX1_useMinute 25 = .ok (.goto 13, 3) := by decide +kernel
theorem dX1_useMinute_28 : decode cX1_useMinute 28 = .ok (.aload_n 0, 1) := by decide +kernel
theorem dX1_useMinute_29 : decode cX1_useMinute 29 = .ok (.getfield 24, 3) := by decide +kernel
theorem dX1_useMinute_32 : decode cX1_useMinute 32 = .ok (.iload_n 1, 1) := by decide +kernel
theorem dX1_useMinute_33 : decode cX1_useMinute 33 = .ok (.dup2, 1) := by decide +kernel
theorem dX1_useMinute_34 : decode cX1_useMinute 34 = .ok (.iaload, 1) := by decide +kernel
theorem dX1_useMinute_35 : decode cX1_useMinute 35 = .ok (.iconst 1, 1) := by decide +kernel
theorem dX1_useMinute_36 : decode cX1_useMinute 36 = .ok (.iadd, 1) := by decide +kernel
theorem dX1_useMinute_37 : decode cX1_useMinute 37 = .ok (.iastore, 1) := by decide +kernel
theorem dX1_useMinute_38 : decode cX1_useMinute 38 = .ok (.return_, 1) := by decide +kernel
theorem dX1_freeze_0 : decode cX1_freeze 0 = .ok (.iload_n 2, 1) := by decide +kernel
theorem dX1_freeze_1 : decode cX1_freeze 1 = .ok (.aload_n 0, 1) := by decide +kernel
theorem dX1_freeze_2 : decode cX1_freeze 2 = .ok (.getfield 15, 3) := by decide +kernel
theorem dX1_freeze_5 : decode cX1_freeze 5 = .ok (.iload_n 1, 1) := by decide +kernel
theorem dX1_freeze_6 : decode cX1_freeze 6 = .ok (.iaload, 1) := by decide +kernel
theorem dX1_freeze_7 : decode cX1_freeze 7 = .ok (.invokestatic 100, 3) := by decide +kernel
theorem dX1_freeze_10 : decode cX1_freeze 10 = .ok (.istore_n 3, 1) := by decide +kernel
theorem dX1_freeze_11 : decode cX1_freeze 11 = .ok (.aload_n 0, 1) := by decide +kernel
theorem dX1_freeze_12 : decode cX1_freeze 12 = .ok (.getfield 15, 3) := by decide +kernel
theorem dX1_freeze_15 : decode cX1_freeze 15 = .ok (.iload_n 1, 1) := by decide +kernel
theorem dX1_freeze_16 : decode cX1_freeze 16 = .ok (.dup2, 1) := by decide +kernel
theorem dX1_freeze_17 : decode cX1_freeze 17 = .ok (.iaload, 1) := by decide +kernel
theorem dX1_freeze_18 : decode cX1_freeze 18 = .ok (.iload_n 3, 1) := by decide +kernel
theorem dX1_freeze_19 : decode cX1_freeze 19 = .ok (.isub, 1) := by decide +kernel
theorem dX1_freeze_20 : decode cX1_freeze 20 = .ok (.iastore, 1) := by decide +kernel
theorem dX1_freeze_21 : decode cX1_freeze 21 = .ok (.aload_n 0, 1) := by decide +kernel
theorem dX1_freeze_22 : decode cX1_freeze 22 = .ok (.dup, 1) := by decide +kernel
theorem dX1_freeze_23 : decode cX1_freeze 23 = .ok (.getfield 48, 3) := by decide +kernel
theorem dX1_freeze_26 : decode cX1_freeze 26 = .ok (.iload_n 3, 1) := by decide +kernel
theorem dX1_freeze_27 : decode cX1_freeze 27 = .ok (.iadd, 1) := by decide +kernel
theorem dX1_freeze_28 : decode cX1_freeze 28 = .ok (.putfield 48, 3) := by decide +kernel
theorem dX1_freeze_31 : decode cX1_freeze 31 = .ok (.return_, 1) := by decide +kernel
set_option maxRecDepth 20000 in
theorem ggX1_coolEmptyStones_X6_lossOfEmpty : GoodIn wsX1_coolEmptyStones wsX6_lossOfEmpty := goodIn_r _ [8, 9, 10, 11, 12, 13, 14, 15, 16, 17, 18, 19, 20, 21, 22, 23, 24] (by decide +kernel) (by decide +kernel)
set_option maxRecDepth 20000 in
theorem gX1_coolEmptyStones_X6_lossOfEmpty : GoodIn wsX1_coolEmptyStones (wsV RX1 105 RX6 yX6_lossOfEmpty wsX6_lossOfEmpty) := goodIn_app (goodIn_of _ (by decide +kernel)) ggX1_coolEmptyStones_X6_lossOfEmpty
theorem dX1_coolEmptyStones_0 : decode cX1_coolEmptyStones 0 = .ok (.iconst 0, 1) := by decide +kernel
theorem dX1_coolEmptyStones_1 : decode cX1_coolEmptyStones 1 = .ok (.istore_n 3, 1) := by decide +kernel
theorem dX1_coolEmptyStones_2 : decode cX1_coolEmptyStones 2 = .ok (.iload_n 3, 1) := by decide +kernel
theorem dX1_coolEmptyStones_3 : decode cX1_coolEmptyStones 3 = .ok (.aload_n 1, 1) := by decide +kernel
theorem dX1_coolEmptyStones_4 : decode cX1_coolEmptyStones 4 = .ok (.getfield 33, 3) := by decide +kernel
theorem dX1_coolEmptyStones_7 : decode cX1_coolEmptyStones 7 = .ok (.if_icmp .ge 52, 3) := by decide +kernel
theorem dX1_coolEmptyStones_10 : decode cX1_coolEmptyStones 10 = .ok (.iload_n 2, 1) := by decide +kernel
theorem dX1_coolEmptyStones_11 : decode cX1_coolEmptyStones 11 = .ok (.iload_n 3, 1) := by decide +kernel
theorem dX1_coolEmptyStones_12 : decode cX1_coolEmptyStones 12 = .ok (.ishr, 1) := by decide +kernel
theorem dX1_coolEmptyStones_13 : decode cX1_coolEmptyStones 13 = .ok (.iconst 1, 1) := by decide +kernel
theorem dX1_coolEmptyStones_14 : decode cX1_coolEmptyStones 14 = .ok (.iand, 1) := by decide +kernel
theorem dX1_coolEmptyStones_15 : decode cX1_coolEmptyStones 15 = .ok (.ifCond .ne 38, 3) := by decide +kernel
theorem dX1_coolEmptyStones_18 : decode cX1_coolEmptyStones 18 = .ok (.aload_n 1, 1) := by decide +kernel
theorem dX1_coolEmptyStones_19 : decode cX1_coolEmptyStones 19 = .ok (.iload_n 3, 1) := by decide +kernel
theorem dX1_coolEmptyStones_20 : decode cX1_coolEmptyStones 20 = .ok (.aload_n 0, 1) := by decide +kernel
theorem dX1_coolEmptyStones_21 : decode cX1_coolEmptyStones 21 = .ok (.getfield 9, 3) := by decide +kernel
theorem dX1_coolEmptyStones_24 : decode cX1_coolEmptyStones 24 = .ok (.iload_n 3, 1) := by decide +kernel
theorem dX1_coolEmptyStones_25 : decode cX1_coolEmptyStones 25 = .ok (.iaload, 1) := by decide +kernel
theorem dX1_coolEmptyStones_26 : decode cX1_coolEmptyStones 26 = .ok (.invokevirtual 105, 3) := by decide +kernel
theorem dX1_coolEmptyStones_29 : decode cX1_coolEmptyStones 29 = .ok (.istore 4, 2) := by decide +kernel
theorem dX1_coolEmptyStones_31 : decode cX1_coolEmptyStones 31 = .ok (.aload_n 0, 1) := by decide +kernel
theorem dX1_coolEmptyStones_32 : decode cX1_coolEmptyStones 32 = .ok (.getfield 9, 3) := by decide +kernel
theorem dX1_coolEmptyStones_35 : decode cX1_coolEmptyStones 35 = .ok (.iload_n 3, 1) := by decide +kernel
theorem dX1_coolEmptyStones_36 : decode cX1_coolEmptyStones 36 = .ok (.dup2, 1) := by decide +kernel
theorem dX1_coolEmptyStones_37 : decode cX1_coolEmptyStones 37 = .ok (.iaload, 1) := by decide +kernel
theorem dX1_coolEmptyStones_38 : decode cX1_coolEmptyStones 38 = .ok (.iload 4, 2) := by decide +kernel
theorem dX1_coolEmptyStones_40 : decode cX1_coolEmptyStones 40 = .ok (.isub, 1) := by decide +kernel
theorem dX1_coolEmptyStones_41 : decode cX1_coolEmptyStones 41 = .ok (.iastore, 1) := by decide +kernel
theorem dX1_coolEmptyStones_42 : decode cX1_coolEmptyStones 42 = .ok (.aload_n 0, 1) := by decide +kernel
theorem dX1_coolEmptyStones_43 : decode cX1_coolEmptyStones 43 = .ok (.dup, 1) := by decide +kernel
theorem dX1_coolEmptyStones_44 : decode cX1_coolEmptyStones 44 = .ok (.getfield 48, 3) := by decide +kernel
theorem dX1_coolEmptyStones_47 : decode cX1_coolEmptyStones 47 = .ok (.iload 4, 2) := by decide +kernel
theorem dX1_coolEmptyStones_49 : decode cX1_coolEmptyStones 49 = .ok (.iadd, 1) := by decide +kernel
theorem dX1_coolEmptyStones_50 : decode cX1_coolEmptyStones 50 = .ok (.putfield 48, 3) := by decide +kernel
theorem dX1_coolEmptyStones_53 : decode cX1_coolEmptyStones 53 = .ok (.iinc 3 1, 3) := by decide +kernel
theorem dX1_coolEmptyStones_56 : decode cX1_coolEmptyStones 56 = .ok (.goto (-54), 3) := by decide +kernel
theorem dX1_coolEmptyStones_59 : decode cX1_coolEmptyStones 59 = .ok (.return_, 1) := by decide +kernel
set_option maxRecDepth 20000 in
theorem ggX1_moveByDraws_X1_draw : GoodIn wsX1_moveByDraws wsX1_draw := goodIn_r _ [8, 9, 10, 11, 12, 13, 35, 36, 37, 38, 39, 40, 41, 42, 43, 44] (by decide +kernel) (by decide +kernel)
set_option maxRecDepth 20000 in
theorem gX1_moveByDraws_X1_draw : GoodIn wsX1_moveByDraws (wsV RX1 108 RX1 yX1_draw wsX1_draw) := goodIn_app (goodIn_of _ (by decide +kernel)) ggX1_moveByDraws_X1_draw
set_option maxRecDepth 20000 in
theorem ggX1_moveByDraws_X6_hasStone : GoodIn wsX1_moveByDraws wsX6_hasStone := goodIn_r _ [18, 19, 24, 25, 26, 27, 28, 29, 30, 31, 32, 33, 34] (by decide +kernel) (by decide +kernel)
set_option maxRecDepth 20000 in
theorem gX1_moveByDraws_X6_hasStone : GoodIn wsX1_moveByDraws (wsV RX1 63 RX6 yX6_hasStone wsX6_hasStone) := goodIn_app (goodIn_of _ (by decide +kernel)) ggX1_moveByDraws_X6_hasStone
set_option maxRecDepth 20000 in
theorem ggX1_moveByDraws_X1_sitterOn : GoodIn wsX1_moveByDraws wsX1_sitterOn := goodIn_r _ [23, 2, 35, 36, 37, 38, 39, 40, 41, 42, 43, 44] (by decide +kernel) (by decide +kernel)
set_option maxRecDepth 20000 in
theorem gX1_moveByDraws_X1_sitterOn : GoodIn wsX1_moveByDraws (wsV RX1 112 RX1 yX1_sitterOn wsX1_sitterOn) := goodIn_app (goodIn_of _ (by decide +kernel)) ggX1_moveByDraws_X1_sitterOn
theorem dX1_moveByDraws_0 : decode cX1_moveByDraws 0 = .ok (.iconst 0, 1) := by decide +kernel
theorem dX1_moveByDraws_1 : decode cX1_moveByDraws 1 = .ok (.istore_n 2, 1) := by decide +kernel
theorem dX1_moveByDraws_2 : decode cX1_moveByDraws 2 = .ok (.iload_n 2, 1) := by decide +kernel
theorem dX1_moveByDraws_3 : decode cX1_moveByDraws 3 = .ok (.aload_n 1, 1) := by decide +kernel
theorem dX1_moveByDraws_4 : decode cX1_moveByDraws 4 = .ok (.getfield 42, 3) := by decide +kernel
theorem dX1_moveByDraws_7 : decode cX1_moveByDraws 7 = .ok (.if_icmp .ge 59, 3) := by decide +kernel
theorem dX1_moveByDraws_10 : decode cX1_moveByDraws 10 = .ok (.aload_n 0, 1) := by decide +kernel
theorem dX1_moveByDraws_11 : decode cX1_moveByDraws 11 = .ok (.iconst 4, 1) := by decide +kernel
theorem dX1_moveByDraws_12 : decode cX1_moveByDraws 12 = .ok (.invokevirtual 108, 3) := by decide +kernel
theorem dX1_moveByDraws_15 : decode cX1_moveByDraws 15 = .ok (.ifCond .ne 45, 3) := by decide +kernel
theorem dX1_moveByDraws_18 : decode cX1_moveByDraws 18 = .ok (.aload_n 0, 1) := by decide +kernel
theorem dX1_moveByDraws_19 : decode cX1_moveByDraws 19 = .ok (.getfield 18, 3) := by decide +kernel
theorem dX1_moveByDraws_22 : decode cX1_moveByDraws 22 = .ok (.iload_n 2, 1) := by decide +kernel
theorem dX1_moveByDraws_23 : decode cX1_moveByDraws 23 = .ok (.iconst (-1), 1) := by decide +kernel
theorem dX1_moveByDraws_24 : decode cX1_moveByDraws 24 = .ok (.iastore, 1) := by decide +kernel
theorem dX1_moveByDraws_25 : decode cX1_moveByDraws 25 = .ok (.aload_n 0, 1) := by decide +kernel
theorem dX1_moveByDraws_26 : decode cX1_moveByDraws 26 = .ok (.aload_n 1, 1) := by decide +kernel
theorem dX1_moveByDraws_27 : decode cX1_moveByDraws 27 = .ok (.getfield 33, 3) := by decide +kernel
theorem dX1_moveByDraws_30 : decode cX1_moveByDraws 30 = .ok (.iconst 1, 1) := by decide +kernel
theorem dX1_moveByDraws_31 : decode cX1_moveByDraws 31 = .ok (.iadd, 1) := by decide +kernel
theorem dX1_moveByDraws_32 : decode cX1_moveByDraws 32 = .ok (.invokevirtual 108, 3) := by decide +kernel
theorem dX1_moveByDraws_35 : decode cX1_moveByDraws 35 = .ok (.istore_n 3, 1) := by decide +kernel
theorem dX1_moveByDraws_36 : decode cX1_moveByDraws 36 = .ok (.aload_n 1, 1) := by decide +kernel
theorem dX1_moveByDraws_37 : decode cX1_moveByDraws 37 = .ok (.iload_n 3, 1) := by decide +kernel
theorem dX1_moveByDraws_38 : decode cX1_moveByDraws 38 = .ok (.invokevirtual 63, 3) := by decide +kernel
theorem dX1_moveByDraws_41 : decode cX1_moveByDraws 41 = .ok (.ifCond .eq 19, 3) := by decide +kernel
theorem dX1_moveByDraws_44 : decode cX1_moveByDraws 44 = .ok (.aload_n 0, 1) := by decide +kernel
theorem dX1_moveByDraws_45 : decode cX1_moveByDraws 45 = .ok (.iload_n 3, 1) := by decide +kernel
theorem dX1_moveByDraws_46 : decode cX1_moveByDraws 46 = .ok (.invokevirtual 112, 3) := by decide +kernel
theorem dX1_moveByDraws_49 : decode cX1_moveByDraws 49 = .ok (.iconst (-1), 1) := by decide +kernel
theorem dX1_moveByDraws_50 : decode cX1_moveByDraws 50 = .ok (.if_icmp .ne 10, 3) := by decide +kernel
theorem dX1_moveByDraws_53 : decode cX1_moveByDraws 53 = .ok (.aload_n 0, 1) := by decide +kernel
theorem dX1_moveByDraws_54 : decode cX1_moveByDraws 54 = .ok (.getfield 18, 3) := by decide +kernel
theorem dX1_moveByDraws_57 : decode cX1_moveByDraws 57 = .ok (.iload_n 2, 1) := by decide +kernel
theorem dX1_moveByDraws_58 : decode cX1_moveByDraws 58 = .ok (.iload_n 3, 1) := by decide +kernel
theorem dX1_moveByDraws_59 : decode cX1_moveByDraws 59 = .ok (.iastore, 1) := by decide +kernel
theorem dX1_moveByDraws_60 : decode cX1_moveByDraws 60 = .ok (.iinc 2 1, 3) := by decide +kernel
theorem dX1_moveByDraws_63 : decode cX1_moveByDraws 63 = .ok (.goto (-61), 3) := by decide +kernel
theorem dX1_moveByDraws_66 : decode cX1_moveByDraws 66 = .ok (.return_, 1) := by decide +kernel
theorem dX1_draw_0 : decode cX1_draw 0 = .ok (.aload_n 0, 1) := by decide +kernel
theorem dX1_draw_1 : decode cX1_draw 1 = .ok (.aload_n 0, 1) := by decide +kernel
theorem dX1_draw_2 : decode cX1_draw 2 = .ok (.getfield 60, 3) := by decide +kernel
theorem dX1_draw_5 : decode cX1_draw 5 = .ok (.i2l, 1) := by decide +kernel
theorem dX1_draw_6 : decode cX1_draw 6 = .ok (.ldc2_w 115, 3) := by decide +kernel
theorem dX1_draw_9 : decode cX1_draw 9 = .ok (.lmul, 1) := by decide +kernel
theorem dX1_draw_10 : decode cX1_draw 10 = .ok (.ldc2_w 117, 3) := by decide +kernel
theorem dX1_draw_13 : decode cX1_draw 13 = .ok (.ladd, 1) := by decide +kernel
theorem dX1_draw_14 : decode cX1_draw 14 = .ok (.ldc2_w 119, 3) := by decide +kernel
theorem dX1_draw_17 : decode cX1_draw 17 = .ok (.land, 1) := by decide +kernel
theorem dX1_draw_18 : decode cX1_draw 18 = .ok (.l2i, 1) := by decide +kernel
theorem dX1_draw_19 : decode cX1_draw 19 = .ok (.putfield 60, 3) := by decide +kernel
theorem dX1_draw_22 : decode cX1_draw 22 = .ok (.iload_n 1, 1) := by decide +kernel
theorem dX1_draw_23 : decode cX1_draw 23 = .ok (.ifCond .le 15, 3) := by decide +kernel
theorem dX1_draw_26 : decode cX1_draw 26 = .ok (.aload_n 0, 1) := by decide +kernel
theorem dX1_draw_27 : decode cX1_draw 27 = .ok (.getfield 60, 3) := by decide +kernel
theorem dX1_draw_30 : decode cX1_draw 30 = .ok (.ldc 121, 2) := by decide +kernel
theorem dX1_draw_32 : decode cX1_draw 32 = .ok (.idiv, 1) := by decide +kernel
theorem dX1_draw_33 : decode cX1_draw 33 = .ok (.iload_n 1, 1) := by decide +kernel
theorem dX1_draw_34 : decode cX1_draw 34 = .ok (.irem, 1) := by decide +kernel
theorem dX1_draw_35 : decode cX1_draw 35 = .ok (.goto 4, 3) := by decide +kernel
theorem dX1_draw_38 : decode cX1_draw 38 = .ok (.iconst 0, 1) := by decide +kernel
theorem dX1_draw_39 : decode cX1_draw 39 = .ok (.ireturn, 1) := by decide +kernel
set_option maxRecDepth 20000 in
theorem ggX2_init_X4_init : GoodIn wsX2_init wsX4_init := goodIn_r _ [13, 14, 2, 3] (by decide +kernel) (by decide +kernel)
set_option maxRecDepth 20000 in
theorem gX2_init_X4_init_n11 : GoodIn wsX2_init (wsX4_init) := ggX2_init_X4_init
theorem dX2_init_0 : decode cX2_init 0 = .ok (.aload_n 0, 1) := by decide +kernel
theorem dX2_init_1 : decode cX2_init 1 = .ok (.invokespecial 3, 3) := by decide +kernel
theorem dX2_init_4 : decode cX2_init 4 = .ok (.aload_n 0, 1) := by decide +kernel
theorem dX2_init_5 : decode cX2_init 5 = .ok (.new 9, 3) := by decide +kernel
theorem dX2_init_8 : decode cX2_init 8 = .ok (.dup, 1) := by decide +kernel
theorem dX2_init_9 : decode cX2_init 9 = .ok (.invokespecial 11, 3) := by decide +kernel
theorem dX2_init_12 : decode cX2_init 12 = .ok (.putfield 12, 3) := by decide +kernel
theorem dX2_init_15 : decode cX2_init 15 = .ok (.aload_n 0, 1) := by decide +kernel
theorem dX2_init_16 : decode cX2_init 16 = .ok (.bipush 6, 2) := by decide +kernel
theorem dX2_init_18 : decode cX2_init 18 = .ok (.newarray .int, 2) := by decide +kernel
theorem dX2_init_20 : decode cX2_init 20 = .ok (.putfield 18, 3) := by decide +kernel
theorem dX2_init_23 : decode cX2_init 23 = .ok (.aload_n 0, 1) := by decide +kernel
theorem dX2_init_24 : decode cX2_init 24 = .ok (.bipush 6, 2) := by decide +kernel
theorem dX2_init_26 : decode cX2_init 26 = .ok (.newarray .int, 2) := by decide +kernel
theorem dX2_init_28 : decode cX2_init 28 = .ok (.putfield 22, 3) := by decide +kernel
theorem dX2_init_31 : decode cX2_init 31 = .ok (.aload_n 0, 1) := by decide +kernel
theorem dX2_init_32 : decode cX2_init 32 = .ok (.sipush 256, 3) := by decide +kernel
theorem dX2_init_35 : decode cX2_init 35 = .ok (.newarray .int, 2) := by decide +kernel
theorem dX2_init_37 : decode cX2_init 37 = .ok (.putfield 25, 3) := by decide +kernel
theorem dX2_init_40 : decode cX2_init 40 = .ok (.return_, 1) := by decide +kernel
set_option maxRecDepth 20000 in
theorem ggX2_search_X2_place : GoodIn wsX2_search wsX2_place := goodIn_r _ [9, 3, 10, 11, 12, 13, 14, 8, 15, 16, 17, 18, 19, 20, 21, 22, 23, 24, 25, 2, 26, 27, 28, 29, 30, 31, 1, 32, 33, 34, 35, 36, 37, 38, 39, 40, 41, 42, 43, 44, 45, 46, 47, 48, 49, 50, 51, 52, 53, 54, 55, 56, 57, 58, 59, 60, 61, 62, 63, 64, 65, 66, 67, 68, 69, 70, 5, 6, 7, 71, 72, 73, 74, 75, 76, 77, 88, 89, 90, 91, 92, 93, 94, 95, 96, 97, 98, 78, 79, 80, 81, 82, 83, 84, 85, 86, 87, 99, 100] (by decide +kernel) (by decide +kernel)
set_option maxRecDepth 20000 in
theorem gX2_search_X2_place : GoodIn wsX2_search (wsV RX2 40 RX2 yX2_place wsX2_place) := goodIn_app (goodIn_of _ (by decide +kernel)) ggX2_search_X2_place
theorem dX2_search_0 : decode cX2_search 0 = .ok (.aload_n 0, 1) := by decide +kernel
theorem dX2_search_1 : decode cX2_search 1 = .ok (.iload_n 3, 1) := by decide +kernel
theorem dX2_search_2 : decode cX2_search 2 = .ok (.putfield 28, 3) := by decide +kernel
theorem dX2_search_5 : decode cX2_search 5 = .ok (.aload_n 0, 1) := by decide +kernel
theorem dX2_search_6 : decode cX2_search 6 = .ok (.iload 5, 2) := by decide +kernel
theorem dX2_search_8 : decode cX2_search 8 = .ok (.putfield 32, 3) := by decide +kernel
theorem dX2_search_11 : decode cX2_search 11 = .ok (.iconst 0, 1) := by decide +kernel
theorem dX2_search_12 : decode cX2_search 12 = .ok (.istore 6, 2) := by decide +kernel
theorem dX2_search_14 : decode cX2_search 14 = .ok (.iload 6, 2) := by decide +kernel
theorem dX2_search_16 : decode cX2_search 16 = .ok (.aload_n 0, 1) := by decide +kernel
theorem dX2_search_17 : decode cX2_search 17 = .ok (.getfield 25, 3) := by decide +kernel
theorem dX2_search_20 : decode cX2_search 20 = .ok (.arraylength, 1) := by decide +kernel
theorem dX2_search_21 : decode cX2_search 21 = .ok (.if_icmp .ge 17, 3) := by decide +kernel
theorem dX2_search_24 : decode cX2_search 24 = .ok (.aload_n 0, 1) := by decide +kernel
theorem dX2_search_25 : decode cX2_search 25 = .ok (.getfield 25, 3) := by decide +kernel
theorem dX2_search_28 : decode cX2_search 28 = .ok (.iload 6, 2) := by decide +kernel
theorem dX2_search_30 : decode cX2_search 30 = .ok (.iconst (-1), 1) := by decide +kernel
theorem dX2_search_31 : decode cX2_search 31 = .ok (.iastore, 1) := by decide +kernel
theorem dX2_search_32 : decode cX2_search 32 = .ok (.iinc 6 1, 3) := by decide +kernel
theorem dX2_search_35 : decode cX2_search 35 = .ok (.goto (-21), 3) := by decide +kernel
theorem dX2_search_38 : decode cX2_search 38 = .ok (.aload_n 0, 1) := by decide +kernel
theorem dX2_search_39 : decode cX2_search 39 = .ok (.aload_n 1, 1) := by decide +kernel
theorem dX2_search_40 : decode cX2_search 40 = .ok (.aload_n 2, 1) := by decide +kernel
theorem dX2_search_41 : decode cX2_search 41 = .ok (.iconst 0, 1) := by decide +kernel
theorem dX2_search_42 : decode cX2_search 42 = .ok (.iload 4, 2) := by decide +kernel
theorem dX2_search_44 : decode cX2_search 44 = .ok (.aload_n 2, 1) := by decide +kernel
theorem dX2_search_45 : decode cX2_search 45 = .ok (.getfield 35, 3) := by decide +kernel
theorem dX2_search_48 : decode cX2_search 48 = .ok (.iload_n 3, 1) := by decide +kernel
theorem dX2_search_49 : decode cX2_search 49 = .ok (.iaload, 1) := by decide +kernel
theorem dX2_search_50 : decode cX2_search 50 = .ok (.invokevirtual 40, 3) := by decide +kernel
theorem dX2_search_53 : decode cX2_search 53 = .ok (.return_, 1) := by decide +kernel
set_option maxRecDepth 20000 in
theorem ggX2_answer_X7_within : GoodIn wsX2_answer wsX7_within := goodIn_r _ [6] (by decide +kernel) (by decide +kernel)
set_option maxRecDepth 20000 in
theorem gX2_answer_X7_within_n47 : GoodIn wsX2_answer (wsX7_within) := ggX2_answer_X7_within
theorem dX2_answer_0 : decode cX2_answer 0 = .ok (.iload_n 1, 1) := by decide +kernel
theorem dX2_answer_1 : decode cX2_answer 1 = .ok (.ifCond .ne 8, 3) := by decide +kernel
theorem dX2_answer_4 : decode cX2_answer 4 = .ok (.aload_n 0, 1) := by decide +kernel
theorem dX2_answer_5 : decode cX2_answer 5 = .ok (.getfield 44, 3) := by decide +kernel
theorem dX2_answer_8 : decode cX2_answer 8 = .ok (.ireturn, 1) := by decide +kernel
theorem dX2_answer_9 : decode cX2_answer 9 = .ok (.iload_n 1, 1) := by decide +kernel
theorem dX2_answer_10 : decode cX2_answer 10 = .ok (.iconst 1, 1) := by decide +kernel
theorem dX2_answer_11 : decode cX2_answer 11 = .ok (.isub, 1) := by decide +kernel
theorem dX2_answer_12 : decode cX2_answer 12 = .ok (.iconst 0, 1) := by decide +kernel
theorem dX2_answer_13 : decode cX2_answer 13 = .ok (.iconst 5, 1) := by decide +kernel
theorem dX2_answer_14 : decode cX2_answer 14 = .ok (.invokestatic 47, 3) := by decide +kernel
theorem dX2_answer_17 : decode cX2_answer 17 = .ok (.ifCond .eq 14, 3) := by decide +kernel
theorem dX2_answer_20 : decode cX2_answer 20 = .ok (.aload_n 0, 1) := by decide +kernel
theorem dX2_answer_21 : decode cX2_answer 21 = .ok (.getfield 22, 3) := by decide +kernel
theorem dX2_answer_24 : decode cX2_answer 24 = .ok (.iload_n 1, 1) := by decide +kernel
theorem dX2_answer_25 : decode cX2_answer 25 = .ok (.iconst 1, 1) := by decide +kernel
theorem dX2_answer_26 : decode cX2_answer 26 = .ok (.isub, 1) := by decide +kernel
theorem dX2_answer_27 : decode cX2_answer 27 = .ok (.iaload, 1) := by decide +kernel
theorem dX2_answer_28 : decode cX2_answer 28 = .ok (.goto 5, 3) := by decide +kernel
theorem dX2_answer_31 : decode cX2_answer 31 = .ok (.ldc 51, 2) := by decide +kernel
theorem dX2_answer_33 : decode cX2_answer 33 = .ok (.ireturn, 1) := by decide +kernel
set_option maxRecDepth 20000 in
theorem ggX2_place_X2_keepBest : GoodIn wsX2_place wsX2_keepBest := goodIn_r _ [8, 9, 3, 10, 11, 12, 13, 14, 69, 70, 71, 72, 73, 74, 75] (by decide +kernel) (by decide +kernel)
set_option maxRecDepth 20000 in
theorem gX2_place_X2_keepBest : GoodIn wsX2_place (wsV RX2 52 RX2 yX2_keepBest wsX2_keepBest) := goodIn_app (goodIn_of _ (by decide +kernel)) ggX2_place_X2_keepBest
set_option maxRecDepth 20000 in
theorem ggX2_place_X2_heatBehind : GoodIn wsX2_place wsX2_heatBehind := goodIn_r _ [18, 19, 20, 21, 22, 23, 24, 25, 26, 27, 28, 29, 30, 31, 32, 33, 34, 35, 36, 37, 38, 39, 40, 41, 42, 43, 44, 45, 46, 47, 48, 49, 50, 51, 52, 53, 54, 55, 56, 57, 58, 59, 60, 61, 62, 63, 64, 65, 69, 70, 71, 72, 73, 74, 75, 87, 88, 89, 90, 91, 92, 93, 94, 95, 96, 97, 98, 76, 77, 78, 79, 80, 81, 82, 83, 84, 85, 86] (by decide +kernel) (by decide +kernel)
set_option maxRecDepth 20000 in
theorem gX2_place_X2_heatBehind : GoodIn wsX2_place (wsV RX2 61 RX2 yX2_heatBehind wsX2_heatBehind) := goodIn_app (goodIn_of _ (by decide +kernel)) ggX2_place_X2_heatBehind
set_option maxRecDepth 20000 in
theorem ggX2_place_X2_place : GoodIn wsX2_place wsX2_place := goodIn_r _ [0, 1, 2, 3, 4, 5, 6, 7, 8, 9, 10, 11, 12, 13, 14, 15, 16, 17, 18, 19, 20, 21, 22, 23, 24, 25, 26, 27, 28, 29, 30, 31, 32, 33, 34, 35, 36, 37, 38, 39, 40, 41, 42, 43, 44, 45, 46, 47, 48, 49, 50, 51, 52, 53, 54, 55, 56, 57, 58, 59, 60, 61, 62, 63, 64, 65, 66, 67, 68, 69, 70, 71, 72, 73, 74, 75, 76, 77, 78, 79, 80, 81, 82, 83, 84, 85, 86, 87, 88, 89, 90, 91, 92, 93, 94, 95, 96, 97, 98] (by decide +kernel) (by decide +kernel)
set_option maxRecDepth 20000 in
theorem gX2_place_X2_place : GoodIn wsX2_place (wsV RX2 40 RX2 yX2_place wsX2_place) := goodIn_app (goodIn_of _ (by decide +kernel)) ggX2_place_X2_place
theorem dX2_place_0 : decode cX2_place 0 = .ok (.iload 4, 2) := by decide +kernel
theorem dX2_place_2 : decode cX2_place 2 = .ok (.ifCond .lt 25, 3) := by decide +kernel
theorem dX2_place_5 : decode cX2_place 5 = .ok (.iload 4, 2) := by decide +kernel
theorem dX2_place_7 : decode cX2_place 7 = .ok (.aload_n 0, 1) := by decide +kernel
theorem dX2_place_8 : decode cX2_place 8 = .ok (.getfield 25, 3) := by decide +kernel
theorem dX2_place_11 : decode cX2_place 11 = .ok (.arraylength, 1) := by decide +kernel
theorem dX2_place_12 : decode cX2_place 12 = .ok (.if_icmp .ge 15, 3) := by decide +kernel
theorem dX2_place_15 : decode cX2_place 15 = .ok (.iload 5, 2) := by decide +kernel
theorem dX2_place_17 : decode cX2_place 17 = .ok (.aload_n 0, 1) := by decide +kernel
theorem dX2_place_18 : decode cX2_place 18 = .ok (.getfield 25, 3) := by decide +kernel
theorem dX2_place_21 : decode cX2_place 21 = .ok (.iload 4, 2) := by decide +kernel
theorem dX2_place_23 : decode cX2_place 23 = .ok (.iaload, 1) := by decide +kernel
theorem dX2_place_24 : decode cX2_place 24 = .ok (.if_icmp .gt 4, 3) := by decide +kernel
theorem dX2_place_27 : decode cX2_place 27 = .ok (.return_, 1) := by decide +kernel
theorem dX2_place_28 : decode cX2_place 28 = .ok (.aload_n 0, 1) := by decide +kernel
theorem dX2_place_29 : decode cX2_place 29 = .ok (.getfield 25, 3) := by decide +kernel
theorem dX2_place_32 : decode cX2_place 32 = .ok (.iload 4, 2) := by decide +kernel
theorem dX2_place_34 : decode cX2_place 34 = .ok (.iload 5, 2) := by decide +kernel
theorem dX2_place_36 : decode cX2_place 36 = .ok (.iastore, 1) := by decide +kernel
theorem dX2_place_37 : decode cX2_place 37 = .ok (.iload 4, 2) := by decide +kernel
theorem dX2_place_39 : decode cX2_place 39 = .ok (.ifCond .eq 9, 3) := by decide +kernel
theorem dX2_place_42 : decode cX2_place 42 = .ok (.iload_n 3, 1) := by decide +kernel
theorem dX2_place_43 : decode cX2_place 43 = .ok (.bipush 6, 2) := by decide +kernel
theorem dX2_place_45 : decode cX2_place 45 = .ok (.if_icmp .lt 10, 3) := by decide +kernel
theorem dX2_place_48 : decode cX2_place 48 = .ok (.aload_n 0, 1) := by decide +kernel
theorem dX2_place_49 : decode cX2_place 49 = .ok (.iload 5, 2) := by decide +kernel
theorem dX2_place_51 : decode cX2_place 51 = .ok (.invokevirtual 52, 3) := by decide +kernel
theorem dX2_place_54 : decode cX2_place 54 = .ok (.return_, 1) := by decide +kernel
theorem dX2_place_55 : decode cX2_place 55 = .ok (.iconst 0, 1) := by decide +kernel
theorem dX2_place_56 : decode cX2_place 56 = .ok (.istore 6, 2) := by decide +kernel
theorem dX2_place_58 : decode cX2_place 58 = .ok (.iload 6, 2) := by decide +kernel
theorem dX2_place_60 : decode cX2_place 60 = .ok (.aload_n 1, 1) := by decide +kernel
theorem dX2_place_61 : decode cX2_place 61 = .ok (.getfield 56, 3) := by decide +kernel
theorem dX2_place_64 : decode cX2_place 64 = .ok (.if_icmp .ge 56, 3) := by decide +kernel
theorem dX2_place_67 : decode cX2_place 67 = .ok (.iload 4, 2) := by decide +kernel
theorem dX2_place_69 : decode cX2_place 69 = .ok (.iload 6, 2) := by decide +kernel
theorem dX2_place_71 : decode cX2_place 71 = .ok (.ishr, 1) := by decide +kernel
theorem dX2_place_72 : decode cX2_place 72 = .ok (.iconst 1, 1) := by decide +kernel
theorem dX2_place_73 : decode cX2_place 73 = .ok (.iand, 1) := by decide +kernel
theorem dX2_place_74 : decode cX2_place 74 = .ok (.ifCond .eq 40, 3) := by decide +kernel
theorem dX2_place_77 : decode cX2_place 77 = .ok (.aload_n 0, 1) := by decide +kernel
theorem dX2_place_78 : decode cX2_place 78 = .ok (.getfield 18, 3) := by decide +kernel
theorem dX2_place_81 : decode cX2_place 81 = .ok (.iload_n 3, 1) := by decide +kernel
theorem dX2_place_82 : decode cX2_place 82 = .ok (.iload 6, 2) := by decide +kernel
theorem dX2_place_84 : decode cX2_place 84 = .ok (.iastore, 1) := by decide +kernel
theorem dX2_place_85 : decode cX2_place 85 = .ok (.aload_n 0, 1) := by decide +kernel
theorem dX2_place_86 : decode cX2_place 86 = .ok (.aload_n 1, 1) := by decide +kernel
theorem dX2_place_87 : decode cX2_place 87 = .ok (.aload_n 2, 1) := by decide +kernel
theorem dX2_place_88 : decode cX2_place 88 = .ok (.iload_n 3, 1) := by decide +kernel
theorem dX2_place_89 : decode cX2_place 89 = .ok (.iconst 1, 1) := by decide +kernel
theorem dX2_place_90 : decode cX2_place 90 = .ok (.iadd, 1) := by decide +kernel
theorem dX2_place_91 : decode cX2_place 91 = .ok (.iload 4, 2) := by decide +kernel
theorem dX2_place_93 : decode cX2_place 93 = .ok (.iconst 1, 1) := by decide +kernel
theorem dX2_place_94 : decode cX2_place 94 = .ok (.iload 6, 2) := by decide +kernel
theorem dX2_place_96 : decode cX2_place 96 = .ok (.ishl, 1) := by decide +kernel
theorem dX2_place_97 : decode cX2_place 97 = .ok (.iconst (-1), 1) := by decide +kernel
theorem dX2_place_98 : decode cX2_place 98 = .ok (.ixor, 1) := by decide +kernel
theorem dX2_place_99 : decode cX2_place 99 = .ok (.iand, 1) := by decide +kernel
theorem dX2_place_100 : decode cX2_place 100 = .ok (.aload_n 0, 1) := by decide +kernel
theorem dX2_place_101 : decode cX2_place 101 = .ok (.aload_n 1, 1) := by decide +kernel
theorem dX2_place_102 : decode cX2_place 102 = .ok (.aload_n 2, 1) := by decide +kernel
theorem dX2_place_103 : decode cX2_place 103 = .ok (.iload_n 3, 1) := by decide +kernel
theorem dX2_place_104 : decode cX2_place 104 = .ok (.iload 6, 2) := by decide +kernel
theorem dX2_place_106 : decode cX2_place 106 = .ok (.iload 5, 2) := by decide +kernel
theorem dX2_place_108 : decode cX2_place 108 = .ok (.invokevirtual 61, 3) := by decide +kernel
theorem dX2_place_111 : decode cX2_place 111 = .ok (.invokevirtual 40, 3) := by decide +kernel
theorem dX2_place_114 : decode cX2_place 114 = .ok (.iinc 6 1, 3) := by decide +kernel
theorem dX2_place_117 : decode cX2_place 117 = .ok (.goto (-59), 3) := by decide +kernel
theorem dX2_place_120 : decode cX2_place 120 = .ok (.return_, 1) := by decide +kernel
set_option maxRecDepth 20000 in
theorem ggX2_heatBehind_X6_frostOn : GoodIn wsX2_heatBehind wsX6_frostOn := goodIn_r _ [14, 15, 16, 17, 67, 68, 69, 70, 71, 72, 73, 74, 75, 76, 77] (by decide +kernel) (by decide +kernel)
set_option maxRecDepth 20000 in
theorem gX2_heatBehind_X6_frostOn : GoodIn wsX2_heatBehind (wsV RX2 65 RX6 yX6_frostOn wsX6_frostOn) := goodIn_app (goodIn_of _ (by decide +kernel)) ggX2_heatBehind_X6_frostOn
set_option maxRecDepth 20000 in
theorem ggX2_heatBehind_X4_begin : GoodIn wsX2_heatBehind wsX4_begin := goodIn_r _ [22, 23, 24, 65, 66] (by decide +kernel) (by decide +kernel)
set_option maxRecDepth 20000 in
theorem gX2_heatBehind_X4_begin : GoodIn wsX2_heatBehind (wsV RX2 78 RX4 yX4_begin wsX4_begin) := goodIn_app (goodIn_of _ (by decide +kernel)) ggX2_heatBehind_X4_begin
set_option maxRecDepth 20000 in
theorem ggX2_heatBehind_X4_passMinute : GoodIn wsX2_heatBehind wsX4_passMinute := goodIn_r _ [28, 23, 24, 29, 30, 6, 31, 32, 33, 34, 13, 35, 36, 37, 38, 39, 40, 15, 41, 42, 5, 7, 43, 44, 45, 46, 47, 11, 12, 14, 16, 17, 65, 66, 67, 68, 69, 70, 71, 72, 73, 74, 75, 76, 77] (by decide +kernel) (by decide +kernel)
set_option maxRecDepth 20000 in
theorem gX2_heatBehind_X4_passMinute : GoodIn wsX2_heatBehind (wsV RX2 82 RX4 yX4_passMinute wsX4_passMinute) := goodIn_app (goodIn_of _ (by decide +kernel)) ggX2_heatBehind_X4_passMinute
theorem dX2_heatBehind_0 : decode cX2_heatBehind 0 = .ok (.iload_n 3, 1) := by decide +kernel
theorem dX2_heatBehind_1 : decode cX2_heatBehind 1 = .ok (.aload_n 0, 1) := by decide +kernel
theorem dX2_heatBehind_2 : decode cX2_heatBehind 2 = .ok (.getfield 32, 3) := by decide +kernel
theorem dX2_heatBehind_5 : decode cX2_heatBehind 5 = .ok (.imul, 1) := by decide +kernel
theorem dX2_heatBehind_6 : decode cX2_heatBehind 6 = .ok (.aload_n 1, 1) := by decide +kernel
theorem dX2_heatBehind_7 : decode cX2_heatBehind 7 = .ok (.iload 4, 2) := by decide +kernel
theorem dX2_heatBehind_9 : decode cX2_heatBehind 9 = .ok (.iconst 0, 1) := by decide +kernel
theorem dX2_heatBehind_10 : decode cX2_heatBehind 10 = .ok (.invokevirtual 65, 3) := by decide +kernel
theorem dX2_heatBehind_13 : decode cX2_heatBehind 13 = .ok (.imul, 1) := by decide +kernel
theorem dX2_heatBehind_14 : decode cX2_heatBehind 14 = .ok (.istore 6, 2) := by decide +kernel
theorem dX2_heatBehind_16 : decode cX2_heatBehind 16 = .ok (.aload_n 0, 1) := by decide +kernel
theorem dX2_heatBehind_17 : decode cX2_heatBehind 17 = .ok (.getfield 12, 3) := by decide +kernel
theorem dX2_heatBehind_20 : decode cX2_heatBehind 20 = .ok (.iconst 0, 1) := by decide +kernel
theorem dX2_heatBehind_21 : decode cX2_heatBehind 21 = .ok (.aload_n 2, 1) := by decide +kernel
theorem dX2_heatBehind_22 : decode cX2_heatBehind 22 = .ok (.getfield 69, 3) := by decide +kernel
theorem dX2_heatBehind_25 : decode cX2_heatBehind 25 = .ok (.iload 4, 2) := by decide +kernel
theorem dX2_heatBehind_27 : decode cX2_heatBehind 27 = .ok (.iaload, 1) := by decide +kernel
theorem dX2_heatBehind_28 : decode cX2_heatBehind 28 = .ok (.iload 6, 2) := by decide +kernel
theorem dX2_heatBehind_30 : decode cX2_heatBehind 30 = .ok (.isub, 1) := by decide +kernel
theorem dX2_heatBehind_31 : decode cX2_heatBehind 31 = .ok (.invokestatic 72, 3) := by decide +kernel
theorem dX2_heatBehind_34 : decode cX2_heatBehind 34 = .ok (.iload 5, 2) := by decide +kernel
theorem dX2_heatBehind_36 : decode cX2_heatBehind 36 = .ok (.invokevirtual 78, 3) := by decide +kernel
theorem dX2_heatBehind_39 : decode cX2_heatBehind 39 = .ok (.iconst 0, 1) := by decide +kernel
theorem dX2_heatBehind_40 : decode cX2_heatBehind 40 = .ok (.istore 7, 2) := by decide +kernel
theorem dX2_heatBehind_42 : decode cX2_heatBehind 42 = .ok (.iload 7, 2) := by decide +kernel
theorem dX2_heatBehind_44 : decode cX2_heatBehind 44 = .ok (.aload_n 0, 1) := by decide +kernel
theorem dX2_heatBehind_45 : decode cX2_heatBehind 45 = .ok (.getfield 32, 3) := by decide +kernel
theorem dX2_heatBehind_48 : decode cX2_heatBehind 48 = .ok (.if_icmp .ge 23, 3) := by decide +kernel
theorem dX2_heatBehind_51 : decode cX2_heatBehind 51 = .ok (.aload_n 0, 1) := by decide +kernel
theorem dX2_heatBehind_52 : decode cX2_heatBehind 52 = .ok (.getfield 12, 3) := by decide +kernel
theorem dX2_heatBehind_55 : decode cX2_heatBehind 55 = .ok (.aload_n 1, 1) := by decide +kernel
theorem dX2_heatBehind_56 : decode cX2_heatBehind 56 = .ok (.iload 4, 2) := by decide +kernel
theorem dX2_heatBehind_58 : decode cX2_heatBehind 58 = .ok (.aload_n 0, 1) := by decide +kernel
theorem dX2_heatBehind_59 : decode cX2_heatBehind 59 = .ok (.getfield 28, 3) := by decide +kernel
theorem dX2_heatBehind_62 : decode cX2_heatBehind 62 = .ok (.invokevirtual 82, 3) := by decide +kernel
theorem dX2_heatBehind_65 : decode cX2_heatBehind 65 = .ok (.iinc 7 1, 3) := by decide +kernel
theorem dX2_heatBehind_68 : decode cX2_heatBehind 68 = .ok (.goto (-26), 3) := by decide +kernel
theorem dX2_heatBehind_71 : decode cX2_heatBehind 71 = .ok (.aload_n 0, 1) := by decide +kernel
theorem dX2_heatBehind_72 : decode cX2_heatBehind 72 = .ok (.getfield 12, 3) := by decide +kernel
theorem dX2_heatBehind_75 : decode cX2_heatBehind 75 = .ok (.getfield 86, 3) := by decide +kernel
theorem dX2_heatBehind_78 : decode cX2_heatBehind 78 = .ok (.ireturn, 1) := by decide +kernel
theorem dX2_keepBest_0 : decode cX2_keepBest 0 = .ok (.aload_n 0, 1) := by decide +kernel
theorem dX2_keepBest_1 : decode cX2_keepBest 1 = .ok (.iload_n 1, 1) := by decide +kernel
theorem dX2_keepBest_2 : decode cX2_keepBest 2 = .ok (.putfield 44, 3) := by decide +kernel
theorem dX2_keepBest_5 : decode cX2_keepBest 5 = .ok (.aload_n 0, 1) := by decide +kernel
theorem dX2_keepBest_6 : decode cX2_keepBest 6 = .ok (.getfield 18, 3) := by decide +kernel
theorem dX2_keepBest_9 : decode cX2_keepBest 9 = .ok (.iconst 0, 1) := by decide +kernel
theorem dX2_keepBest_10 : decode cX2_keepBest 10 = .ok (.aload_n 0, 1) := by decide +kernel
theorem dX2_keepBest_11 : decode cX2_keepBest 11 = .ok (.getfield 22, 3) := by decide +kernel
theorem dX2_keepBest_14 : decode cX2_keepBest 14 = .ok (.iconst 0, 1) := by decide +kernel
theorem dX2_keepBest_15 : decode cX2_keepBest 15 = .ok (.bipush 6, 2) := by decide +kernel
theorem dX2_keepBest_17 : decode cX2_keepBest 17 = .ok (.invokestatic 88, 3) := by decide +kernel
theorem dX2_keepBest_20 : decode cX2_keepBest 20 = .ok (.return_, 1) := by decide +kernel
set_option maxRecDepth 20000 in
theorem ggX3_init_X4_init : GoodIn wsX3_init wsX4_init := goodIn_r _ [14, 15, 2, 3] (by decide +kernel) (by decide +kernel)
set_option maxRecDepth 20000 in
theorem gX3_init_X4_init_n11 : GoodIn wsX3_init (wsX4_init) := ggX3_init_X4_init
theorem dX3_init_0 : decode cX3_init 0 = .ok (.aload_n 0, 1) := by decide +kernel
theorem dX3_init_1 : decode cX3_init 1 = .ok (.invokespecial 3, 3) := by decide +kernel
theorem dX3_init_4 : decode cX3_init 4 = .ok (.aload_n 0, 1) := by decide +kernel
theorem dX3_init_5 : decode cX3_init 5 = .ok (.new 9, 3) := by decide +kernel
theorem dX3_init_8 : decode cX3_init 8 = .ok (.dup, 1) := by decide +kernel
theorem dX3_init_9 : decode cX3_init 9 = .ok (.invokespecial 11, 3) := by decide +kernel
theorem dX3_init_12 : decode cX3_init 12 = .ok (.putfield 12, 3) := by decide +kernel
theorem dX3_init_15 : decode cX3_init 15 = .ok (.aload_n 0, 1) := by decide +kernel
theorem dX3_init_16 : decode cX3_init 16 = .ok (.bipush 40, 2) := by decide +kernel
theorem dX3_init_18 : decode cX3_init 18 = .ok (.newarray .int, 2) := by decide +kernel
theorem dX3_init_20 : decode cX3_init 20 = .ok (.putfield 18, 3) := by decide +kernel
theorem dX3_init_23 : decode cX3_init 23 = .ok (.aload_n 0, 1) := by decide +kernel
theorem dX3_init_24 : decode cX3_init 24 = .ok (.bipush 40, 2) := by decide +kernel
theorem dX3_init_26 : decode cX3_init 26 = .ok (.newarray .int, 2) := by decide +kernel
theorem dX3_init_28 : decode cX3_init 28 = .ok (.putfield 22, 3) := by decide +kernel
theorem dX3_init_31 : decode cX3_init 31 = .ok (.aload_n 0, 1) := by decide +kernel
theorem dX3_init_32 : decode cX3_init 32 = .ok (.iconst 4, 1) := by decide +kernel
theorem dX3_init_33 : decode cX3_init 33 = .ok (.newarray .int, 2) := by decide +kernel
theorem dX3_init_35 : decode cX3_init 35 = .ok (.putfield 25, 3) := by decide +kernel
theorem dX3_init_38 : decode cX3_init 38 = .ok (.aload_n 0, 1) := by decide +kernel
theorem dX3_init_39 : decode cX3_init 39 = .ok (.iconst 4, 1) := by decide +kernel
theorem dX3_init_40 : decode cX3_init 40 = .ok (.newarray .int, 2) := by decide +kernel
theorem dX3_init_42 : decode cX3_init 42 = .ok (.putfield 28, 3) := by decide +kernel
theorem dX3_init_45 : decode cX3_init 45 = .ok (.return_, 1) := by decide +kernel
set_option maxRecDepth 20000 in
theorem ggX3_search_X3_trySeat : GoodIn wsX3_search wsX3_trySeat := goodIn_r _ [8, 9, 10, 11, 12, 13, 14, 15, 16, 17, 18, 19, 20, 21, 22, 23, 24, 25, 26, 27, 28, 29, 30, 31, 32, 33, 34, 35, 36, 37, 38, 39, 40, 41, 42, 43, 44, 45, 46, 47, 48, 49, 50, 51, 52, 53, 54, 55, 56, 57, 7, 58, 86, 87, 88, 89, 90, 91, 92, 93, 94, 95, 96, 97, 98, 99, 100, 101, 102, 103, 104, 75, 76, 77, 78, 79, 80, 81, 82, 83, 84, 85] (by decide +kernel) (by decide +kernel)
set_option maxRecDepth 20000 in
theorem gX3_search_X3_trySeat : GoodIn wsX3_search (wsV RX3 40 RX3 yX3_trySeat wsX3_trySeat) := goodIn_app (goodIn_of _ (by decide +kernel)) ggX3_search_X3_trySeat
set_option maxRecDepth 20000 in
theorem ggX3_search_X3_choose : GoodIn wsX3_search wsX3_choose := goodIn_r _ [62, 1, 2, 63, 14, 15, 64, 28, 29, 30, 65, 66, 67, 7, 68, 3, 69, 70, 71, 72, 73, 74, 56, 57, 58, 59, 60, 61, 75, 76, 77, 78, 79, 80, 81, 82, 83, 84, 85, 86, 87, 88, 89, 90, 91, 92] (by decide +kernel) (by decide +kernel)
set_option maxRecDepth 20000 in
theorem gX3_search_X3_choose : GoodIn wsX3_search (wsV RX3 47 RX3 yX3_choose wsX3_choose) := goodIn_app (goodIn_of _ (by decide +kernel)) ggX3_search_X3_choose
theorem dX3_search_0 : decode cX3_search 0 = .ok (.iconst 0, 1) := by decide +kernel
theorem dX3_search_1 : decode cX3_search 1 = .ok (.istore 4, 2) := by decide +kernel
theorem dX3_search_3 : decode cX3_search 3 = .ok (.iload 4, 2) := by decide +kernel
theorem dX3_search_5 : decode cX3_search 5 = .ok (.aload_n 1, 1) := by decide +kernel
theorem dX3_search_6 : decode cX3_search 6 = .ok (.getfield 31, 3) := by decide +kernel
theorem dX3_search_9 : decode cX3_search 9 = .ok (.if_icmp .ge 44, 3) := by decide +kernel
theorem dX3_search_12 : decode cX3_search 12 = .ok (.iload 4, 2) := by decide +kernel
theorem dX3_search_14 : decode cX3_search 14 = .ok (.iconst 4, 1) := by decide +kernel
theorem dX3_search_15 : decode cX3_search 15 = .ok (.if_icmp .ge 38, 3) := by decide +kernel
theorem dX3_search_18 : decode cX3_search 18 = .ok (.iconst (-1), 1) := by decide +kernel
theorem dX3_search_19 : decode cX3_search 19 = .ok (.istore 5, 2) := by decide +kernel
theorem dX3_search_21 : decode cX3_search 21 = .ok (.iload 5, 2) := by decide +kernel
theorem dX3_search_23 : decode cX3_search 23 = .ok (.aload_n 1, 1) := by decide +kernel
theorem dX3_search_24 : decode cX3_search 24 = .ok (.getfield 37, 3) := by decide +kernel
theorem dX3_search_27 : decode cX3_search 27 = .ok (.if_icmp .ge 20, 3) := by decide +kernel
theorem dX3_search_30 : decode cX3_search 30 = .ok (.aload_n 0, 1) := by decide +kernel
theorem dX3_search_31 : decode cX3_search 31 = .ok (.aload_n 1, 1) := by decide +kernel
theorem dX3_search_32 : decode cX3_search 32 = .ok (.aload_n 2, 1) := by decide +kernel
theorem dX3_search_33 : decode cX3_search 33 = .ok (.iload_n 3, 1) := by decide +kernel
theorem dX3_search_34 : decode cX3_search 34 = .ok (.iload 4, 2) := by decide +kernel
theorem dX3_search_36 : decode cX3_search 36 = .ok (.iload 5, 2) := by decide +kernel
theorem dX3_search_38 : decode cX3_search 38 = .ok (.invokevirtual 40, 3) := by decide +kernel
theorem dX3_search_41 : decode cX3_search 41 = .ok (.iinc 5 1, 3) := by decide +kernel
theorem dX3_search_44 : decode cX3_search 44 = .ok (.goto (-23), 3) := by decide +kernel
theorem dX3_search_47 : decode cX3_search 47 = .ok (.iinc 4 1, 3) := by decide +kernel
theorem dX3_search_50 : decode cX3_search 50 = .ok (.goto (-47), 3) := by decide +kernel
theorem dX3_search_53 : decode cX3_search 53 = .ok (.aload_n 0, 1) := by decide +kernel
theorem dX3_search_54 : decode cX3_search 54 = .ok (.sipush 241, 3) := by decide +kernel
theorem dX3_search_57 : decode cX3_search 57 = .ok (.putfield 44, 3) := by decide +kernel
theorem dX3_search_60 : decode cX3_search 60 = .ok (.aload_n 0, 1) := by decide +kernel
theorem dX3_search_61 : decode cX3_search 61 = .ok (.aload_n 1, 1) := by decide +kernel
theorem dX3_search_62 : decode cX3_search 62 = .ok (.iconst 0, 1) := by decide +kernel
theorem dX3_search_63 : decode cX3_search 63 = .ok (.iconst 0, 1) := by decide +kernel
theorem dX3_search_64 : decode cX3_search 64 = .ok (.iconst 0, 1) := by decide +kernel
theorem dX3_search_65 : decode cX3_search 65 = .ok (.sipush 9999, 3) := by decide +kernel
theorem dX3_search_68 : decode cX3_search 68 = .ok (.invokevirtual 47, 3) := by decide +kernel
theorem dX3_search_71 : decode cX3_search 71 = .ok (.return_, 1) := by decide +kernel
set_option maxRecDepth 20000 in
theorem ggX3_answer_X7_within : GoodIn wsX3_answer wsX7_within := goodIn_r _ [7] (by decide +kernel) (by decide +kernel)
set_option maxRecDepth 20000 in
theorem gX3_answer_X7_within_n54 : GoodIn wsX3_answer (wsX7_within) := ggX3_answer_X7_within
theorem dX3_answer_0 : decode cX3_answer 0 = .ok (.iload_n 1, 1) := by decide +kernel
theorem dX3_answer_1 : decode cX3_answer 1 = .ok (.ifCond .ne 8, 3) := by decide +kernel
theorem dX3_answer_4 : decode cX3_answer 4 = .ok (.aload_n 0, 1) := by decide +kernel
theorem dX3_answer_5 : decode cX3_answer 5 = .ok (.getfield 44, 3) := by decide +kernel
theorem dX3_answer_8 : decode cX3_answer 8 = .ok (.ireturn, 1) := by decide +kernel
theorem dX3_answer_9 : decode cX3_answer 9 = .ok (.iload_n 1, 1) := by decide +kernel
theorem dX3_answer_10 : decode cX3_answer 10 = .ok (.iconst 1, 1) := by decide +kernel
theorem dX3_answer_11 : decode cX3_answer 11 = .ok (.if_icmp .ne 8, 3) := by decide +kernel
theorem dX3_answer_14 : decode cX3_answer 14 = .ok (.aload_n 0, 1) := by decide +kernel
theorem dX3_answer_15 : decode cX3_answer 15 = .ok (.getfield 51, 3) := by decide +kernel
theorem dX3_answer_18 : decode cX3_answer 18 = .ok (.ireturn, 1) := by decide +kernel
theorem dX3_answer_19 : decode cX3_answer 19 = .ok (.iload_n 1, 1) := by decide +kernel
theorem dX3_answer_20 : decode cX3_answer 20 = .ok (.iconst 2, 1) := by decide +kernel
theorem dX3_answer_21 : decode cX3_answer 21 = .ok (.isub, 1) := by decide +kernel
theorem dX3_answer_22 : decode cX3_answer 22 = .ok (.iconst 0, 1) := by decide +kernel
theorem dX3_answer_23 : decode cX3_answer 23 = .ok (.iconst 3, 1) := by decide +kernel
theorem dX3_answer_24 : decode cX3_answer 24 = .ok (.invokestatic 54, 3) := by decide +kernel
theorem dX3_answer_27 : decode cX3_answer 27 = .ok (.ifCond .eq 14, 3) := by decide +kernel
theorem dX3_answer_30 : decode cX3_answer 30 = .ok (.aload_n 0, 1) := by decide +kernel
theorem dX3_answer_31 : decode cX3_answer 31 = .ok (.getfield 28, 3) := by decide +kernel
theorem dX3_answer_34 : decode cX3_answer 34 = .ok (.iload_n 1, 1) := by decide +kernel
theorem dX3_answer_35 : decode cX3_answer 35 = .ok (.iconst 2, 1) := by decide +kernel
theorem dX3_answer_36 : decode cX3_answer 36 = .ok (.isub, 1) := by decide +kernel
theorem dX3_answer_37 : decode cX3_answer 37 = .ok (.iaload, 1) := by decide +kernel
theorem dX3_answer_38 : decode cX3_answer 38 = .ok (.goto 5, 3) := by decide +kernel
theorem dX3_answer_41 : decode cX3_answer 41 = .ok (.ldc 58, 2) := by decide +kernel
theorem dX3_answer_43 : decode cX3_answer 43 = .ok (.ireturn, 1) := by decide +kernel
set_option maxRecDepth 20000 in
theorem ggX3_trySeat_X4_begin : GoodIn wsX3_trySeat wsX4_begin := goodIn_r _ [12, 13, 14, 69, 70] (by decide +kernel) (by decide +kernel)
set_option maxRecDepth 20000 in
theorem gX3_trySeat_X4_begin : GoodIn wsX3_trySeat (wsV RX3 67 RX4 yX4_begin wsX4_begin) := goodIn_app (goodIn_of _ (by decide +kernel)) ggX3_trySeat_X4_begin
set_option maxRecDepth 20000 in
theorem ggX3_trySeat_X4_passMinute : GoodIn wsX3_trySeat wsX4_passMinute := goodIn_r _ [18, 13, 14, 19, 20, 21, 22, 23, 24, 25, 26, 27, 28, 29, 30, 31, 32, 33, 34, 35, 36, 37, 38, 39, 40, 41, 42, 43, 44, 45, 46, 47, 69, 70, 71, 72, 73, 74, 75, 76, 77, 78, 79, 80, 81] (by decide +kernel) (by decide +kernel)
set_option maxRecDepth 20000 in
theorem gX3_trySeat_X4_passMinute : GoodIn wsX3_trySeat (wsV RX3 71 RX4 yX4_passMinute wsX4_passMinute) := goodIn_app (goodIn_of _ (by decide +kernel)) ggX3_trySeat_X4_passMinute
set_option maxRecDepth 20000 in
theorem ggX3_trySeat_X3_seatAt : GoodIn wsX3_trySeat wsX3_seatAt := goodIn_r _ [51] (by decide +kernel) (by decide +kernel)
set_option maxRecDepth 20000 in
theorem gX3_trySeat_X3_seatAt : GoodIn wsX3_trySeat (va_wsS RX3 80 yX3_seatAt wsX3_seatAt) := goodIn_app (goodIn_of _ (by decide +kernel)) ggX3_trySeat_X3_seatAt
theorem dX3_trySeat_0 : decode cX3_trySeat 0 = .ok (.aload_n 0, 1) := by decide +kernel
theorem dX3_trySeat_1 : decode cX3_trySeat 1 = .ok (.getfield 12, 3) := by decide +kernel
theorem dX3_trySeat_4 : decode cX3_trySeat 4 = .ok (.aload_n 2, 1) := by decide +kernel
theorem dX3_trySeat_5 : decode cX3_trySeat 5 = .ok (.getfield 59, 3) := by decide +kernel
theorem dX3_trySeat_8 : decode cX3_trySeat 8 = .ok (.iload 4, 2) := by decide +kernel
theorem dX3_trySeat_10 : decode cX3_trySeat 10 = .ok (.iaload, 1) := by decide +kernel
theorem dX3_trySeat_11 : decode cX3_trySeat 11 = .ok (.iload 5, 2) := by decide +kernel
theorem dX3_trySeat_13 : decode cX3_trySeat 13 = .ok (.iconst (-1), 1) := by decide +kernel
theorem dX3_trySeat_14 : decode cX3_trySeat 14 = .ok (.if_icmp .ne 7, 3) := by decide +kernel
theorem dX3_trySeat_17 : decode cX3_trySeat 17 = .ok (.iconst 0, 1) := by decide +kernel
theorem dX3_trySeat_18 : decode cX3_trySeat 18 = .ok (.goto 10, 3) := by decide +kernel
theorem dX3_trySeat_21 : decode cX3_trySeat 21 = .ok (.aload_n 2, 1) := by decide +kernel
theorem dX3_trySeat_22 : decode cX3_trySeat 22 = .ok (.getfield 64, 3) := by decide +kernel
theorem dX3_trySeat_25 : decode cX3_trySeat 25 = .ok (.iload 5, 2) := by decide +kernel
theorem dX3_trySeat_27 : decode cX3_trySeat 27 = .ok (.iaload, 1) := by decide +kernel
theorem dX3_trySeat_28 : decode cX3_trySeat 28 = .ok (.invokevirtual 67, 3) := by decide +kernel
theorem dX3_trySeat_31 : decode cX3_trySeat 31 = .ok (.iconst 0, 1) := by decide +kernel
theorem dX3_trySeat_32 : decode cX3_trySeat 32 = .ok (.istore 6, 2) := by decide +kernel
theorem dX3_trySeat_34 : decode cX3_trySeat 34 = .ok (.iconst 0, 1) := by decide +kernel
theorem dX3_trySeat_35 : decode cX3_trySeat 35 = .ok (.istore 7, 2) := by decide +kernel
theorem dX3_trySeat_37 : decode cX3_trySeat 37 = .ok (.iload 7, 2) := by decide +kernel
theorem dX3_trySeat_39 : decode cX3_trySeat 39 = .ok (.iload_n 3, 1) := by decide +kernel
theorem dX3_trySeat_40 : decode cX3_trySeat 40 = .ok (.if_icmp .ge 41, 3) := by decide +kernel
theorem dX3_trySeat_43 : decode cX3_trySeat 43 = .ok (.aload_n 0, 1) := by decide +kernel
theorem dX3_trySeat_44 : decode cX3_trySeat 44 = .ok (.getfield 12, 3) := by decide +kernel
theorem dX3_trySeat_47 : decode cX3_trySeat 47 = .ok (.aload_n 1, 1) := by decide +kernel
theorem dX3_trySeat_48 : decode cX3_trySeat 48 = .ok (.iload 4, 2) := by decide +kernel
theorem dX3_trySeat_50 : decode cX3_trySeat 50 = .ok (.iload 5, 2) := by decide +kernel
theorem dX3_trySeat_52 : decode cX3_trySeat 52 = .ok (.invokevirtual 71, 3) := by decide +kernel
theorem dX3_trySeat_55 : decode cX3_trySeat 55 = .ok (.aload_n 0, 1) := by decide +kernel
theorem dX3_trySeat_56 : decode cX3_trySeat 56 = .ok (.getfield 12, 3) := by decide +kernel
theorem dX3_trySeat_59 : decode cX3_trySeat 59 = .ok (.getfield 75, 3) := by decide +kernel
theorem dX3_trySeat_62 : decode cX3_trySeat 62 = .ok (.aload_n 1, 1) := by decide +kernel
theorem dX3_trySeat_63 : decode cX3_trySeat 63 = .ok (.getfield 77, 3) := by decide +kernel
theorem dX3_trySeat_66 : decode cX3_trySeat 66 = .ok (.iload 4, 2) := by decide +kernel
theorem dX3_trySeat_68 : decode cX3_trySeat 68 = .ok (.iaload, 1) := by decide +kernel
theorem dX3_trySeat_69 : decode cX3_trySeat 69 = .ok (.if_icmp .ge 6, 3) := by decide +kernel
theorem dX3_trySeat_72 : decode cX3_trySeat 72 = .ok (.iinc 6 1, 3) := by decide +kernel
theorem dX3_trySeat_75 : decode cX3_trySeat 75 = .ok (.iinc 7 1, 3) := by decide +kernel
theorem dX3_trySeat_78 : decode cX3_trySeat 78 = .ok (.goto (-41), 3) := by decide +kernel
theorem dX3_trySeat_81 : decode cX3_trySeat 81 = .ok (.aload_n 0, 1) := by decide +kernel
theorem dX3_trySeat_82 : decode cX3_trySeat 82 = .ok (.getfield 18, 3) := by decide +kernel
theorem dX3_trySeat_85 : decode cX3_trySeat 85 = .ok (.iload 4, 2) := by decide +kernel
theorem dX3_trySeat_87 : decode cX3_trySeat 87 = .ok (.iload 5, 2) := by decide +kernel
theorem dX3_trySeat_89 : decode cX3_trySeat 89 = .ok (.invokestatic 80, 3) := by decide +kernel
theorem dX3_trySeat_92 : decode cX3_trySeat 92 = .ok (.iload 6, 2) := by decide +kernel
theorem dX3_trySeat_94 : decode cX3_trySeat 94 = .ok (.iastore, 1) := by decide +kernel
theorem dX3_trySeat_95 : decode cX3_trySeat 95 = .ok (.aload_n 0, 1) := by decide +kernel
theorem dX3_trySeat_96 : decode cX3_trySeat 96 = .ok (.getfield 22, 3) := by decide +kernel
theorem dX3_trySeat_99 : decode cX3_trySeat 99 = .ok (.iload 4, 2) := by decide +kernel
theorem dX3_trySeat_101 : decode cX3_trySeat 101 = .ok (.iload 5, 2) := by decide +kernel
theorem dX3_trySeat_103 : decode cX3_trySeat 103 = .ok (.invokestatic 80, 3) := by decide +kernel
theorem dX3_trySeat_106 : decode cX3_trySeat 106 = .ok (.aload_n 0, 1) := by decide +kernel
theorem dX3_trySeat_107 : decode cX3_trySeat 107 = .ok (.getfield 12, 3) := by decide +kernel
theorem dX3_trySeat_110 : decode cX3_trySeat 110 = .ok (.getfield 75, 3) := by decide +kernel
theorem dX3_trySeat_113 : decode cX3_trySeat 113 = .ok (.iastore, 1) := by decide +kernel
theorem dX3_trySeat_114 : decode cX3_trySeat 114 = .ok (.return_, 1) := by decide +kernel
theorem dX3_seatAt_0 : decode cX3_seatAt 0 = .ok (.iload_n 0, 1) := by decide +kernel
theorem dX3_seatAt_1 : decode cX3_seatAt 1 = .ok (.bipush 10, 2) := by decide +kernel
theorem dX3_seatAt_3 : decode cX3_seatAt 3 = .ok (.imul, 1) := by decide +kernel
theorem dX3_seatAt_4 : decode cX3_seatAt 4 = .ok (.iload_n 1, 1) := by decide +kernel
theorem dX3_seatAt_5 : decode cX3_seatAt 5 = .ok (.iadd, 1) := by decide +kernel
theorem dX3_seatAt_6 : decode cX3_seatAt 6 = .ok (.iconst 1, 1) := by decide +kernel
theorem dX3_seatAt_7 : decode cX3_seatAt 7 = .ok (.iadd, 1) := by decide +kernel
theorem dX3_seatAt_8 : decode cX3_seatAt 8 = .ok (.ireturn, 1) := by decide +kernel
set_option maxRecDepth 20000 in
theorem ggX3_choose_X3_weigh : GoodIn wsX3_choose wsX3_weigh := goodIn_r _ [14, 15, 16, 3, 17, 18, 19, 20, 21, 39, 40, 41, 42, 43, 44, 45] (by decide +kernel) (by decide +kernel)
set_option maxRecDepth 20000 in
theorem gX3_choose_X3_weigh : GoodIn wsX3_choose (wsV RX3 84 RX3 yX3_weigh wsX3_weigh) := goodIn_app (goodIn_of _ (by decide +kernel)) ggX3_choose_X3_weigh
set_option maxRecDepth 20000 in
theorem ggX3_choose_X3_seatAt : GoodIn wsX3_choose wsX3_seatAt := goodIn_r _ [24] (by decide +kernel) (by decide +kernel)
set_option maxRecDepth 20000 in
theorem gX3_choose_X3_seatAt : GoodIn wsX3_choose (va_wsS RX3 80 yX3_seatAt wsX3_seatAt) := goodIn_app (goodIn_of _ (by decide +kernel)) ggX3_choose_X3_seatAt
set_option maxRecDepth 20000 in
theorem ggX3_choose_X3_choose : GoodIn wsX3_choose wsX3_choose := goodIn_r _ [0, 1, 2, 3, 4, 5, 6, 7, 8, 9, 10, 11, 12, 13, 14, 15, 16, 17, 18, 19, 20, 21, 22, 23, 24, 25, 26, 27, 28, 29, 30, 31, 32, 33, 34, 35, 36, 37, 38, 39, 40, 41, 42, 43, 44, 45] (by decide +kernel) (by decide +kernel)
set_option maxRecDepth 20000 in
theorem gX3_choose_X3_choose : GoodIn wsX3_choose (wsV RX3 47 RX3 yX3_choose wsX3_choose) := goodIn_app (goodIn_of _ (by decide +kernel)) ggX3_choose_X3_choose
theorem dX3_choose_0 : decode cX3_choose 0 = .ok (.iload_n 2, 1) := by decide +kernel
theorem dX3_choose_1 : decode cX3_choose 1 = .ok (.aload_n 1, 1) := by decide +kernel
theorem dX3_choose_2 : decode cX3_choose 2 = .ok (.getfield 31, 3) := by decide +kernel
theorem dX3_choose_5 : decode cX3_choose 5 = .ok (.if_icmp .ge 8, 3) := by decide +kernel
theorem dX3_choose_8 : decode cX3_choose 8 = .ok (.iload_n 2, 1) := by decide +kernel
theorem dX3_choose_9 : decode cX3_choose 9 = .ok (.iconst 4, 1) := by decide +kernel
theorem dX3_choose_10 : decode cX3_choose 10 = .ok (.if_icmp .lt 12, 3) := by decide +kernel
theorem dX3_choose_13 : decode cX3_choose 13 = .ok (.aload_n 0, 1) := by decide +kernel
theorem dX3_choose_14 : decode cX3_choose 14 = .ok (.iload 4, 2) := by decide +kernel
theorem dX3_choose_16 : decode cX3_choose 16 = .ok (.iload 5, 2) := by decide +kernel
theorem dX3_choose_18 : decode cX3_choose 18 = .ok (.invokevirtual 84, 3) := by decide +kernel
theorem dX3_choose_21 : decode cX3_choose 21 = .ok (.return_, 1) := by decide +kernel
theorem dX3_choose_22 : decode cX3_choose 22 = .ok (.iconst (-1), 1) := by decide +kernel
theorem dX3_choose_23 : decode cX3_choose 23 = .ok (.istore 6, 2) := by decide +kernel
theorem dX3_choose_25 : decode cX3_choose 25 = .ok (.iload 6, 2) := by decide +kernel
theorem dX3_choose_27 : decode cX3_choose 27 = .ok (.aload_n 1, 1) := by decide +kernel
theorem dX3_choose_28 : decode cX3_choose 28 = .ok (.getfield 37, 3) := by decide +kernel
theorem dX3_choose_31 : decode cX3_choose 31 = .ok (.if_icmp .ge 82, 3) := by decide +kernel
theorem dX3_choose_34 : decode cX3_choose 34 = .ok (.iload 6, 2) := by decide +kernel
theorem dX3_choose_36 : decode cX3_choose 36 = .ok (.iconst (-1), 1) := by decide +kernel
theorem dX3_choose_37 : decode cX3_choose 37 = .ok (.if_icmp .ne 7, 3) := by decide +kernel
theorem dX3_choose_40 : decode cX3_choose 40 = .ok (.iconst 0, 1) := by decide +kernel
theorem dX3_choose_41 : decode cX3_choose 41 = .ok (.goto 7, 3) := by decide +kernel
theorem dX3_choose_44 : decode cX3_choose 44 = .ok (.iconst 1, 1) := by decide +kernel
theorem dX3_choose_45 : decode cX3_choose 45 = .ok (.iload 6, 2) := by decide +kernel
theorem dX3_choose_47 : decode cX3_choose 47 = .ok (.ishl, 1) := by decide +kernel
theorem dX3_choose_48 : decode cX3_choose 48 = .ok (.istore 7, 2) := by decide +kernel
theorem dX3_choose_50 : decode cX3_choose 50 = .ok (.iload_n 3, 1) := by decide +kernel
theorem dX3_choose_51 : decode cX3_choose 51 = .ok (.iload 7, 2) := by decide +kernel
theorem dX3_choose_53 : decode cX3_choose 53 = .ok (.iand, 1) := by decide +kernel
theorem dX3_choose_54 : decode cX3_choose 54 = .ok (.ifCond .ne 53, 3) := by decide +kernel
theorem dX3_choose_57 : decode cX3_choose 57 = .ok (.iload_n 2, 1) := by decide +kernel
theorem dX3_choose_58 : decode cX3_choose 58 = .ok (.iload 6, 2) := by decide +kernel
theorem dX3_choose_60 : decode cX3_choose 60 = .ok (.invokestatic 80, 3) := by decide +kernel
theorem dX3_choose_63 : decode cX3_choose 63 = .ok (.istore 8, 2) := by decide +kernel
theorem dX3_choose_65 : decode cX3_choose 65 = .ok (.aload_n 0, 1) := by decide +kernel
theorem dX3_choose_66 : decode cX3_choose 66 = .ok (.getfield 25, 3) := by decide +kernel
theorem dX3_choose_69 : decode cX3_choose 69 = .ok (.iload_n 2, 1) := by decide +kernel
theorem dX3_choose_70 : decode cX3_choose 70 = .ok (.iload 6, 2) := by decide +kernel
theorem dX3_choose_72 : decode cX3_choose 72 = .ok (.iastore, 1) := by decide +kernel
theorem dX3_choose_73 : decode cX3_choose 73 = .ok (.aload_n 0, 1) := by decide +kernel
theorem dX3_choose_74 : decode cX3_choose 74 = .ok (.aload_n 1, 1) := by decide +kernel
theorem dX3_choose_75 : decode cX3_choose 75 = .ok (.iload_n 2, 1) := by decide +kernel
theorem dX3_choose_76 : decode cX3_choose 76 = .ok (.iconst 1, 1) := by decide +kernel
theorem dX3_choose_77 : decode cX3_choose 77 = .ok (.iadd, 1) := by decide +kernel
theorem dX3_choose_78 : decode cX3_choose 78 = .ok (.iload_n 3, 1) := by decide +kernel
theorem dX3_choose_79 : decode cX3_choose 79 = .ok (.iload 7, 2) := by decide +kernel
theorem dX3_choose_81 : decode cX3_choose 81 = .ok (.ior, 1) := by decide +kernel
theorem dX3_choose_82 : decode cX3_choose 82 = .ok (.iload 4, 2) := by decide +kernel
theorem dX3_choose_84 : decode cX3_choose 84 = .ok (.aload_n 0, 1) := by decide +kernel
theorem dX3_choose_85 : decode cX3_choose 85 = .ok (.getfield 18, 3) := by decide +kernel
theorem dX3_choose_88 : decode cX3_choose 88 = .ok (.iload 8, 2) := by decide +kernel
theorem dX3_choose_90 : decode cX3_choose 90 = .ok (.iaload, 1) := by decide +kernel
theorem dX3_choose_91 : decode cX3_choose 91 = .ok (.iadd, 1) := by decide +kernel
theorem dX3_choose_92 : decode cX3_choose 92 = .ok (.iload 5, 2) := by decide +kernel
theorem dX3_choose_94 : decode cX3_choose 94 = .ok (.aload_n 0, 1) := by decide +kernel
theorem dX3_choose_95 : decode cX3_choose 95 = .ok (.getfield 22, 3) := by decide +kernel
theorem dX3_choose_98 : decode cX3_choose 98 = .ok (.iload 8, 2) := by decide +kernel
theorem dX3_choose_100 : decode cX3_choose 100 = .ok (.iaload, 1) := by decide +kernel
theorem dX3_choose_101 : decode cX3_choose 101 = .ok (.invokestatic 87, 3) := by decide +kernel
theorem dX3_choose_104 : decode cX3_choose 104 = .ok (.invokevirtual 47, 3) := by decide +kernel
theorem dX3_choose_107 : decode cX3_choose 107 = .ok (.iinc 6 1, 3) := by decide +kernel
theorem dX3_choose_110 : decode cX3_choose 110 = .ok (.goto (-85), 3) := by decide +kernel
theorem dX3_choose_113 : decode cX3_choose 113 = .ok (.return_, 1) := by decide +kernel
theorem dX3_weigh_0 : decode cX3_weigh 0 = .ok (.iload_n 1, 1) := by decide +kernel
theorem dX3_weigh_1 : decode cX3_weigh 1 = .ok (.aload_n 0, 1) := by decide +kernel
theorem dX3_weigh_2 : decode cX3_weigh 2 = .ok (.getfield 44, 3) := by decide +kernel
theorem dX3_weigh_5 : decode cX3_weigh 5 = .ok (.if_icmp .lt 19, 3) := by decide +kernel
theorem dX3_weigh_8 : decode cX3_weigh 8 = .ok (.iload_n 1, 1) := by decide +kernel
theorem dX3_weigh_9 : decode cX3_weigh 9 = .ok (.aload_n 0, 1) := by decide +kernel
theorem dX3_weigh_10 : decode cX3_weigh 10 = .ok (.getfield 44, 3) := by decide +kernel
theorem dX3_weigh_13 : decode cX3_weigh 13 = .ok (.if_icmp .ne 35, 3) := by decide +kernel
theorem dX3_weigh_16 : decode cX3_weigh 16 = .ok (.iload_n 2, 1) := by decide +kernel
theorem dX3_weigh_17 : decode cX3_weigh 17 = .ok (.aload_n 0, 1) := by decide +kernel
theorem dX3_weigh_18 : decode cX3_weigh 18 = .ok (.getfield 51, 3) := by decide +kernel
theorem dX3_weigh_21 : decode cX3_weigh 21 = .ok (.if_icmp .le 27, 3) := by decide +kernel
theorem dX3_weigh_24 : decode cX3_weigh 24 = .ok (.aload_n 0, 1) := by decide +kernel
theorem dX3_weigh_25 : decode cX3_weigh 25 = .ok (.iload_n 1, 1) := by decide +kernel
theorem dX3_weigh_26 : decode cX3_weigh 26 = .ok (.putfield 44, 3) := by decide +kernel
theorem dX3_weigh_29 : decode cX3_weigh 29 = .ok (.aload_n 0, 1) := by decide +kernel
theorem dX3_weigh_30 : decode cX3_weigh 30 = .ok (.iload_n 2, 1) := by decide +kernel
theorem dX3_weigh_31 : decode cX3_weigh 31 = .ok (.putfield 51, 3) := by decide +kernel
theorem dX3_weigh_34 : decode cX3_weigh 34 = .ok (.aload_n 0, 1) := by decide +kernel
theorem dX3_weigh_35 : decode cX3_weigh 35 = .ok (.getfield 25, 3) := by decide +kernel
theorem dX3_weigh_38 : decode cX3_weigh 38 = .ok (.iconst 0, 1) := by decide +kernel
theorem dX3_weigh_39 : decode cX3_weigh 39 = .ok (.aload_n 0, 1) := by decide +kernel
theorem dX3_weigh_40 : decode cX3_weigh 40 = .ok (.getfield 28, 3) := by decide +kernel
theorem dX3_weigh_43 : decode cX3_weigh 43 = .ok (.iconst 0, 1) := by decide +kernel
theorem dX3_weigh_44 : decode cX3_weigh 44 = .ok (.iconst 4, 1) := by decide +kernel
theorem dX3_weigh_45 : decode cX3_weigh 45 = .ok (.invokestatic 92, 3) := by decide +kernel
theorem dX3_weigh_48 : decode cX3_weigh 48 = .ok (.return_, 1) := by decide +kernel
theorem dX4_init_0 : decode cX4_init 0 = .ok (.aload_n 0, 1) := by decide +kernel
theorem dX4_init_1 : decode cX4_init 1 = .ok (.invokespecial 1, 3) := by decide +kernel
theorem dX4_init_4 : decode cX4_init 4 = .ok (.return_, 1) := by decide +kernel
theorem dX4_begin_0 : decode cX4_begin 0 = .ok (.aload_n 0, 1) := by decide +kernel
theorem dX4_begin_1 : decode cX4_begin 1 = .ok (.iload_n 1, 1) := by decide +kernel
theorem dX4_begin_2 : decode cX4_begin 2 = .ok (.putfield 7, 3) := by decide +kernel
theorem dX4_begin_5 : decode cX4_begin 5 = .ok (.aload_n 0, 1) := by decide +kernel
theorem dX4_begin_6 : decode cX4_begin 6 = .ok (.iload_n 2, 1) := by decide +kernel
theorem dX4_begin_7 : decode cX4_begin 7 = .ok (.putfield 13, 3) := by decide +kernel
theorem dX4_begin_10 : decode cX4_begin 10 = .ok (.return_, 1) := by decide +kernel
set_option maxRecDepth 20000 in
theorem ggX4_passMinute_X6_hasStone : GoodIn wsX4_passMinute wsX6_hasStone := goodIn_r _ [11, 12, 34, 35, 36, 37, 38, 39, 40, 41, 42, 43, 44] (by decide +kernel) (by decide +kernel)
set_option maxRecDepth 20000 in
theorem gX4_passMinute_X6_hasStone : GoodIn wsX4_passMinute (wsV RX4 16 RX6 yX6_hasStone wsX6_hasStone) := goodIn_app (goodIn_of _ (by decide +kernel)) ggX4_passMinute_X6_hasStone
set_option maxRecDepth 20000 in
theorem ggX4_passMinute_X6_flow : GoodIn wsX4_passMinute wsX6_flow := goodIn_r _ [16, 17, 18, 4, 5, 6, 19, 20, 21, 22, 23, 24, 10, 25, 34, 35, 36, 37, 38, 39, 40, 41, 42, 43, 44] (by decide +kernel) (by decide +kernel)
set_option maxRecDepth 20000 in
theorem gX4_passMinute_X6_flow : GoodIn wsX4_passMinute (wsV RX4 22 RX6 yX6_flow wsX6_flow) := goodIn_app (goodIn_of _ (by decide +kernel)) ggX4_passMinute_X6_flow
set_option maxRecDepth 20000 in
theorem ggX4_passMinute_X6_frostOn : GoodIn wsX4_passMinute wsX6_frostOn := goodIn_r _ [29, 17, 30, 31, 34, 35, 36, 37, 38, 39, 40, 41, 42, 43, 44] (by decide +kernel) (by decide +kernel)
set_option maxRecDepth 20000 in
theorem gX4_passMinute_X6_frostOn : GoodIn wsX4_passMinute (wsV RX4 26 RX6 yX6_frostOn wsX6_frostOn) := goodIn_app (goodIn_of _ (by decide +kernel)) ggX4_passMinute_X6_frostOn
theorem dX4_passMinute_0 : decode cX4_passMinute 0 = .ok (.aload_n 1, 1) := by decide +kernel
theorem dX4_passMinute_1 : decode cX4_passMinute 1 = .ok (.iload_n 3, 1) := by decide +kernel
theorem dX4_passMinute_2 : decode cX4_passMinute 2 = .ok (.invokevirtual 16, 3) := by decide +kernel
theorem dX4_passMinute_5 : decode cX4_passMinute 5 = .ok (.istore 4, 2) := by decide +kernel
theorem dX4_passMinute_7 : decode cX4_passMinute 7 = .ok (.iload 4, 2) := by decide +kernel
theorem dX4_passMinute_9 : decode cX4_passMinute 9 = .ok (.ifCond .eq 41, 3) := by decide +kernel
theorem dX4_passMinute_12 : decode cX4_passMinute 12 = .ok (.aload_n 1, 1) := by decide +kernel
theorem dX4_passMinute_13 : decode cX4_passMinute 13 = .ok (.iload_n 2, 1) := by decide +kernel
theorem dX4_passMinute_14 : decode cX4_passMinute 14 = .ok (.iload_n 3, 1) := by decide +kernel
theorem dX4_passMinute_15 : decode cX4_passMinute 15 = .ok (.aload_n 0, 1) := by decide +kernel
theorem dX4_passMinute_16 : decode cX4_passMinute 16 = .ok (.getfield 7, 3) := by decide +kernel
theorem dX4_passMinute_19 : decode cX4_passMinute 19 = .ok (.aload_n 0, 1) := by decide +kernel
theorem dX4_passMinute_20 : decode cX4_passMinute 20 = .ok (.getfield 13, 3) := by decide +kernel
theorem dX4_passMinute_23 : decode cX4_passMinute 23 = .ok (.invokevirtual 22, 3) := by decide +kernel
theorem dX4_passMinute_26 : decode cX4_passMinute 26 = .ok (.istore 5, 2) := by decide +kernel
theorem dX4_passMinute_28 : decode cX4_passMinute 28 = .ok (.aload_n 0, 1) := by decide +kernel
theorem dX4_passMinute_29 : decode cX4_passMinute 29 = .ok (.dup, 1) := by decide +kernel
theorem dX4_passMinute_30 : decode cX4_passMinute 30 = .ok (.getfield 7, 3) := by decide +kernel
theorem dX4_passMinute_33 : decode cX4_passMinute 33 = .ok (.iload 5, 2) := by decide +kernel
theorem dX4_passMinute_35 : decode cX4_passMinute 35 = .ok (.isub, 1) := by decide +kernel
theorem dX4_passMinute_36 : decode cX4_passMinute 36 = .ok (.putfield 7, 3) := by decide +kernel
