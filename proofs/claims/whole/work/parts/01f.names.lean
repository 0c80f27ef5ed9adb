theorem dX8_person_120 : decode cX8_person 120 = .ok (.iload_n 1, 1) := by decide +kernel
theorem dX8_person_121 : decode cX8_person 121 = .ok (.iadd, 1) := by decide +kernel
theorem dX8_person_122 : decode cX8_person 122 = .ok (.laload, 1) := by decide +kernel
theorem dX8_person_123 : decode cX8_person 123 = .ok (.l2i, 1) := by decide +kernel
theorem dX8_person_124 : decode cX8_person 124 = .ok (.ireturn, 1) := by decide +kernel
theorem dX8_person_125 : decode cX8_person 125 = .ok (.ldc 73, 2) := by decide +kernel
theorem dX8_person_127 : decode cX8_person 127 = .ok (.ireturn, 1) := by decide +kernel
set_option maxRecDepth 20000 in
theorem ggX8_owned_X8_isPerson : GoodIn wsX8_owned wsX8_isPerson := goodIn_r _ [7, 8, 9, 10, 6, 11, 16, 17, 18, 19, 20, 21, 22, 23, 24, 25, 26, 27, 28, 29, 30, 31, 32, 33, 34, 35, 36, 37, 38, 39, 40, 41, 42, 43, 44] (by decide +kernel) (by decide +kernel)
set_option maxRecDepth 20000 in
theorem gX8_owned_X8_isPerson : GoodIn wsX8_owned (wsV RX8 168 RX8 yX8_isPerson wsX8_isPerson) := goodIn_app (goodIn_of _ (by decide +kernel)) ggX8_owned_X8_isPerson
set_option maxRecDepth 20000 in
theorem ggX8_owned_X8_isStone : GoodIn wsX8_owned wsX8_isStone := goodIn_r _ [15, 8, 9, 10, 6, 11, 16, 17, 18, 19, 20, 21, 22, 23, 24, 25, 26, 27, 28, 29, 30, 31, 32, 33, 34, 35, 36, 37, 38, 39, 40, 41, 42, 43, 44] (by decide +kernel) (by decide +kernel)
set_option maxRecDepth 20000 in
theorem gX8_owned_X8_isStone : GoodIn wsX8_owned (wsV RX8 160 RX8 yX8_isStone wsX8_isStone) := goodIn_app (goodIn_of _ (by decide +kernel)) ggX8_owned_X8_isStone
theorem dX8_owned_0 : decode cX8_owned 0 = .ok (.aload_n 0, 1) := by decide +kernel
theorem dX8_owned_1 : decode cX8_owned 1 = .ok (.iload_n 1, 1) := by decide +kernel
theorem dX8_owned_2 : decode cX8_owned 2 = .ok (.invokevirtual 168, 3) := by decide +kernel
theorem dX8_owned_5 : decode cX8_owned 5 = .ok (.ifCond .eq 29, 3) := by decide +kernel
theorem dX8_owned_8 : decode cX8_owned 8 = .ok (.aload_n 0, 1) := by decide +kernel
theorem dX8_owned_9 : decode cX8_owned 9 = .ok (.iload_n 2, 1) := by decide +kernel
theorem dX8_owned_10 : decode cX8_owned 10 = .ok (.invokevirtual 160, 3) := by decide +kernel
theorem dX8_owned_13 : decode cX8_owned 13 = .ok (.ifCond .eq 21, 3) := by decide +kernel
theorem dX8_owned_16 : decode cX8_owned 16 = .ok (.aload_n 0, 1) := by decide +kernel
theorem dX8_owned_17 : decode cX8_owned 17 = .ok (.getfield 7, 3) := by decide +kernel
theorem dX8_owned_20 : decode cX8_owned 20 = .ok (.bipush 60, 2) := by decide +kernel
theorem dX8_owned_22 : decode cX8_owned 22 = .ok (.bipush 9, 2) := by decide +kernel
theorem dX8_owned_24 : decode cX8_owned 24 = .ok (.iload_n 1, 1) := by decide +kernel
theorem dX8_owned_25 : decode cX8_owned 25 = .ok (.imul, 1) := by decide +kernel
theorem dX8_owned_26 : decode cX8_owned 26 = .ok (.iadd, 1) := by decide +kernel
theorem dX8_owned_27 : decode cX8_owned 27 = .ok (.iload_n 2, 1) := by decide +kernel
theorem dX8_owned_28 : decode cX8_owned 28 = .ok (.iadd, 1) := by decide +kernel
theorem dX8_owned_29 : decode cX8_owned 29 = .ok (.laload, 1) := by decide +kernel
theorem dX8_owned_30 : decode cX8_owned 30 = .ok (.l2i, 1) := by decide +kernel
theorem dX8_owned_31 : decode cX8_owned 31 = .ok (.goto 5, 3) := by decide +kernel
theorem dX8_owned_34 : decode cX8_owned 34 = .ok (.ldc 164, 2) := by decide +kernel
theorem dX8_owned_36 : decode cX8_owned 36 = .ok (.ireturn, 1) := by decide +kernel
set_option maxRecDepth 20000 in
theorem ggX8_flow_X8_less : GoodIn wsX8_flow wsX8_less := goodIn_r _ [10] (by decide +kernel) (by decide +kernel)
set_option maxRecDepth 20000 in
theorem gX8_flow_X8_less : GoodIn wsX8_flow (va_wsS RX8 175 yX8_less wsX8_less) := goodIn_app (goodIn_of _ (by decide +kernel)) ggX8_flow_X8_less
theorem dX8_flow_0 : decode cX8_flow 0 = .ok (.aload_n 0, 1) := by decide +kernel
theorem dX8_flow_1 : decode cX8_flow 1 = .ok (.getfield 27, 3) := by decide +kernel
theorem dX8_flow_4 : decode cX8_flow 4 = .ok (.iload_n 2, 1) := by decide +kernel
theorem dX8_flow_5 : decode cX8_flow 5 = .ok (.iaload, 1) := by decide +kernel
theorem dX8_flow_6 : decode cX8_flow 6 = .ok (.istore 4, 2) := by decide +kernel
theorem dX8_flow_8 : decode cX8_flow 8 = .ok (.aload_n 0, 1) := by decide +kernel
theorem dX8_flow_9 : decode cX8_flow 9 = .ok (.getfield 7, 3) := by decide +kernel
theorem dX8_flow_12 : decode cX8_flow 12 = .ok (.iload_n 1, 1) := by decide +kernel
theorem dX8_flow_13 : decode cX8_flow 13 = .ok (.bipush 10, 2) := by decide +kernel
theorem dX8_flow_15 : decode cX8_flow 15 = .ok (.iadd, 1) := by decide +kernel
theorem dX8_flow_16 : decode cX8_flow 16 = .ok (.iload_n 2, 1) := by decide +kernel
theorem dX8_flow_17 : decode cX8_flow 17 = .ok (.iadd, 1) := by decide +kernel
theorem dX8_flow_18 : decode cX8_flow 18 = .ok (.laload, 1) := by decide +kernel
theorem dX8_flow_19 : decode cX8_flow 19 = .ok (.aload_n 0, 1) := by decide +kernel
theorem dX8_flow_20 : decode cX8_flow 20 = .ok (.getfield 7, 3) := by decide +kernel
theorem dX8_flow_23 : decode cX8_flow 23 = .ok (.iload_n 1, 1) := by decide +kernel
theorem dX8_flow_24 : decode cX8_flow 24 = .ok (.iload_n 3, 1) := by decide +kernel
theorem dX8_flow_25 : decode cX8_flow 25 = .ok (.iadd, 1) := by decide +kernel
theorem dX8_flow_26 : decode cX8_flow 26 = .ok (.laload, 1) := by decide +kernel
theorem dX8_flow_27 : decode cX8_flow 27 = .ok (.lsub, 1) := by decide +kernel
theorem dX8_flow_28 : decode cX8_flow 28 = .ok (.iload 4, 2) := by decide +kernel
theorem dX8_flow_30 : decode cX8_flow 30 = .ok (.iconst 1, 1) := by decide +kernel
theorem dX8_flow_31 : decode cX8_flow 31 = .ok (.if_icmp .ne 9, 3) := by decide +kernel
theorem dX8_flow_34 : decode cX8_flow 34 = .ok (.ldc2_w 171, 3) := by decide +kernel
theorem dX8_flow_37 : decode cX8_flow 37 = .ok (.goto 18, 3) := by decide +kernel
theorem dX8_flow_40 : decode cX8_flow 40 = .ok (.iload 4, 2) := by decide +kernel
theorem dX8_flow_42 : decode cX8_flow 42 = .ok (.iconst 3, 1) := by decide +kernel
theorem dX8_flow_43 : decode cX8_flow 43 = .ok (.if_icmp .ne 9, 3) := by decide +kernel
theorem dX8_flow_46 : decode cX8_flow 46 = .ok (.ldc2_w 173, 3) := by decide +kernel
theorem dX8_flow_49 : decode cX8_flow 49 = .ok (.goto 6, 3) := by decide +kernel
theorem dX8_flow_52 : decode cX8_flow 52 = .ok (.ldc2_w 67, 3) := by decide +kernel
theorem dX8_flow_55 : decode cX8_flow 55 = .ok (.ldiv, 1) := by decide +kernel
theorem dX8_flow_56 : decode cX8_flow 56 = .ok (.lstore 5, 2) := by decide +kernel
theorem dX8_flow_58 : decode cX8_flow 58 = .ok (.iload 4, 2) := by decide +kernel
theorem dX8_flow_60 : decode cX8_flow 60 = .ok (.iconst 2, 1) := by decide +kernel
theorem dX8_flow_61 : decode cX8_flow 61 = .ok (.if_icmp .ne 10, 3) := by decide +kernel
theorem dX8_flow_64 : decode cX8_flow 64 = .ok (.lload 5, 2) := by decide +kernel
theorem dX8_flow_66 : decode cX8_flow 66 = .ok (.lconst 0, 1) := by decide +kernel
theorem dX8_flow_67 : decode cX8_flow 67 = .ok (.lcmp, 1) := by decide +kernel
theorem dX8_flow_68 : decode cX8_flow 68 = .ok (.ifCond .gt 16, 3) := by decide +kernel
theorem dX8_flow_71 : decode cX8_flow 71 = .ok (.iload 4, 2) := by decide +kernel
theorem dX8_flow_73 : decode cX8_flow 73 = .ok (.iconst 3, 1) := by decide +kernel
theorem dX8_flow_74 : decode cX8_flow 74 = .ok (.if_icmp .ne 14, 3) := by decide +kernel
theorem dX8_flow_77 : decode cX8_flow 77 = .ok (.lload 5, 2) := by decide +kernel
theorem dX8_flow_79 : decode cX8_flow 79 = .ok (.lconst 0, 1) := by decide +kernel
theorem dX8_flow_80 : decode cX8_flow 80 = .ok (.lcmp, 1) := by decide +kernel
theorem dX8_flow_81 : decode cX8_flow 81 = .ok (.ifCond .ge 7, 3) := by decide +kernel
theorem dX8_flow_84 : decode cX8_flow 84 = .ok (.lconst 0, 1) := by decide +kernel
theorem dX8_flow_85 : decode cX8_flow 85 = .ok (.goto 5, 3) := by decide +kernel
theorem dX8_flow_88 : decode cX8_flow 88 = .ok (.lload 5, 2) := by decide +kernel
theorem dX8_flow_90 : decode cX8_flow 90 = .ok (.lstore 5, 2) := by decide +kernel
theorem dX8_flow_92 : decode cX8_flow 92 = .ok (.lload 5, 2) := by decide +kernel
theorem dX8_flow_94 : decode cX8_flow 94 = .ok (.aload_n 0, 1) := by decide +kernel
theorem dX8_flow_95 : decode cX8_flow 95 = .ok (.getfield 17, 3) := by decide +kernel
theorem dX8_flow_98 : decode cX8_flow 98 = .ok (.iload_n 3, 1) := by decide +kernel
theorem dX8_flow_99 : decode cX8_flow 99 = .ok (.iaload, 1) := by decide +kernel
theorem dX8_flow_100 : decode cX8_flow 100 = .ok (.i2l, 1) := by decide +kernel
theorem dX8_flow_101 : decode cX8_flow 101 = .ok (.aload_n 0, 1) := by decide +kernel
theorem dX8_flow_102 : decode cX8_flow 102 = .ok (.getfield 7, 3) := by decide +kernel
theorem dX8_flow_105 : decode cX8_flow 105 = .ok (.iload_n 1, 1) := by decide +kernel
theorem dX8_flow_106 : decode cX8_flow 106 = .ok (.iload_n 3, 1) := by decide +kernel
theorem dX8_flow_107 : decode cX8_flow 107 = .ok (.iadd, 1) := by decide +kernel
theorem dX8_flow_108 : decode cX8_flow 108 = .ok (.laload, 1) := by decide +kernel
theorem dX8_flow_109 : decode cX8_flow 109 = .ok (.lsub, 1) := by decide +kernel
theorem dX8_flow_110 : decode cX8_flow 110 = .ok (.invokestatic 175, 3) := by decide +kernel
theorem dX8_flow_113 : decode cX8_flow 113 = .ok (.lreturn, 1) := by decide +kernel
set_option maxRecDepth 20000 in
theorem ggX8_sitOn_X8_flow : GoodIn wsX8_sitOn wsX8_flow := goodIn_r _ [6, 7, 1, 8, 9, 10, 11, 12, 13, 5, 14, 15, 16, 17, 18, 19, 20, 21, 22, 23, 24, 25, 26, 27, 28, 29, 30, 31, 32, 33, 34, 35, 36, 37, 38, 39, 40, 41, 42, 43] (by decide +kernel) (by decide +kernel)
set_option maxRecDepth 20000 in
theorem gX8_sitOn_X8_flow : GoodIn wsX8_sitOn (wsV RX8 179 RX8 yX8_flow wsX8_flow) := goodIn_app (goodIn_of _ (by decide +kernel)) ggX8_sitOn_X8_flow
theorem dX8_sitOn_0 : decode cX8_sitOn 0 = .ok (.aload_n 0, 1) := by decide +kernel
theorem dX8_sitOn_1 : decode cX8_sitOn 1 = .ok (.iload_n 1, 1) := by decide +kernel
theorem dX8_sitOn_2 : decode cX8_sitOn 2 = .ok (.iload_n 2, 1) := by decide +kernel
theorem dX8_sitOn_3 : decode cX8_sitOn 3 = .ok (.iload_n 3, 1) := by decide +kernel
theorem dX8_sitOn_4 : decode cX8_sitOn 4 = .ok (.invokevirtual 179, 3) := by decide +kernel
theorem dX8_sitOn_7 : decode cX8_sitOn 7 = .ok (.lstore 4, 2) := by decide +kernel
theorem dX8_sitOn_9 : decode cX8_sitOn 9 = .ok (.aload_n 0, 1) := by decide +kernel
theorem dX8_sitOn_10 : decode cX8_sitOn 10 = .ok (.getfield 7, 3) := by decide +kernel
theorem dX8_sitOn_13 : decode cX8_sitOn 13 = .ok (.iload_n 1, 1) := by decide +kernel
theorem dX8_sitOn_14 : decode cX8_sitOn 14 = .ok (.iload_n 3, 1) := by decide +kernel
theorem dX8_sitOn_15 : decode cX8_sitOn 15 = .ok (.iadd, 1) := by decide +kernel
theorem dX8_sitOn_16 : decode cX8_sitOn 16 = .ok (.dup2, 1) := by decide +kernel
theorem dX8_sitOn_17 : decode cX8_sitOn 17 = .ok (.laload, 1) := by decide +kernel
theorem dX8_sitOn_18 : decode cX8_sitOn 18 = .ok (.lload 4, 2) := by decide +kernel
theorem dX8_sitOn_20 : decode cX8_sitOn 20 = .ok (.ladd, 1) := by decide +kernel
theorem dX8_sitOn_21 : decode cX8_sitOn 21 = .ok (.lastore, 1) := by decide +kernel
theorem dX8_sitOn_22 : decode cX8_sitOn 22 = .ok (.aload_n 0, 1) := by decide +kernel
theorem dX8_sitOn_23 : decode cX8_sitOn 23 = .ok (.getfield 7, 3) := by decide +kernel
theorem dX8_sitOn_26 : decode cX8_sitOn 26 = .ok (.iload_n 1, 1) := by decide +kernel
theorem dX8_sitOn_27 : decode cX8_sitOn 27 = .ok (.bipush 10, 2) := by decide +kernel
theorem dX8_sitOn_29 : decode cX8_sitOn 29 = .ok (.iadd, 1) := by decide +kernel
theorem dX8_sitOn_30 : decode cX8_sitOn 30 = .ok (.iload_n 2, 1) := by decide +kernel
theorem dX8_sitOn_31 : decode cX8_sitOn 31 = .ok (.iadd, 1) := by decide +kernel
theorem dX8_sitOn_32 : decode cX8_sitOn 32 = .ok (.dup2, 1) := by decide +kernel
theorem dX8_sitOn_33 : decode cX8_sitOn 33 = .ok (.laload, 1) := by decide +kernel
theorem dX8_sitOn_34 : decode cX8_sitOn 34 = .ok (.lload 4, 2) := by decide +kernel
theorem dX8_sitOn_36 : decode cX8_sitOn 36 = .ok (.lsub, 1) := by decide +kernel
theorem dX8_sitOn_37 : decode cX8_sitOn 37 = .ok (.lastore, 1) := by decide +kernel
theorem dX8_sitOn_38 : decode cX8_sitOn 38 = .ok (.bipush 60, 2) := by decide +kernel
theorem dX8_sitOn_40 : decode cX8_sitOn 40 = .ok (.bipush 9, 2) := by decide +kernel
theorem dX8_sitOn_42 : decode cX8_sitOn 42 = .ok (.iload_n 2, 1) := by decide +kernel
theorem dX8_sitOn_43 : decode cX8_sitOn 43 = .ok (.imul, 1) := by decide +kernel
theorem dX8_sitOn_44 : decode cX8_sitOn 44 = .ok (.iadd, 1) := by decide +kernel
theorem dX8_sitOn_45 : decode cX8_sitOn 45 = .ok (.iload_n 3, 1) := by decide +kernel
theorem dX8_sitOn_46 : decode cX8_sitOn 46 = .ok (.iadd, 1) := by decide +kernel
theorem dX8_sitOn_47 : decode cX8_sitOn 47 = .ok (.istore 6, 2) := by decide +kernel
theorem dX8_sitOn_49 : decode cX8_sitOn 49 = .ok (.aload_n 0, 1) := by decide +kernel
theorem dX8_sitOn_50 : decode cX8_sitOn 50 = .ok (.getfield 7, 3) := by decide +kernel
theorem dX8_sitOn_53 : decode cX8_sitOn 53 = .ok (.iload_n 1, 1) := by decide +kernel
theorem dX8_sitOn_54 : decode cX8_sitOn 54 = .ok (.iload 6, 2) := by decide +kernel
theorem dX8_sitOn_56 : decode cX8_sitOn 56 = .ok (.iadd, 1) := by decide +kernel
theorem dX8_sitOn_57 : decode cX8_sitOn 57 = .ok (.laload, 1) := by decide +kernel
theorem dX8_sitOn_58 : decode cX8_sitOn 58 = .ok (.lconst 0, 1) := by decide +kernel
theorem dX8_sitOn_59 : decode cX8_sitOn 59 = .ok (.lcmp, 1) := by decide +kernel
theorem dX8_sitOn_60 : decode cX8_sitOn 60 = .ok (.ifCond .le 19, 3) := by decide +kernel
theorem dX8_sitOn_63 : decode cX8_sitOn 63 = .ok (.aload_n 0, 1) := by decide +kernel
theorem dX8_sitOn_64 : decode cX8_sitOn 64 = .ok (.getfield 7, 3) := by decide +kernel
theorem dX8_sitOn_67 : decode cX8_sitOn 67 = .ok (.iload_n 1, 1) := by decide +kernel
theorem dX8_sitOn_68 : decode cX8_sitOn 68 = .ok (.iload 6, 2) := by decide +kernel
theorem dX8_sitOn_70 : decode cX8_sitOn 70 = .ok (.iadd, 1) := by decide +kernel
theorem dX8_sitOn_71 : decode cX8_sitOn 71 = .ok (.dup2, 1) := by decide +kernel
theorem dX8_sitOn_72 : decode cX8_sitOn 72 = .ok (.laload, 1) := by decide +kernel
theorem dX8_sitOn_73 : decode cX8_sitOn 73 = .ok (.lconst 1, 1) := by decide +kernel
theorem dX8_sitOn_74 : decode cX8_sitOn 74 = .ok (.lsub, 1) := by decide +kernel
theorem dX8_sitOn_75 : decode cX8_sitOn 75 = .ok (.lastore, 1) := by decide +kernel
theorem dX8_sitOn_76 : decode cX8_sitOn 76 = .ok (.goto 18, 3) := by decide +kernel
theorem dX8_sitOn_79 : decode cX8_sitOn 79 = .ok (.aload_n 0, 1) := by decide +kernel
theorem dX8_sitOn_80 : decode cX8_sitOn 80 = .ok (.getfield 7, 3) := by decide +kernel
theorem dX8_sitOn_83 : decode cX8_sitOn 83 = .ok (.iload_n 1, 1) := by decide +kernel
theorem dX8_sitOn_84 : decode cX8_sitOn 84 = .ok (.bipush 40, 2) := by decide +kernel
theorem dX8_sitOn_86 : decode cX8_sitOn 86 = .ok (.iadd, 1) := by decide +kernel
theorem dX8_sitOn_87 : decode cX8_sitOn 87 = .ok (.iload_n 2, 1) := by decide +kernel
theorem dX8_sitOn_88 : decode cX8_sitOn 88 = .ok (.iadd, 1) := by decide +kernel
theorem dX8_sitOn_89 : decode cX8_sitOn 89 = .ok (.dup2, 1) := by decide +kernel
theorem dX8_sitOn_90 : decode cX8_sitOn 90 = .ok (.laload, 1) := by decide +kernel
theorem dX8_sitOn_91 : decode cX8_sitOn 91 = .ok (.lconst 1, 1) := by decide +kernel
theorem dX8_sitOn_92 : decode cX8_sitOn 92 = .ok (.ladd, 1) := by decide +kernel
theorem dX8_sitOn_93 : decode cX8_sitOn 93 = .ok (.lastore, 1) := by decide +kernel
theorem dX8_sitOn_94 : decode cX8_sitOn 94 = .ok (.return_, 1) := by decide +kernel
theorem dX8_isCold_0 : decode cX8_isCold 0 = .ok (.aload_n 0, 1) := by decide +kernel
theorem dX8_isCold_1 : decode cX8_isCold 1 = .ok (.getfield 7, 3) := by decide +kernel
theorem dX8_isCold_4 : decode cX8_isCold 4 = .ok (.iload_n 1, 1) := by decide +kernel
theorem dX8_isCold_5 : decode cX8_isCold 5 = .ok (.bipush 10, 2) := by decide +kernel
theorem dX8_isCold_7 : decode cX8_isCold 7 = .ok (.iadd, 1) := by decide +kernel
theorem dX8_isCold_8 : decode cX8_isCold 8 = .ok (.iload_n 2, 1) := by decide +kernel
theorem dX8_isCold_9 : decode cX8_isCold 9 = .ok (.iadd, 1) := by decide +kernel
theorem dX8_isCold_10 : decode cX8_isCold 10 = .ok (.laload, 1) := by decide +kernel
theorem dX8_isCold_11 : decode cX8_isCold 11 = .ok (.aload_n 0, 1) := by decide +kernel
theorem dX8_isCold_12 : decode cX8_isCold 12 = .ok (.getfield 33, 3) := by decide +kernel
theorem dX8_isCold_15 : decode cX8_isCold 15 = .ok (.iload_n 2, 1) := by decide +kernel
theorem dX8_isCold_16 : decode cX8_isCold 16 = .ok (.iaload, 1) := by decide +kernel
theorem dX8_isCold_17 : decode cX8_isCold 17 = .ok (.i2l, 1) := by decide +kernel
theorem dX8_isCold_18 : decode cX8_isCold 18 = .ok (.lcmp, 1) := by decide +kernel
theorem dX8_isCold_19 : decode cX8_isCold 19 = .ok (.ifCond .ge 7, 3) := by decide +kernel
theorem dX8_isCold_22 : decode cX8_isCold 22 = .ok (.iconst 1, 1) := by decide +kernel
theorem dX8_isCold_23 : decode cX8_isCold 23 = .ok (.goto 4, 3) := by decide +kernel
theorem dX8_isCold_26 : decode cX8_isCold 26 = .ok (.iconst 0, 1) := by decide +kernel
theorem dX8_isCold_27 : decode cX8_isCold 27 = .ok (.ireturn, 1) := by decide +kernel
set_option maxRecDepth 20000 in
theorem ggX8_pass_X8_sitOn : GoodIn wsX8_pass wsX8_sitOn := goodIn_r _ [12, 1, 13, 14, 15, 11, 16, 4, 17, 18, 19, 20, 21, 22, 23, 39, 40, 41, 42, 43, 44, 45, 46, 47, 48, 49, 50, 51, 52, 53, 54, 55, 56, 57, 58, 59, 60, 61, 62, 63, 64, 65, 66, 67] (by decide +kernel) (by decide +kernel)
set_option maxRecDepth 20000 in
theorem gX8_pass_X8_sitOn : GoodIn wsX8_pass (wsV RX8 183 RX8 yX8_sitOn wsX8_sitOn) := goodIn_app (goodIn_of _ (by decide +kernel)) ggX8_pass_X8_sitOn
set_option maxRecDepth 20000 in
theorem ggX8_pass_X8_less : GoodIn wsX8_pass wsX8_less := goodIn_r _ [23] (by decide +kernel) (by decide +kernel)
set_option maxRecDepth 20000 in
theorem gX8_pass_X8_less : GoodIn wsX8_pass (va_wsS RX8 175 yX8_less wsX8_less) := goodIn_app (goodIn_of _ (by decide +kernel)) ggX8_pass_X8_less
set_option maxRecDepth 20000 in
theorem ggX8_pass_X8_isCold : GoodIn wsX8_pass wsX8_isCold := goodIn_r _ [27, 1, 28, 39, 40, 41, 42, 43, 44, 45, 46, 47, 48, 49, 50, 51, 52, 53, 54, 55, 56, 57, 58, 59, 60, 61, 62, 63, 64, 65, 66, 67] (by decide +kernel) (by decide +kernel)
set_option maxRecDepth 20000 in
theorem gX8_pass_X8_isCold : GoodIn wsX8_pass (wsV RX8 187 RX8 yX8_isCold wsX8_isCold) := goodIn_app (goodIn_of _ (by decide +kernel)) ggX8_pass_X8_isCold
set_option maxRecDepth 20000 in
theorem ggX8_pass_X8_one : GoodIn wsX8_pass wsX8_one := goodIn_r _ [31] (by decide +kernel) (by decide +kernel)
set_option maxRecDepth 20000 in
theorem gX8_pass_X8_one : GoodIn wsX8_pass (va_wsS RX8 191 yX8_one wsX8_one) := goodIn_app (goodIn_of _ (by decide +kernel)) ggX8_pass_X8_one
set_option maxRecDepth 20000 in
theorem ggX8_pass_X8_sitter : GoodIn wsX8_pass wsX8_sitter := goodIn_r _ [35, 2, 1, 39, 40, 41, 42, 43, 44, 45, 46, 47, 48, 49, 50, 51, 52, 53, 54, 55, 56, 57, 58, 59, 60, 61, 62, 63, 64, 65, 66, 67] (by decide +kernel) (by decide +kernel)
set_option maxRecDepth 20000 in
theorem gX8_pass_X8_sitter : GoodIn wsX8_pass (wsV RX8 165 RX8 yX8_sitter wsX8_sitter) := goodIn_app (goodIn_of _ (by decide +kernel)) ggX8_pass_X8_sitter
set_option maxRecDepth 20000 in
theorem ggX8_pass_X8_greater : GoodIn wsX8_pass wsX8_greater := goodIn_r _ [38] (by decide +kernel) (by decide +kernel)
set_option maxRecDepth 20000 in
theorem gX8_pass_X8_greater : GoodIn wsX8_pass (va_wsS RX8 195 yX8_greater wsX8_greater) := goodIn_app (goodIn_of _ (by decide +kernel)) ggX8_pass_X8_greater
theorem dX8_pass_0 : decode cX8_pass 0 = .ok (.iconst 0, 1) := by decide +kernel
theorem dX8_pass_1 : decode cX8_pass 1 = .ok (.istore_n 2, 1) := by decide +kernel
theorem dX8_pass_2 : decode cX8_pass 2 = .ok (.aload_n 0, 1) := by decide +kernel
theorem dX8_pass_3 : decode cX8_pass 3 = .ok (.getfield 7, 3) := by decide +kernel
theorem dX8_pass_6 : decode cX8_pass 6 = .ok (.iload_n 1, 1) := by decide +kernel
theorem dX8_pass_7 : decode cX8_pass 7 = .ok (.sipush 132, 3) := by decide +kernel
theorem dX8_pass_10 : decode cX8_pass 10 = .ok (.iadd, 1) := by decide +kernel
theorem dX8_pass_11 : decode cX8_pass 11 = .ok (.dup2, 1) := by decide +kernel
theorem dX8_pass_12 : decode cX8_pass 12 = .ok (.laload, 1) := by decide +kernel
theorem dX8_pass_13 : decode cX8_pass 13 = .ok (.lconst 1, 1) := by decide +kernel
theorem dX8_pass_14 : decode cX8_pass 14 = .ok (.ladd, 1) := by decide +kernel
theorem dX8_pass_15 : decode cX8_pass 15 = .ok (.lastore, 1) := by decide +kernel
theorem dX8_pass_16 : decode cX8_pass 16 = .ok (.iconst 0, 1) := by decide +kernel
theorem dX8_pass_17 : decode cX8_pass 17 = .ok (.istore_n 3, 1) := by decide +kernel
theorem dX8_pass_18 : decode cX8_pass 18 = .ok (.iload_n 3, 1) := by decide +kernel
theorem dX8_pass_19 : decode cX8_pass 19 = .ok (.aload_n 0, 1) := by decide +kernel
theorem dX8_pass_20 : decode cX8_pass 20 = .ok (.getfield 36, 3) := by decide +kernel
theorem dX8_pass_23 : decode cX8_pass 23 = .ok (.iconst 1, 1) := by decide +kernel
theorem dX8_pass_24 : decode cX8_pass 24 = .ok (.iaload, 1) := by decide +kernel
theorem dX8_pass_25 : decode cX8_pass 25 = .ok (.if_icmp .ge 200, 3) := by decide +kernel
theorem dX8_pass_28 : decode cX8_pass 28 = .ok (.aload_n 0, 1) := by decide +kernel
theorem dX8_pass_29 : decode cX8_pass 29 = .ok (.getfield 7, 3) := by decide +kernel
theorem dX8_pass_32 : decode cX8_pass 32 = .ok (.iload_n 1, 1) := by decide +kernel
theorem dX8_pass_33 : decode cX8_pass 33 = .ok (.bipush 20, 2) := by decide +kernel
theorem dX8_pass_35 : decode cX8_pass 35 = .ok (.iadd, 1) := by decide +kernel
theorem dX8_pass_36 : decode cX8_pass 36 = .ok (.iload_n 3, 1) := by decide +kernel
theorem dX8_pass_37 : decode cX8_pass 37 = .ok (.iadd, 1) := by decide +kernel
theorem dX8_pass_38 : decode cX8_pass 38 = .ok (.laload, 1) := by decide +kernel
theorem dX8_pass_39 : decode cX8_pass 39 = .ok (.lconst 0, 1) := by decide +kernel
theorem dX8_pass_40 : decode cX8_pass 40 = .ok (.lcmp, 1) := by decide +kernel
theorem dX8_pass_41 : decode cX8_pass 41 = .ok (.ifCond .lt 7, 3) := by decide +kernel
theorem dX8_pass_44 : decode cX8_pass 44 = .ok (.iconst 1, 1) := by decide +kernel
theorem dX8_pass_45 : decode cX8_pass 45 = .ok (.goto 4, 3) := by decide +kernel
theorem dX8_pass_48 : decode cX8_pass 48 = .ok (.iconst 0, 1) := by decide +kernel
theorem dX8_pass_49 : decode cX8_pass 49 = .ok (.istore 4, 2) := by decide +kernel
theorem dX8_pass_51 : decode cX8_pass 51 = .ok (.iload 4, 2) := by decide +kernel
theorem dX8_pass_53 : decode cX8_pass 53 = .ok (.ifCond .eq 24, 3) := by decide +kernel
theorem dX8_pass_56 : decode cX8_pass 56 = .ok (.aload_n 0, 1) := by decide +kernel
theorem dX8_pass_57 : decode cX8_pass 57 = .ok (.iload_n 1, 1) := by decide +kernel
theorem dX8_pass_58 : decode cX8_pass 58 = .ok (.iload_n 3, 1) := by decide +kernel
theorem dX8_pass_59 : decode cX8_pass 59 = .ok (.aload_n 0, 1) := by decide +kernel
theorem dX8_pass_60 : decode cX8_pass 60 = .ok (.getfield 7, 3) := by decide +kernel
theorem dX8_pass_63 : decode cX8_pass 63 = .ok (.iload_n 1, 1) := by decide +kernel
theorem dX8_pass_64 : decode cX8_pass 64 = .ok (.bipush 20, 2) := by decide +kernel
theorem dX8_pass_66 : decode cX8_pass 66 = .ok (.iadd, 1) := by decide +kernel
theorem dX8_pass_67 : decode cX8_pass 67 = .ok (.iload_n 3, 1) := by decide +kernel
theorem dX8_pass_68 : decode cX8_pass 68 = .ok (.iadd, 1) := by decide +kernel
theorem dX8_pass_69 : decode cX8_pass 69 = .ok (.laload, 1) := by decide +kernel
theorem dX8_pass_70 : decode cX8_pass 70 = .ok (.l2i, 1) := by decide +kernel
theorem dX8_pass_71 : decode cX8_pass 71 = .ok (.invokevirtual 183, 3) := by decide +kernel
theorem dX8_pass_74 : decode cX8_pass 74 = .ok (.goto 22, 3) := by decide +kernel
theorem dX8_pass_77 : decode cX8_pass 77 = .ok (.aload_n 0, 1) := by decide +kernel
theorem dX8_pass_78 : decode cX8_pass 78 = .ok (.getfield 7, 3) := by decide +kernel
theorem dX8_pass_81 : decode cX8_pass 81 = .ok (.iload_n 1, 1) := by decide +kernel
theorem dX8_pass_82 : decode cX8_pass 82 = .ok (.bipush 50, 2) := by decide +kernel
theorem dX8_pass_84 : decode cX8_pass 84 = .ok (.iadd, 1) := by decide +kernel
theorem dX8_pass_85 : decode cX8_pass 85 = .ok (.iload_n 3, 1) := by decide +kernel
theorem dX8_pass_86 : decode cX8_pass 86 = .ok (.iadd, 1) := by decide +kernel
theorem dX8_pass_87 : decode cX8_pass 87 = .ok (.dup2, 1) := by decide +kernel
theorem dX8_pass_88 : decode cX8_pass 88 = .ok (.laload, 1) := by decide +kernel
theorem dX8_pass_89 : decode cX8_pass 89 = .ok (.aload_n 0, 1) := by decide +kernel
theorem dX8_pass_90 : decode cX8_pass 90 = .ok (.getfield 146, 3) := by decide +kernel
theorem dX8_pass_93 : decode cX8_pass 93 = .ok (.i2l, 1) := by decide +kernel
theorem dX8_pass_94 : decode cX8_pass 94 = .ok (.ladd, 1) := by decide +kernel
theorem dX8_pass_95 : decode cX8_pass 95 = .ok (.lastore, 1) := by decide +kernel
theorem dX8_pass_96 : decode cX8_pass 96 = .ok (.aload_n 0, 1) := by decide +kernel
theorem dX8_pass_97 : decode cX8_pass 97 = .ok (.getfield 27, 3) := by decide +kernel
theorem dX8_pass_100 : decode cX8_pass 100 = .ok (.iload_n 3, 1) := by decide +kernel
theorem dX8_pass_101 : decode cX8_pass 101 = .ok (.iaload, 1) := by decide +kernel
theorem dX8_pass_102 : decode cX8_pass 102 = .ok (.iconst 4, 1) := by decide +kernel
theorem dX8_pass_103 : decode cX8_pass 103 = .ok (.if_icmp .ne 13, 3) := by decide +kernel
theorem dX8_pass_106 : decode cX8_pass 106 = .ok (.aload_n 0, 1) := by decide +kernel
theorem dX8_pass_107 : decode cX8_pass 107 = .ok (.getfield 39, 3) := by decide +kernel
theorem dX8_pass_110 : decode cX8_pass 110 = .ok (.iconst 2, 1) := by decide +kernel
theorem dX8_pass_111 : decode cX8_pass 111 = .ok (.idiv, 1) := by decide +kernel
theorem dX8_pass_112 : decode cX8_pass 112 = .ok (.i2l, 1) := by decide +kernel
theorem dX8_pass_113 : decode cX8_pass 113 = .ok (.goto 21, 3) := by decide +kernel
theorem dX8_pass_116 : decode cX8_pass 116 = .ok (.iload 4, 2) := by decide +kernel
theorem dX8_pass_118 : decode cX8_pass 118 = .ok (.ifCond .eq 11, 3) := by decide +kernel
theorem dX8_pass_121 : decode cX8_pass 121 = .ok (.aload_n 0, 1) := by decide +kernel
theorem dX8_pass_122 : decode cX8_pass 122 = .ok (.getfield 43, 3) := by decide +kernel
theorem dX8_pass_125 : decode cX8_pass 125 = .ok (.i2l, 1) := by decide +kernel
theorem dX8_pass_126 : decode cX8_pass 126 = .ok (.goto 8, 3) := by decide +kernel
theorem dX8_pass_129 : decode cX8_pass 129 = .ok (.aload_n 0, 1) := by decide +kernel
theorem dX8_pass_130 : decode cX8_pass 130 = .ok (.getfield 39, 3) := by decide +kernel
theorem dX8_pass_133 : decode cX8_pass 133 = .ok (.i2l, 1) := by decide +kernel
theorem dX8_pass_134 : decode cX8_pass 134 = .ok (.aload_n 0, 1) := by decide +kernel
theorem dX8_pass_135 : decode cX8_pass 135 = .ok (.getfield 7, 3) := by decide +kernel
theorem dX8_pass_138 : decode cX8_pass 138 = .ok (.iload_n 1, 1) := by decide +kernel
theorem dX8_pass_139 : decode cX8_pass 139 = .ok (.bipush 10, 2) := by decide +kernel
theorem dX8_pass_141 : decode cX8_pass 141 = .ok (.iadd, 1) := by decide +kernel
theorem dX8_pass_142 : decode cX8_pass 142 = .ok (.iload_n 3, 1) := by decide +kernel
theorem dX8_pass_143 : decode cX8_pass 143 = .ok (.iadd, 1) := by decide +kernel
theorem dX8_pass_144 : decode cX8_pass 144 = .ok (.laload, 1) := by decide +kernel
theorem dX8_pass_145 : decode cX8_pass 145 = .ok (.invokestatic 175, 3) := by decide +kernel
theorem dX8_pass_148 : decode cX8_pass 148 = .ok (.lstore 5, 2) := by decide +kernel
theorem dX8_pass_150 : decode cX8_pass 150 = .ok (.aload_n 0, 1) := by decide +kernel
theorem dX8_pass_151 : decode cX8_pass 151 = .ok (.getfield 7, 3) := by decide +kernel
theorem dX8_pass_154 : decode cX8_pass 154 = .ok (.iload_n 1, 1) := by decide +kernel
theorem dX8_pass_155 : decode cX8_pass 155 = .ok (.bipush 10, 2) := by decide +kernel
theorem dX8_pass_157 : decode cX8_pass 157 = .ok (.iadd, 1) := by decide +kernel
theorem dX8_pass_158 : decode cX8_pass 158 = .ok (.iload_n 3, 1) := by decide +kernel
theorem dX8_pass_159 : decode cX8_pass 159 = .ok (.iadd, 1) := by decide +kernel
theorem dX8_pass_160 : decode cX8_pass 160 = .ok (.dup2, 1) := by decide +kernel
theorem dX8_pass_161 : decode cX8_pass 161 = .ok (.laload, 1) := by decide +kernel
theorem dX8_pass_162 : decode cX8_pass 162 = .ok (.lload 5, 2) := by decide +kernel
theorem dX8_pass_164 : decode cX8_pass 164 = .ok (.lsub, 1) := by decide +kernel
theorem dX8_pass_165 : decode cX8_pass 165 = .ok (.lastore, 1) := by decide +kernel
theorem dX8_pass_166 : decode cX8_pass 166 = .ok (.aload_n 0, 1) := by decide +kernel
theorem dX8_pass_167 : decode cX8_pass 167 = .ok (.getfield 7, 3) := by decide +kernel
theorem dX8_pass_170 : decode cX8_pass 170 = .ok (.iload_n 1, 1) := by decide +kernel
theorem dX8_pass_171 : decode cX8_pass 171 = .ok (.sipush 134, 3) := by decide +kernel
theorem dX8_pass_174 : decode cX8_pass 174 = .ok (.iadd, 1) := by decide +kernel
theorem dX8_pass_175 : decode cX8_pass 175 = .ok (.dup2, 1) := by decide +kernel
theorem dX8_pass_176 : decode cX8_pass 176 = .ok (.laload, 1) := by decide +kernel
theorem dX8_pass_177 : decode cX8_pass 177 = .ok (.lload 5, 2) := by decide +kernel
theorem dX8_pass_179 : decode cX8_pass 179 = .ok (.ladd, 1) := by decide +kernel
theorem dX8_pass_180 : decode cX8_pass 180 = .ok (.lastore, 1) := by decide +kernel
theorem dX8_pass_181 : decode cX8_pass 181 = .ok (.aload_n 0, 1) := by decide +kernel
theorem dX8_pass_182 : decode cX8_pass 182 = .ok (.getfield 7, 3) := by decide +kernel
theorem dX8_pass_185 : decode cX8_pass 185 = .ok (.iload_n 1, 1) := by decide +kernel
theorem dX8_pass_186 : decode cX8_pass 186 = .ok (.bipush 30, 2) := by decide +kernel
theorem dX8_pass_188 : decode cX8_pass 188 = .ok (.iadd, 1) := by decide +kernel
theorem dX8_pass_189 : decode cX8_pass 189 = .ok (.iload_n 3, 1) := by decide +kernel
theorem dX8_pass_190 : decode cX8_pass 190 = .ok (.iadd, 1) := by decide +kernel
theorem dX8_pass_191 : decode cX8_pass 191 = .ok (.dup2, 1) := by decide +kernel
theorem dX8_pass_192 : decode cX8_pass 192 = .ok (.laload, 1) := by decide +kernel
theorem dX8_pass_193 : decode cX8_pass 193 = .ok (.aload_n 0, 1) := by decide +kernel
theorem dX8_pass_194 : decode cX8_pass 194 = .ok (.iload_n 1, 1) := by decide +kernel
theorem dX8_pass_195 : decode cX8_pass 195 = .ok (.iload_n 3, 1) := by decide +kernel
theorem dX8_pass_196 : decode cX8_pass 196 = .ok (.invokevirtual 187, 3) := by decide +kernel
theorem dX8_pass_199 : decode cX8_pass 199 = .ok (.invokestatic 191, 3) := by decide +kernel
theorem dX8_pass_202 : decode cX8_pass 202 = .ok (.i2l, 1) := by decide +kernel
theorem dX8_pass_203 : decode cX8_pass 203 = .ok (.ladd, 1) := by decide +kernel
theorem dX8_pass_204 : decode cX8_pass 204 = .ok (.lastore, 1) := by decide +kernel
theorem dX8_pass_205 : decode cX8_pass 205 = .ok (.iload_n 2, 1) := by decide +kernel
theorem dX8_pass_206 : decode cX8_pass 206 = .ok (.aload_n 0, 1) := by decide +kernel
theorem dX8_pass_207 : decode cX8_pass 207 = .ok (.iload_n 1, 1) := by decide +kernel
theorem dX8_pass_208 : decode cX8_pass 208 = .ok (.iload_n 3, 1) := by decide +kernel
theorem dX8_pass_209 : decode cX8_pass 209 = .ok (.invokevirtual 187, 3) := by decide +kernel
theorem dX8_pass_212 : decode cX8_pass 212 = .ok (.invokestatic 191, 3) := by decide +kernel
theorem dX8_pass_215 : decode cX8_pass 215 = .ok (.iload_n 3, 1) := by decide +kernel
theorem dX8_pass_216 : decode cX8_pass 216 = .ok (.ishl, 1) := by decide +kernel
theorem dX8_pass_217 : decode cX8_pass 217 = .ok (.ior, 1) := by decide +kernel
theorem dX8_pass_218 : decode cX8_pass 218 = .ok (.istore_n 2, 1) := by decide +kernel
theorem dX8_pass_219 : decode cX8_pass 219 = .ok (.iinc 3 1, 3) := by decide +kernel
theorem dX8_pass_222 : decode cX8_pass 222 = .ok (.goto (-204), 3) := by decide +kernel
theorem dX8_pass_225 : decode cX8_pass 225 = .ok (.iconst 0, 1) := by decide +kernel
theorem dX8_pass_226 : decode cX8_pass 226 = .ok (.istore_n 3, 1) := by decide +kernel
theorem dX8_pass_227 : decode cX8_pass 227 = .ok (.iload_n 3, 1) := by decide +kernel
theorem dX8_pass_228 : decode cX8_pass 228 = .ok (.aload_n 0, 1) := by decide +kernel
theorem dX8_pass_229 : decode cX8_pass 229 = .ok (.getfield 36, 3) := by decide +kernel
theorem dX8_pass_232 : decode cX8_pass 232 = .ok (.iconst 0, 1) := by decide +kernel
theorem dX8_pass_233 : decode cX8_pass 233 = .ok (.iaload, 1) := by decide +kernel
theorem dX8_pass_234 : decode cX8_pass 234 = .ok (.if_icmp .ge 81, 3) := by decide +kernel
theorem dX8_pass_237 : decode cX8_pass 237 = .ok (.aload_n 0, 1) := by decide +kernel
theorem dX8_pass_238 : decode cX8_pass 238 = .ok (.iload_n 1, 1) := by decide +kernel
theorem dX8_pass_239 : decode cX8_pass 239 = .ok (.iload_n 3, 1) := by decide +kernel
theorem dX8_pass_240 : decode cX8_pass 240 = .ok (.invokevirtual 165, 3) := by decide +kernel
theorem dX8_pass_243 : decode cX8_pass 243 = .ok (.ifCond .ge 66, 3) := by decide +kernel
theorem dX8_pass_246 : decode cX8_pass 246 = .ok (.aload_n 0, 1) := by decide +kernel
theorem dX8_pass_247 : decode cX8_pass 247 = .ok (.getfield 7, 3) := by decide +kernel
theorem dX8_pass_250 : decode cX8_pass 250 = .ok (.iload_n 1, 1) := by decide +kernel
theorem dX8_pass_251 : decode cX8_pass 251 = .ok (.iload_n 3, 1) := by decide +kernel
theorem dX8_pass_252 : decode cX8_pass 252 = .ok (.iadd, 1) := by decide +kernel
theorem dX8_pass_253 : decode cX8_pass 253 = .ok (.laload, 1) := by decide +kernel
theorem dX8_pass_254 : decode cX8_pass 254 = .ok (.lconst 0, 1) := by decide +kernel
theorem dX8_pass_255 : decode cX8_pass 255 = .ok (.lcmp, 1) := by decide +kernel
theorem dX8_pass_256 : decode cX8_pass 256 = .ok (.ifCond .le 53, 3) := by decide +kernel
theorem dX8_pass_259 : decode cX8_pass 259 = .ok (.lconst 1, 1) := by decide +kernel
theorem dX8_pass_260 : decode cX8_pass 260 = .ok (.aload_n 0, 1) := by decide +kernel
theorem dX8_pass_261 : decode cX8_pass 261 = .ok (.getfield 7, 3) := by decide +kernel
theorem dX8_pass_264 : decode cX8_pass 264 = .ok (.iload_n 1, 1) := by decide +kernel
theorem dX8_pass_265 : decode cX8_pass 265 = .ok (.iload_n 3, 1) := by decide +kernel
theorem dX8_pass_266 : decode cX8_pass 266 = .ok (.iadd, 1) := by decide +kernel
theorem dX8_pass_267 : decode cX8_pass 267 = .ok (.laload, 1) := by decide +kernel
theorem dX8_pass_268 : decode cX8_pass 268 = .ok (.aload_n 0, 1) := by decide +kernel
theorem dX8_pass_269 : decode cX8_pass 269 = .ok (.getfield 21, 3) := by decide +kernel
theorem dX8_pass_272 : decode cX8_pass 272 = .ok (.iload_n 3, 1) := by decide +kernel
theorem dX8_pass_273 : decode cX8_pass 273 = .ok (.iaload, 1) := by decide +kernel
theorem dX8_pass_274 : decode cX8_pass 274 = .ok (.i2l, 1) := by decide +kernel
theorem dX8_pass_275 : decode cX8_pass 275 = .ok (.ldiv, 1) := by decide +kernel
theorem dX8_pass_276 : decode cX8_pass 276 = .ok (.invokestatic 195, 3) := by decide +kernel
theorem dX8_pass_279 : decode cX8_pass 279 = .ok (.lstore 4, 2) := by decide +kernel
theorem dX8_pass_281 : decode cX8_pass 281 = .ok (.aload_n 0, 1) := by decide +kernel
theorem dX8_pass_282 : decode cX8_pass 282 = .ok (.getfield 7, 3) := by decide +kernel
theorem dX8_pass_285 : decode cX8_pass 285 = .ok (.iload_n 1, 1) := by decide +kernel
theorem dX8_pass_286 : decode cX8_pass 286 = .ok (.iload_n 3, 1) := by decide +kernel
theorem dX8_pass_287 : decode cX8_pass 287 = .ok (.iadd, 1) := by decide +kernel
theorem dX8_pass_288 : decode cX8_pass 288 = .ok (.dup2, 1) := by decide +kernel
theorem dX8_pass_289 : decode cX8_pass 289 = .ok (.laload, 1) := by decide +kernel
theorem dX8_pass_290 : decode cX8_pass 290 = .ok (.lload 4, 2) := by decide +kernel
theorem dX8_pass_292 : decode cX8_pass 292 = .ok (.lsub, 1) := by decide +kernel
theorem dX8_pass_293 : decode cX8_pass 293 = .ok (.lastore, 1) := by decide +kernel
theorem dX8_pass_294 : decode cX8_pass 294 = .ok (.aload_n 0, 1) := by decide +kernel
theorem dX8_pass_295 : decode cX8_pass 295 = .ok (.getfield 7, 3) := by decide +kernel
theorem dX8_pass_298 : decode cX8_pass 298 = .ok (.iload_n 1, 1) := by decide +kernel
theorem dX8_pass_299 : decode cX8_pass 299 = .ok (.sipush 134, 3) := by decide +kernel
theorem dX8_pass_302 : decode cX8_pass 302 = .ok (.iadd, 1) := by decide +kernel
theorem dX8_pass_303 : decode cX8_pass 303 = .ok (.dup2, 1) := by decide +kernel
theorem dX8_pass_304 : decode cX8_pass 304 = .ok (.laload, 1) := by decide +kernel
theorem dX8_pass_305 : decode cX8_pass 305 = .ok (.lload 4, 2) := by decide +kernel
theorem dX8_pass_307 : decode cX8_pass 307 = .ok (.ladd, 1) := by decide +kernel
theorem dX8_pass_308 : decode cX8_pass 308 = .ok (.lastore, 1) := by decide +kernel
theorem dX8_pass_309 : decode cX8_pass 309 = .ok (.iinc 3 1, 3) := by decide +kernel
theorem dX8_pass_312 : decode cX8_pass 312 = .ok (.goto (-85), 3) := by decide +kernel
theorem dX8_pass_315 : decode cX8_pass 315 = .ok (.iload_n 2, 1) := by decide +kernel
theorem dX8_pass_316 : decode cX8_pass 316 = .ok (.ireturn, 1) := by decide +kernel
set_option maxRecDepth 20000 in
theorem ggX8_sit_X8_isPerson : GoodIn wsX8_sit wsX8_isPerson := goodIn_r _ [8, 9, 10, 11, 7, 12, 21, 22, 23, 24, 25, 26, 27, 28, 29, 30, 31, 32, 33, 34, 35, 36, 37, 38, 39, 40, 41, 42, 43, 44, 45, 46, 47, 48, 49] (by decide +kernel) (by decide +kernel)
set_option maxRecDepth 20000 in
theorem gX8_sit_X8_isPerson : GoodIn wsX8_sit (wsV RX8 168 RX8 yX8_isPerson wsX8_isPerson) := goodIn_app (goodIn_of _ (by decide +kernel)) ggX8_sit_X8_isPerson
set_option maxRecDepth 20000 in
theorem ggX8_sit_X8_isStone : GoodIn wsX8_sit wsX8_isStone := goodIn_r _ [16, 9, 10, 11, 7, 12, 21, 22, 23, 24, 25, 26, 27, 28, 29, 30, 31, 32, 33, 34, 35, 36, 37, 38, 39, 40, 41, 42, 43, 44, 45, 46, 47, 48, 49] (by decide +kernel) (by decide +kernel)
set_option maxRecDepth 20000 in
theorem gX8_sit_X8_isStone : GoodIn wsX8_sit (wsV RX8 160 RX8 yX8_isStone wsX8_isStone) := goodIn_app (goodIn_of _ (by decide +kernel)) ggX8_sit_X8_isStone
set_option maxRecDepth 20000 in
theorem ggX8_sit_X8_sitter : GoodIn wsX8_sit wsX8_sitter := goodIn_r _ [20, 9, 3, 21, 22, 23, 24, 25, 26, 27, 28, 29, 30, 31, 32, 33, 34, 35, 36, 37, 38, 39, 40, 41, 42, 43, 44, 45, 46, 47, 48, 49] (by decide +kernel) (by decide +kernel)
set_option maxRecDepth 20000 in
theorem gX8_sit_X8_sitter : GoodIn wsX8_sit (wsV RX8 165 RX8 yX8_sitter wsX8_sitter) := goodIn_app (goodIn_of _ (by decide +kernel)) ggX8_sit_X8_sitter
theorem dX8_sit_0 : decode cX8_sit 0 = .ok (.aload_n 0, 1) := by decide +kernel
theorem dX8_sit_1 : decode cX8_sit 1 = .ok (.iload_n 1, 1) := by decide +kernel
theorem dX8_sit_2 : decode cX8_sit 2 = .ok (.invokevirtual 168, 3) := by decide +kernel
theorem dX8_sit_5 : decode cX8_sit 5 = .ok (.ifCond .eq 16, 3) := by decide +kernel
theorem dX8_sit_8 : decode cX8_sit 8 = .ok (.iload_n 2, 1) := by decide +kernel
theorem dX8_sit_9 : decode cX8_sit 9 = .ok (.iconst (-1), 1) := by decide +kernel
theorem dX8_sit_10 : decode cX8_sit 10 = .ok (.if_icmp .eq 14, 3) := by decide +kernel
theorem dX8_sit_13 : decode cX8_sit 13 = .ok (.aload_n 0, 1) := by decide +kernel
theorem dX8_sit_14 : decode cX8_sit 14 = .ok (.iload_n 2, 1) := by decide +kernel
theorem dX8_sit_15 : decode cX8_sit 15 = .ok (.invokevirtual 160, 3) := by decide +kernel
theorem dX8_sit_18 : decode cX8_sit 18 = .ok (.ifCond .ne 6, 3) := by decide +kernel
theorem dX8_sit_21 : decode cX8_sit 21 = .ok (.ldc 164, 2) := by decide +kernel
theorem dX8_sit_23 : decode cX8_sit 23 = .ok (.ireturn, 1) := by decide +kernel
theorem dX8_sit_24 : decode cX8_sit 24 = .ok (.iload_n 2, 1) := by decide +kernel
theorem dX8_sit_25 : decode cX8_sit 25 = .ok (.ifCond .lt 25, 3) := by decide +kernel
theorem dX8_sit_28 : decode cX8_sit 28 = .ok (.aload_n 0, 1) := by decide +kernel
theorem dX8_sit_29 : decode cX8_sit 29 = .ok (.iconst 0, 1) := by decide +kernel
theorem dX8_sit_30 : decode cX8_sit 30 = .ok (.iload_n 2, 1) := by decide +kernel
theorem dX8_sit_31 : decode cX8_sit 31 = .ok (.invokevirtual 165, 3) := by decide +kernel
theorem dX8_sit_34 : decode cX8_sit 34 = .ok (.ifCond .lt 16, 3) := by decide +kernel
theorem dX8_sit_37 : decode cX8_sit 37 = .ok (.aload_n 0, 1) := by decide +kernel
theorem dX8_sit_38 : decode cX8_sit 38 = .ok (.iconst 0, 1) := by decide +kernel
theorem dX8_sit_39 : decode cX8_sit 39 = .ok (.iload_n 2, 1) := by decide +kernel
theorem dX8_sit_40 : decode cX8_sit 40 = .ok (.invokevirtual 165, 3) := by decide +kernel
theorem dX8_sit_43 : decode cX8_sit 43 = .ok (.iload_n 1, 1) := by decide +kernel
theorem dX8_sit_44 : decode cX8_sit 44 = .ok (.if_icmp .eq 6, 3) := by decide +kernel
theorem dX8_sit_47 : decode cX8_sit 47 = .ok (.ldc 198, 2) := by decide +kernel
theorem dX8_sit_49 : decode cX8_sit 49 = .ok (.ireturn, 1) := by decide +kernel
theorem dX8_sit_50 : decode cX8_sit 50 = .ok (.aload_n 0, 1) := by decide +kernel
theorem dX8_sit_51 : decode cX8_sit 51 = .ok (.getfield 7, 3) := by decide +kernel
theorem dX8_sit_54 : decode cX8_sit 54 = .ok (.bipush 20, 2) := by decide +kernel
theorem dX8_sit_56 : decode cX8_sit 56 = .ok (.iload_n 1, 1) := by decide +kernel
theorem dX8_sit_57 : decode cX8_sit 57 = .ok (.iadd, 1) := by decide +kernel
theorem dX8_sit_58 : decode cX8_sit 58 = .ok (.laload, 1) := by decide +kernel
theorem dX8_sit_59 : decode cX8_sit 59 = .ok (.l2i, 1) := by decide +kernel
theorem dX8_sit_60 : decode cX8_sit 60 = .ok (.istore_n 3, 1) := by decide +kernel
theorem dX8_sit_61 : decode cX8_sit 61 = .ok (.aload_n 0, 1) := by decide +kernel
theorem dX8_sit_62 : decode cX8_sit 62 = .ok (.getfield 7, 3) := by decide +kernel
theorem dX8_sit_65 : decode cX8_sit 65 = .ok (.bipush 20, 2) := by decide +kernel
theorem dX8_sit_67 : decode cX8_sit 67 = .ok (.iload_n 1, 1) := by decide +kernel
theorem dX8_sit_68 : decode cX8_sit 68 = .ok (.iadd, 1) := by decide +kernel
theorem dX8_sit_69 : decode cX8_sit 69 = .ok (.iload_n 2, 1) := by decide +kernel
theorem dX8_sit_70 : decode cX8_sit 70 = .ok (.i2l, 1) := by decide +kernel
theorem dX8_sit_71 : decode cX8_sit 71 = .ok (.lastore, 1) := by decide +kernel
theorem dX8_sit_72 : decode cX8_sit 72 = .ok (.iload_n 3, 1) := by decide +kernel
theorem dX8_sit_73 : decode cX8_sit 73 = .ok (.ireturn, 1) := by decide +kernel
set_option maxRecDepth 20000 in
theorem ggX8_coldNow_X8_isCold : GoodIn wsX8_coldNow wsX8_isCold := goodIn_r _ [6, 7, 8, 12, 13, 14, 15, 16, 17, 18, 19, 20, 21, 22, 23, 24, 25, 26, 27, 28, 29, 30, 31, 32, 33, 34, 35, 36, 37, 38, 39, 40] (by decide +kernel) (by decide +kernel)
set_option maxRecDepth 20000 in
theorem gX8_coldNow_X8_isCold : GoodIn wsX8_coldNow (wsV RX8 187 RX8 yX8_isCold wsX8_isCold) := goodIn_app (goodIn_of _ (by decide +kernel)) ggX8_coldNow_X8_isCold
set_option maxRecDepth 20000 in
theorem ggX8_coldNow_X8_one : GoodIn wsX8_coldNow wsX8_one := goodIn_r _ [11] (by decide +kernel) (by decide +kernel)
set_option maxRecDepth 20000 in
theorem gX8_coldNow_X8_one : GoodIn wsX8_coldNow (va_wsS RX8 191 yX8_one wsX8_one) := goodIn_app (goodIn_of _ (by decide +kernel)) ggX8_coldNow_X8_one
theorem dX8_coldNow_0 : decode cX8_coldNow 0 = .ok (.iconst 0, 1) := by decide +kernel
theorem dX8_coldNow_1 : decode cX8_coldNow 1 = .ok (.istore_n 1, 1) := by decide +kernel
theorem dX8_coldNow_2 : decode cX8_coldNow 2 = .ok (.iconst 0, 1) := by decide +kernel
theorem dX8_coldNow_3 : decode cX8_coldNow 3 = .ok (.istore_n 2, 1) := by decide +kernel
theorem dX8_coldNow_4 : decode cX8_coldNow 4 = .ok (.iload_n 2, 1) := by decide +kernel
theorem dX8_coldNow_5 : decode cX8_coldNow 5 = .ok (.aload_n 0, 1) := by decide +kernel
theorem dX8_coldNow_6 : decode cX8_coldNow 6 = .ok (.getfield 36, 3) := by decide +kernel
theorem dX8_coldNow_9 : decode cX8_coldNow 9 = .ok (.iconst 1, 1) := by decide +kernel
theorem dX8_coldNow_10 : decode cX8_coldNow 10 = .ok (.iaload, 1) := by decide +kernel
theorem dX8_coldNow_11 : decode cX8_coldNow 11 = .ok (.if_icmp .ge 23, 3) := by decide +kernel
theorem dX8_coldNow_14 : decode cX8_coldNow 14 = .ok (.iload_n 1, 1) := by decide +kernel
theorem dX8_coldNow_15 : decode cX8_coldNow 15 = .ok (.aload_n 0, 1) := by decide +kernel
theorem dX8_coldNow_16 : decode cX8_coldNow 16 = .ok (.iconst 0, 1) := by decide +kernel
theorem dX8_coldNow_17 : decode cX8_coldNow 17 = .ok (.iload_n 2, 1) := by decide +kernel
theorem dX8_coldNow_18 : decode cX8_coldNow 18 = .ok (.invokevirtual 187, 3) := by decide +kernel
theorem dX8_coldNow_21 : decode cX8_coldNow 21 = .ok (.invokestatic 191, 3) := by decide +kernel
theorem dX8_coldNow_24 : decode cX8_coldNow 24 = .ok (.iload_n 2, 1) := by decide +kernel
theorem dX8_coldNow_25 : decode cX8_coldNow 25 = .ok (.ishl, 1) := by decide +kernel
theorem dX8_coldNow_26 : decode cX8_coldNow 26 = .ok (.ior, 1) := by decide +kernel
theorem dX8_coldNow_27 : decode cX8_coldNow 27 = .ok (.istore_n 1, 1) := by decide +kernel
theorem dX8_coldNow_28 : decode cX8_coldNow 28 = .ok (.iinc 2 1, 3) := by decide +kernel
theorem dX8_coldNow_31 : decode cX8_coldNow 31 = .ok (.goto (-27), 3) := by decide +kernel
theorem dX8_coldNow_34 : decode cX8_coldNow 34 = .ok (.iload_n 1, 1) := by decide +kernel
theorem dX8_coldNow_35 : decode cX8_coldNow 35 = .ok (.ireturn, 1) := by decide +kernel
set_option maxRecDepth 20000 in
theorem ggX8_go_X8_in : GoodIn wsX8_go wsX8_in := goodIn_r _ [6] (by decide +kernel) (by decide +kernel)
set_option maxRecDepth 20000 in
theorem gX8_go_X8_in : GoodIn wsX8_go (va_wsS RX8 69 yX8_in wsX8_in) := goodIn_app (goodIn_of _ (by decide +kernel)) ggX8_go_X8_in
set_option maxRecDepth 20000 in
theorem ggX8_go_X8_pass : GoodIn wsX8_go wsX8_pass := goodIn_r _ [10, 11, 12, 13, 14, 15, 16, 17, 18, 19, 20, 5, 21, 22, 23, 24, 25, 26, 27, 28, 29, 30, 31, 32, 33, 34, 35, 36, 37, 38, 39, 40, 41, 42, 43, 44, 45, 46, 47, 52, 53, 54, 55, 56, 57, 58, 59, 60, 61, 62, 63, 64, 65, 66, 67, 68, 69, 70, 71, 72, 73, 74, 75, 76, 77, 78, 79, 80] (by decide +kernel) (by decide +kernel)
set_option maxRecDepth 20000 in
theorem gX8_go_X8_pass : GoodIn wsX8_go (wsV RX8 201 RX8 yX8_pass wsX8_pass) := goodIn_app (goodIn_of _ (by decide +kernel)) ggX8_go_X8_pass
set_option maxRecDepth 20000 in
theorem ggX8_go_X8_coldNow : GoodIn wsX8_go wsX8_coldNow := goodIn_r _ [51, 12, 33, 34, 35, 5, 36, 11, 37, 38, 39, 40, 52, 53, 54, 55, 56, 57, 58, 59, 60, 61, 62, 63, 64, 65, 66, 67, 68, 69, 70, 71, 72, 73, 74, 75, 76, 77, 78, 79, 80] (by decide +kernel) (by decide +kernel)
set_option maxRecDepth 20000 in
theorem gX8_go_X8_coldNow : GoodIn wsX8_go (wsV RX8 205 RX8 yX8_coldNow wsX8_coldNow) := goodIn_app (goodIn_of _ (by decide +kernel)) ggX8_go_X8_coldNow
theorem dX8_go_0 : decode cX8_go 0 = .ok (.iload_n 1, 1) := by decide +kernel
theorem dX8_go_1 : decode cX8_go 1 = .ok (.i2l, 1) := by decide +kernel
theorem dX8_go_2 : decode cX8_go 2 = .ok (.lconst 1, 1) := by decide +kernel
theorem dX8_go_3 : decode cX8_go 3 = .ok (.ldc2_w 199, 3) := by decide +kernel
theorem dX8_go_6 : decode cX8_go 6 = .ok (.invokestatic 69, 3) := by decide +kernel
theorem dX8_go_9 : decode cX8_go 9 = .ok (.ifCond .ne 6, 3) := by decide +kernel
theorem dX8_go_12 : decode cX8_go 12 = .ok (.ldc 73, 2) := by decide +kernel
theorem dX8_go_14 : decode cX8_go 14 = .ok (.ireturn, 1) := by decide +kernel
theorem dX8_go_15 : decode cX8_go 15 = .ok (.iconst 0, 1) := by decide +kernel
theorem dX8_go_16 : decode cX8_go 16 = .ok (.istore_n 2, 1) := by decide +kernel
theorem dX8_go_17 : decode cX8_go 17 = .ok (.iload_n 2, 1) := by decide +kernel
theorem dX8_go_18 : decode cX8_go 18 = .ok (.iload_n 1, 1) := by decide +kernel
theorem dX8_go_19 : decode cX8_go 19 = .ok (.if_icmp .ge 15, 3) := by decide +kernel
theorem dX8_go_22 : decode cX8_go 22 = .ok (.aload_n 0, 1) := by decide +kernel
theorem dX8_go_23 : decode cX8_go 23 = .ok (.iconst 0, 1) := by decide +kernel
theorem dX8_go_24 : decode cX8_go 24 = .ok (.invokevirtual 201, 3) := by decide +kernel
theorem dX8_go_27 : decode cX8_go 27 = .ok (.istore_n 3, 1) := by decide +kernel
theorem dX8_go_28 : decode cX8_go 28 = .ok (.iinc 2 1, 3) := by decide +kernel
theorem dX8_go_31 : decode cX8_go 31 = .ok (.goto (-14), 3) := by decide +kernel
theorem dX8_go_34 : decode cX8_go 34 = .ok (.aload_n 0, 1) := by decide +kernel
theorem dX8_go_35 : decode cX8_go 35 = .ok (.invokevirtual 205, 3) := by decide +kernel
theorem dX8_go_38 : decode cX8_go 38 = .ok (.ireturn, 1) := by decide +kernel
theorem dX8_draw_0 : decode cX8_draw 0 = .ok (.aload_n 0, 1) := by decide +kernel
theorem dX8_draw_1 : decode cX8_draw 1 = .ok (.getfield 7, 3) := by decide +kernel
theorem dX8_draw_4 : decode cX8_draw 4 = .ok (.sipush 133, 3) := by decide +kernel
theorem dX8_draw_7 : decode cX8_draw 7 = .ok (.aload_n 0, 1) := by decide +kernel
theorem dX8_draw_8 : decode cX8_draw 8 = .ok (.getfield 7, 3) := by decide +kernel
theorem dX8_draw_11 : decode cX8_draw 11 = .ok (.sipush 133, 3) := by decide +kernel
theorem dX8_draw_14 : decode cX8_draw 14 = .ok (.laload, 1) := by decide +kernel
theorem dX8_draw_15 : decode cX8_draw 15 = .ok (.ldc2_w 208, 3) := by decide +kernel
theorem dX8_draw_18 : decode cX8_draw 18 = .ok (.lmul, 1) := by decide +kernel
theorem dX8_draw_19 : decode cX8_draw 19 = .ok (.ldc2_w 210, 3) := by decide +kernel
theorem dX8_draw_22 : decode cX8_draw 22 = .ok (.ladd, 1) := by decide +kernel
theorem dX8_draw_23 : decode cX8_draw 23 = .ok (.ldc2_w 212, 3) := by decide +kernel
theorem dX8_draw_26 : decode cX8_draw 26 = .ok (.lrem, 1) := by decide +kernel
theorem dX8_draw_27 : decode cX8_draw 27 = .ok (.lastore, 1) := by decide +kernel
theorem dX8_draw_28 : decode cX8_draw 28 = .ok (.aload_n 0, 1) := by decide +kernel
theorem dX8_draw_29 : decode cX8_draw 29 = .ok (.getfield 7, 3) := by decide +kernel
theorem dX8_draw_32 : decode cX8_draw 32 = .ok (.sipush 133, 3) := by decide +kernel
theorem dX8_draw_35 : decode cX8_draw 35 = .ok (.laload, 1) := by decide +kernel
theorem dX8_draw_36 : decode cX8_draw 36 = .ok (.ldc2_w 214, 3) := by decide +kernel
theorem dX8_draw_39 : decode cX8_draw 39 = .ok (.ldiv, 1) := by decide +kernel
theorem dX8_draw_40 : decode cX8_draw 40 = .ok (.iload_n 1, 1) := by decide +kernel
theorem dX8_draw_41 : decode cX8_draw 41 = .ok (.i2l, 1) := by decide +kernel
theorem dX8_draw_42 : decode cX8_draw 42 = .ok (.lrem, 1) := by decide +kernel
theorem dX8_draw_43 : decode cX8_draw 43 = .ok (.l2i, 1) := by decide +kernel
theorem dX8_draw_44 : decode cX8_draw 44 = .ok (.ireturn, 1) := by decide +kernel
set_option maxRecDepth 20000 in
theorem ggX8_wander_X8_draw : GoodIn wsX8_wander wsX8_draw := goodIn_r _ [8, 1, 9, 10, 11, 12, 17, 18, 19, 20, 21, 22, 23, 24, 25, 26, 27, 28, 29, 30, 31, 32, 33, 34, 35, 36, 37, 38, 39, 40, 41, 42, 43, 44, 45] (by decide +kernel) (by decide +kernel)
set_option maxRecDepth 20000 in
theorem gX8_wander_X8_draw : GoodIn wsX8_wander (wsV RX8 216 RX8 yX8_draw wsX8_draw) := goodIn_app (goodIn_of _ (by decide +kernel)) ggX8_wander_X8_draw
set_option maxRecDepth 20000 in
theorem ggX8_wander_X8_sitter : GoodIn wsX8_wander wsX8_sitter := goodIn_r _ [16, 3, 1, 17, 18, 19, 20, 21, 22, 23, 24, 25, 26, 27, 28, 29, 30, 31, 32, 33, 34, 35, 36, 37, 38, 39, 40, 41, 42, 43, 44, 45] (by decide +kernel) (by decide +kernel)
set_option maxRecDepth 20000 in
theorem gX8_wander_X8_sitter : GoodIn wsX8_wander (wsV RX8 165 RX8 yX8_sitter wsX8_sitter) := goodIn_app (goodIn_of _ (by decide +kernel)) ggX8_wander_X8_sitter
theorem dX8_wander_0 : decode cX8_wander 0 = .ok (.aload_n 0, 1) := by decide +kernel
theorem dX8_wander_1 : decode cX8_wander 1 = .ok (.iconst 4, 1) := by decide +kernel
theorem dX8_wander_2 : decode cX8_wander 2 = .ok (.invokevirtual 216, 3) := by decide +kernel
theorem dX8_wander_5 : decode cX8_wander 5 = .ok (.ifCond .ne 64, 3) := by decide +kernel
theorem dX8_wander_8 : decode cX8_wander 8 = .ok (.aload_n 0, 1) := by decide +kernel
theorem dX8_wander_9 : decode cX8_wander 9 = .ok (.getfield 7, 3) := by decide +kernel
theorem dX8_wander_12 : decode cX8_wander 12 = .ok (.bipush 20, 2) := by decide +kernel
theorem dX8_wander_14 : decode cX8_wander 14 = .ok (.iload_n 1, 1) := by decide +kernel
theorem dX8_wander_15 : decode cX8_wander 15 = .ok (.iadd, 1) := by decide +kernel
theorem dX8_wander_16 : decode cX8_wander 16 = .ok (.ldc2_w 152, 3) := by decide +kernel
theorem dX8_wander_19 : decode cX8_wander 19 = .ok (.lastore, 1) := by decide +kernel
theorem dX8_wander_20 : decode cX8_wander 20 = .ok (.aload_n 0, 1) := by decide +kernel
theorem dX8_wander_21 : decode cX8_wander 21 = .ok (.aload_n 0, 1) := by decide +kernel
theorem dX8_wander_22 : decode cX8_wander 22 = .ok (.getfield 36, 3) := by decide +kernel
theorem dX8_wander_25 : decode cX8_wander 25 = .ok (.iconst 0, 1) := by decide +kernel
theorem dX8_wander_26 : decode cX8_wander 26 = .ok (.iaload, 1) := by decide +kernel
theorem dX8_wander_27 : decode cX8_wander 27 = .ok (.iconst 1, 1) := by decide +kernel
theorem dX8_wander_28 : decode cX8_wander 28 = .ok (.iadd, 1) := by decide +kernel
theorem dX8_wander_29 : decode cX8_wander 29 = .ok (.invokevirtual 216, 3) := by decide +kernel
theorem dX8_wander_32 : decode cX8_wander 32 = .ok (.istore_n 2, 1) := by decide +kernel
theorem dX8_wander_33 : decode cX8_wander 33 = .ok (.aload_n 0, 1) := by decide +kernel
theorem dX8_wander_34 : decode cX8_wander 34 = .ok (.getfield 7, 3) := by decide +kernel
theorem dX8_wander_37 : decode cX8_wander 37 = .ok (.bipush 20, 2) := by decide +kernel
theorem dX8_wander_39 : decode cX8_wander 39 = .ok (.iload_n 1, 1) := by decide +kernel
theorem dX8_wander_40 : decode cX8_wander 40 = .ok (.iadd, 1) := by decide +kernel
theorem dX8_wander_41 : decode cX8_wander 41 = .ok (.iload_n 2, 1) := by decide +kernel
theorem dX8_wander_42 : decode cX8_wander 42 = .ok (.aload_n 0, 1) := by decide +kernel
theorem dX8_wander_43 : decode cX8_wander 43 = .ok (.getfield 36, 3) := by decide +kernel
theorem dX8_wander_46 : decode cX8_wander 46 = .ok (.iconst 0, 1) := by decide +kernel
theorem dX8_wander_47 : decode cX8_wander 47 = .ok (.iaload, 1) := by decide +kernel
theorem dX8_wander_48 : decode cX8_wander 48 = .ok (.if_icmp .ge 17, 3) := by decide +kernel
theorem dX8_wander_51 : decode cX8_wander 51 = .ok (.aload_n 0, 1) := by decide +kernel
theorem dX8_wander_52 : decode cX8_wander 52 = .ok (.iconst 0, 1) := by decide +kernel
theorem dX8_wander_53 : decode cX8_wander 53 = .ok (.iload_n 2, 1) := by decide +kernel
theorem dX8_wander_54 : decode cX8_wander 54 = .ok (.invokevirtual 165, 3) := by decide +kernel
theorem dX8_wander_57 : decode cX8_wander 57 = .ok (.ifCond .ge 8, 3) := by decide +kernel
theorem dX8_wander_60 : decode cX8_wander 60 = .ok (.iload_n 2, 1) := by decide +kernel
theorem dX8_wander_61 : decode cX8_wander 61 = .ok (.i2l, 1) := by decide +kernel
theorem dX8_wander_62 : decode cX8_wander 62 = .ok (.goto 6, 3) := by decide +kernel
theorem dX8_wander_65 : decode cX8_wander 65 = .ok (.ldc2_w 152, 3) := by decide +kernel
theorem dX8_wander_68 : decode cX8_wander 68 = .ok (.lastore, 1) := by decide +kernel
theorem dX8_wander_69 : decode cX8_wander 69 = .ok (.return_, 1) := by decide +kernel
set_option maxRecDepth 20000 in
theorem ggX8_drift_X8_in : GoodIn wsX8_drift wsX8_in := goodIn_r _ [7] (by decide +kernel) (by decide +kernel)
set_option maxRecDepth 20000 in
theorem gX8_drift_X8_in : GoodIn wsX8_drift (va_wsS RX8 69 yX8_in wsX8_in) := goodIn_app (goodIn_of _ (by decide +kernel)) ggX8_drift_X8_in
set_option maxRecDepth 20000 in
theorem ggX8_drift_X8_wander : GoodIn wsX8_drift wsX8_wander := goodIn_r _ [11, 12, 13, 3, 14, 15, 16, 6, 17, 18, 19, 20, 21, 22, 23, 24, 25, 65, 66, 67, 68, 69, 70, 71, 72, 73, 74, 75, 76, 77, 78, 79, 80, 81, 82, 83, 84, 85, 86, 87, 88, 89, 90, 91, 92, 93] (by decide +kernel) (by decide +kernel)
set_option maxRecDepth 20000 in
theorem gX8_drift_X8_wander : GoodIn wsX8_drift (wsV RX8 219 RX8 yX8_wander wsX8_wander) := goodIn_app (goodIn_of _ (by decide +kernel)) ggX8_drift_X8_wander
set_option maxRecDepth 20000 in
theorem ggX8_drift_X8_pass : GoodIn wsX8_drift wsX8_pass := goodIn_r _ [29, 12, 3, 30, 31, 32, 33, 34, 35, 36, 37, 6, 38, 39, 40, 41, 42, 43, 44, 45, 46, 47, 48, 49, 50, 51, 52, 53, 54, 55, 56, 57, 22, 23, 24, 25, 58, 59, 60, 65, 66, 67, 68, 69, 70, 71, 72, 73, 74, 75, 76, 77, 78, 79, 80, 81, 82, 83, 84, 85, 86, 87, 88, 89, 90, 91, 92, 93] (by decide +kernel) (by decide +kernel)
set_option maxRecDepth 20000 in
theorem gX8_drift_X8_pass : GoodIn wsX8_drift (wsV RX8 201 RX8 yX8_pass wsX8_pass) := goodIn_app (goodIn_of _ (by decide +kernel)) ggX8_drift_X8_pass
set_option maxRecDepth 20000 in
theorem ggX8_drift_X8_coldNow : GoodIn wsX8_drift wsX8_coldNow := goodIn_r _ [64, 3, 50, 51, 52, 6, 53, 12, 54, 55, 56, 57, 65, 66, 67, 68, 69, 70, 71, 72, 73, 74, 75, 76, 77, 78, 79, 80, 81, 82, 83, 84, 85, 86, 87, 88, 89, 90, 91, 92, 93] (by decide +kernel) (by decide +kernel)
set_option maxRecDepth 20000 in
theorem gX8_drift_X8_coldNow : GoodIn wsX8_drift (wsV RX8 205 RX8 yX8_coldNow wsX8_coldNow) := goodIn_app (goodIn_of _ (by decide +kernel)) ggX8_drift_X8_coldNow
theorem dX8_drift_0 : decode cX8_drift 0 = .ok (.iload_n 1, 1) := by decide +kernel
theorem dX8_drift_1 : decode cX8_drift 1 = .ok (.i2l, 1) := by decide +kernel
theorem dX8_drift_2 : decode cX8_drift 2 = .ok (.lconst 1, 1) := by decide +kernel
theorem dX8_drift_3 : decode cX8_drift 3 = .ok (.ldc2_w 199, 3) := by decide +kernel
theorem dX8_drift_6 : decode cX8_drift 6 = .ok (.invokestatic 69, 3) := by decide +kernel
theorem dX8_drift_9 : decode cX8_drift 9 = .ok (.ifCond .ne 6, 3) := by decide +kernel
theorem dX8_drift_12 : decode cX8_drift 12 = .ok (.ldc 73, 2) := by decide +kernel
theorem dX8_drift_14 : decode cX8_drift 14 = .ok (.ireturn, 1) := by decide +kernel
theorem dX8_drift_15 : decode cX8_drift 15 = .ok (.iconst 0, 1) := by decide +kernel
theorem dX8_drift_16 : decode cX8_drift 16 = .ok (.istore_n 2, 1) := by decide +kernel
theorem dX8_drift_17 : decode cX8_drift 17 = .ok (.iload_n 2, 1) := by decide +kernel
theorem dX8_drift_18 : decode cX8_drift 18 = .ok (.iload_n 1, 1) := by decide +kernel
theorem dX8_drift_19 : decode cX8_drift 19 = .ok (.if_icmp .ge 38, 3) := by decide +kernel
theorem dX8_drift_22 : decode cX8_drift 22 = .ok (.iconst 0, 1) := by decide +kernel
theorem dX8_drift_23 : decode cX8_drift 23 = .ok (.istore_n 3, 1) := by decide +kernel
theorem dX8_drift_24 : decode cX8_drift 24 = .ok (.iload_n 3, 1) := by decide +kernel
theorem dX8_drift_25 : decode cX8_drift 25 = .ok (.aload_n 0, 1) := by decide +kernel
theorem dX8_drift_26 : decode cX8_drift 26 = .ok (.getfield 36, 3) := by decide +kernel
theorem dX8_drift_29 : decode cX8_drift 29 = .ok (.iconst 1, 1) := by decide +kernel
theorem dX8_drift_30 : decode cX8_drift 30 = .ok (.iaload, 1) := by decide +kernel
theorem dX8_drift_31 : decode cX8_drift 31 = .ok (.if_icmp .ge 14, 3) := by decide +kernel
theorem dX8_drift_34 : decode cX8_drift 34 = .ok (.aload_n 0, 1) := by decide +kernel
theorem dX8_drift_35 : decode cX8_drift 35 = .ok (.iload_n 3, 1) := by decide +kernel
theorem dX8_drift_36 : decode cX8_drift 36 = .ok (.invokevirtual 219, 3) := by decide +kernel
theorem dX8_drift_39 : decode cX8_drift 39 = .ok (.iinc 3 1, 3) := by decide +kernel
theorem dX8_drift_42 : decode cX8_drift 42 = .ok (.goto (-18), 3) := by decide +kernel
theorem dX8_drift_45 : decode cX8_drift 45 = .ok (.aload_n 0, 1) := by decide +kernel
theorem dX8_drift_46 : decode cX8_drift 46 = .ok (.iconst 0, 1) := by decide +kernel
theorem dX8_drift_47 : decode cX8_drift 47 = .ok (.invokevirtual 201, 3) := by decide +kernel
theorem dX8_drift_50 : decode cX8_drift 50 = .ok (.istore_n 3, 1) := by decide +kernel
theorem dX8_drift_51 : decode cX8_drift 51 = .ok (.iinc 2 1, 3) := by decide +kernel
theorem dX8_drift_54 : decode cX8_drift 54 = .ok (.goto (-37), 3) := by decide +kernel
theorem dX8_drift_57 : decode cX8_drift 57 = .ok (.aload_n 0, 1) := by decide +kernel
theorem dX8_drift_58 : decode cX8_drift 58 = .ok (.invokevirtual 205, 3) := by decide +kernel
theorem dX8_drift_61 : decode cX8_drift 61 = .ok (.ireturn, 1) := by decide +kernel
set_option maxRecDepth 20000 in
theorem ggX8_own_X8_isPerson : GoodIn wsX8_own wsX8_isPerson := goodIn_r _ [10, 11, 12, 13, 9, 14, 22, 23, 24, 25, 26, 27, 28, 29, 30, 31, 32, 33, 34, 35, 36, 37, 38, 39, 40, 41, 42, 43, 44, 45, 46, 47, 48, 49, 50] (by decide +kernel) (by decide +kernel)
set_option maxRecDepth 20000 in
theorem gX8_own_X8_isPerson : GoodIn wsX8_own (wsV RX8 168 RX8 yX8_isPerson wsX8_isPerson) := goodIn_app (goodIn_of _ (by decide +kernel)) ggX8_own_X8_isPerson
set_option maxRecDepth 20000 in
theorem ggX8_own_X8_isStone : GoodIn wsX8_own wsX8_isStone := goodIn_r _ [18, 11, 12, 13, 9, 14, 22, 23, 24, 25, 26, 27, 28, 29, 30, 31, 32, 33, 34, 35, 36, 37, 38, 39, 40, 41, 42, 43, 44, 45, 46, 47, 48, 49, 50] (by decide +kernel) (by decide +kernel)
set_option maxRecDepth 20000 in
theorem gX8_own_X8_isStone : GoodIn wsX8_own (wsV RX8 160 RX8 yX8_isStone wsX8_isStone) := goodIn_app (goodIn_of _ (by decide +kernel)) ggX8_own_X8_isStone
set_option maxRecDepth 20000 in
theorem ggX8_own_X8_in : GoodIn wsX8_own wsX8_in := goodIn_r _ [14] (by decide +kernel) (by decide +kernel)
set_option maxRecDepth 20000 in
theorem gX8_own_X8_in : GoodIn wsX8_own (va_wsS RX8 69 yX8_in wsX8_in) := goodIn_app (goodIn_of _ (by decide +kernel)) ggX8_own_X8_in
set_option maxRecDepth 20000 in
theorem ggX8_own_X8_less : GoodIn wsX8_own wsX8_less := goodIn_r _ [21] (by decide +kernel) (by decide +kernel)
set_option maxRecDepth 20000 in
theorem gX8_own_X8_less : GoodIn wsX8_own (va_wsS RX8 175 yX8_less wsX8_less) := goodIn_app (goodIn_of _ (by decide +kernel)) ggX8_own_X8_less
theorem dX8_own_0 : decode cX8_own 0 = .ok (.aload_n 0, 1) := by decide +kernel
theorem dX8_own_1 : decode cX8_own 1 = .ok (.iload_n 1, 1) := by decide +kernel
theorem dX8_own_2 : decode cX8_own 2 = .ok (.invokevirtual 168, 3) := by decide +kernel
theorem dX8_own_5 : decode cX8_own 5 = .ok (.ifCond .eq 11, 3) := by decide +kernel
theorem dX8_own_8 : decode cX8_own 8 = .ok (.aload_n 0, 1) := by decide +kernel
theorem dX8_own_9 : decode cX8_own 9 = .ok (.iload_n 2, 1) := by decide +kernel
theorem dX8_own_10 : decode cX8_own 10 = .ok (.invokevirtual 160, 3) := by decide +kernel
theorem dX8_own_13 : decode cX8_own 13 = .ok (.ifCond .ne 6, 3) := by decide +kernel
theorem dX8_own_16 : decode cX8_own 16 = .ok (.ldc 164, 2) := by decide +kernel
theorem dX8_own_18 : decode cX8_own 18 = .ok (.ireturn, 1) := by decide +kernel
theorem dX8_own_19 : decode cX8_own 19 = .ok (.iload_n 3, 1) := by decide +kernel
theorem dX8_own_20 : decode cX8_own 20 = .ok (.i2l, 1) := by decide +kernel
theorem dX8_own_21 : decode cX8_own 21 = .ok (.lconst 1, 1) := by decide +kernel
theorem dX8_own_22 : decode cX8_own 22 = .ok (.ldc2_w 222, 3) := by decide +kernel
theorem dX8_own_25 : decode cX8_own 25 = .ok (.invokestatic 69, 3) := by decide +kernel
theorem dX8_own_28 : decode cX8_own 28 = .ok (.ifCond .ne 6, 3) := by decide +kernel
theorem dX8_own_31 : decode cX8_own 31 = .ok (.ldc 73, 2) := by decide +kernel
theorem dX8_own_33 : decode cX8_own 33 = .ok (.ireturn, 1) := by decide +kernel
theorem dX8_own_34 : decode cX8_own 34 = .ok (.bipush 60, 2) := by decide +kernel
theorem dX8_own_36 : decode cX8_own 36 = .ok (.bipush 9, 2) := by decide +kernel
theorem dX8_own_38 : decode cX8_own 38 = .ok (.iload_n 1, 1) := by decide +kernel
theorem dX8_own_39 : decode cX8_own 39 = .ok (.imul, 1) := by decide +kernel
theorem dX8_own_40 : decode cX8_own 40 = .ok (.iadd, 1) := by decide +kernel
theorem dX8_own_41 : decode cX8_own 41 = .ok (.iload_n 2, 1) := by decide +kernel
theorem dX8_own_42 : decode cX8_own 42 = .ok (.iadd, 1) := by decide +kernel
theorem dX8_own_43 : decode cX8_own 43 = .ok (.istore 4, 2) := by decide +kernel
theorem dX8_own_45 : decode cX8_own 45 = .ok (.aload_n 0, 1) := by decide +kernel
theorem dX8_own_46 : decode cX8_own 46 = .ok (.getfield 7, 3) := by decide +kernel
theorem dX8_own_49 : decode cX8_own 49 = .ok (.iload 4, 2) := by decide +kernel
theorem dX8_own_51 : decode cX8_own 51 = .ok (.ldc2_w 224, 3) := by decide +kernel
theorem dX8_own_54 : decode cX8_own 54 = .ok (.aload_n 0, 1) := by decide +kernel
theorem dX8_own_55 : decode cX8_own 55 = .ok (.getfield 7, 3) := by decide +kernel
theorem dX8_own_58 : decode cX8_own 58 = .ok (.iload 4, 2) := by decide +kernel
theorem dX8_own_60 : decode cX8_own 60 = .ok (.laload, 1) := by decide +kernel
theorem dX8_own_61 : decode cX8_own 61 = .ok (.iload_n 3, 1) := by decide +kernel
theorem dX8_own_62 : decode cX8_own 62 = .ok (.i2l, 1) := by decide +kernel
theorem dX8_own_63 : decode cX8_own 63 = .ok (.ladd, 1) := by decide +kernel
theorem dX8_own_64 : decode cX8_own 64 = .ok (.invokestatic 175, 3) := by decide +kernel
theorem dX8_own_67 : decode cX8_own 67 = .ok (.lastore, 1) := by decide +kernel
theorem dX8_own_68 : decode cX8_own 68 = .ok (.aload_n 0, 1) := by decide +kernel
theorem dX8_own_69 : decode cX8_own 69 = .ok (.getfield 7, 3) := by decide +kernel
theorem dX8_own_72 : decode cX8_own 72 = .ok (.iload 4, 2) := by decide +kernel
theorem dX8_own_74 : decode cX8_own 74 = .ok (.laload, 1) := by decide +kernel
theorem dX8_own_75 : decode cX8_own 75 = .ok (.l2i, 1) := by decide +kernel
theorem dX8_own_76 : decode cX8_own 76 = .ok (.ireturn, 1) := by decide +kernel
set_option maxRecDepth 20000 in
theorem ggX8_trade_X8_isPerson : GoodIn wsX8_trade wsX8_isPerson := goodIn_r _ [12, 13, 14, 15, 11, 16, 21, 22, 23, 24, 25, 26, 27, 28, 29, 30, 31, 32, 33, 34, 35, 36, 37, 38, 39, 40, 41, 42, 43, 44, 45, 46, 47, 48, 49] (by decide +kernel) (by decide +kernel)
set_option maxRecDepth 20000 in
theorem gX8_trade_X8_isPerson : GoodIn wsX8_trade (wsV RX8 168 RX8 yX8_isPerson wsX8_isPerson) := goodIn_app (goodIn_of _ (by decide +kernel)) ggX8_trade_X8_isPerson
set_option maxRecDepth 20000 in
theorem ggX8_trade_X8_isStone : GoodIn wsX8_trade wsX8_isStone := goodIn_r _ [20, 13, 14, 15, 11, 16, 21, 22, 23, 24, 25, 26, 27, 28, 29, 30, 31, 32, 33, 34, 35, 36, 37, 38, 39, 40, 41, 42, 43, 44, 45, 46, 47, 48, 49] (by decide +kernel) (by decide +kernel)
set_option maxRecDepth 20000 in
theorem gX8_trade_X8_isStone : GoodIn wsX8_trade (wsV RX8 160 RX8 yX8_isStone wsX8_isStone) := goodIn_app (goodIn_of _ (by decide +kernel)) ggX8_trade_X8_isStone
set_option maxRecDepth 20000 in
theorem ggX8_trade_X8_in : GoodIn wsX8_trade wsX8_in := goodIn_r _ [16] (by decide +kernel) (by decide +kernel)
set_option maxRecDepth 20000 in
theorem gX8_trade_X8_in : GoodIn wsX8_trade (va_wsS RX8 69 yX8_in wsX8_in) := goodIn_app (goodIn_of _ (by decide +kernel)) ggX8_trade_X8_in
theorem dX8_trade_0 : decode cX8_trade 0 = .ok (.aload_n 0, 1) := by decide +kernel
theorem dX8_trade_1 : decode cX8_trade 1 = .ok (.iload_n 1, 1) := by decide +kernel
theorem dX8_trade_2 : decode cX8_trade 2 = .ok (.invokevirtual 168, 3) := by decide +kernel
theorem dX8_trade_5 : decode cX8_trade 5 = .ok (.ifCond .eq 24, 3) := by decide +kernel
theorem dX8_trade_8 : decode cX8_trade 8 = .ok (.aload_n 0, 1) := by decide +kernel
theorem dX8_trade_9 : decode cX8_trade 9 = .ok (.iload_n 2, 1) := by decide +kernel
theorem dX8_trade_10 : decode cX8_trade 10 = .ok (.invokevirtual 168, 3) := by decide +kernel
theorem dX8_trade_13 : decode cX8_trade 13 = .ok (.ifCond .eq 16, 3) := by decide +kernel
theorem dX8_trade_16 : decode cX8_trade 16 = .ok (.iload_n 1, 1) := by decide +kernel
theorem dX8_trade_17 : decode cX8_trade 17 = .ok (.iload_n 2, 1) := by decide +kernel
theorem dX8_trade_18 : decode cX8_trade 18 = .ok (.if_icmp .eq 11, 3) := by decide +kernel
theorem dX8_trade_21 : decode cX8_trade 21 = .ok (.aload_n 0, 1) := by decide +kernel
theorem dX8_trade_22 : decode cX8_trade 22 = .ok (.iload_n 3, 1) := by decide +kernel
theorem dX8_trade_23 : decode cX8_trade 23 = .ok (.invokevirtual 160, 3) := by decide +kernel
theorem dX8_trade_26 : decode cX8_trade 26 = .ok (.ifCond .ne 6, 3) := by decide +kernel
theorem dX8_trade_29 : decode cX8_trade 29 = .ok (.ldc 164, 2) := by decide +kernel
theorem dX8_trade_31 : decode cX8_trade 31 = .ok (.ireturn, 1) := by decide +kernel
theorem dX8_trade_32 : decode cX8_trade 32 = .ok (.iload 4, 2) := by decide +kernel
theorem dX8_trade_34 : decode cX8_trade 34 = .ok (.i2l, 1) := by decide +kernel
theorem dX8_trade_35 : decode cX8_trade 35 = .ok (.lconst 1, 1) := by decide +kernel
theorem dX8_trade_36 : decode cX8_trade 36 = .ok (.ldc2_w 222, 3) := by decide +kernel
theorem dX8_trade_39 : decode cX8_trade 39 = .ok (.invokestatic 69, 3) := by decide +kernel
theorem dX8_trade_42 : decode cX8_trade 42 = .ok (.ifCond .ne 6, 3) := by decide +kernel
theorem dX8_trade_45 : decode cX8_trade 45 = .ok (.ldc 73, 2) := by decide +kernel
theorem dX8_trade_47 : decode cX8_trade 47 = .ok (.ireturn, 1) := by decide +kernel
theorem dX8_trade_48 : decode cX8_trade 48 = .ok (.bipush 60, 2) := by decide +kernel
theorem dX8_trade_50 : decode cX8_trade 50 = .ok (.bipush 9, 2) := by decide +kernel
theorem dX8_trade_52 : decode cX8_trade 52 = .ok (.iload_n 1, 1) := by decide +kernel
theorem dX8_trade_53 : decode cX8_trade 53 = .ok (.imul, 1) := by decide +kernel
theorem dX8_trade_54 : decode cX8_trade 54 = .ok (.iadd, 1) := by decide +kernel
theorem dX8_trade_55 : decode cX8_trade 55 = .ok (.iload_n 3, 1) := by decide +kernel
theorem dX8_trade_56 : decode cX8_trade 56 = .ok (.iadd, 1) := by decide +kernel
theorem dX8_trade_57 : decode cX8_trade 57 = .ok (.istore 5, 2) := by decide +kernel
theorem dX8_trade_59 : decode cX8_trade 59 = .ok (.bipush 60, 2) := by decide +kernel
theorem dX8_trade_61 : decode cX8_trade 61 = .ok (.bipush 9, 2) := by decide +kernel
theorem dX8_trade_63 : decode cX8_trade 63 = .ok (.iload_n 2, 1) := by decide +kernel
theorem dX8_trade_64 : decode cX8_trade 64 = .ok (.imul, 1) := by decide +kernel
theorem dX8_trade_65 : decode cX8_trade 65 = .ok (.iadd, 1) := by decide +kernel
theorem dX8_trade_66 : decode cX8_trade 66 = .ok (.iload_n 3, 1) := by decide +kernel
theorem dX8_trade_67 : decode cX8_trade 67 = .ok (.iadd, 1) := by decide +kernel
theorem dX8_trade_68 : decode cX8_trade 68 = .ok (.istore 6, 2) := by decide +kernel
theorem dX8_trade_70 : decode cX8_trade 70 = .ok (.aload_n 0, 1) := by decide +kernel
theorem dX8_trade_71 : decode cX8_trade 71 = .ok (.getfield 7, 3) := by decide +kernel
theorem dX8_trade_74 : decode cX8_trade 74 = .ok (.iload 5, 2) := by decide +kernel
theorem dX8_trade_76 : decode cX8_trade 76 = .ok (.laload, 1) := by decide +kernel
theorem dX8_trade_77 : decode cX8_trade 77 = .ok (.iload 4, 2) := by decide +kernel
theorem dX8_trade_79 : decode cX8_trade 79 = .ok (.i2l, 1) := by decide +kernel
theorem dX8_trade_80 : decode cX8_trade 80 = .ok (.lcmp, 1) := by decide +kernel
theorem dX8_trade_81 : decode cX8_trade 81 = .ok (.ifCond .ge 6, 3) := by decide +kernel
theorem dX8_trade_84 : decode cX8_trade 84 = .ok (.ldc 198, 2) := by decide +kernel
theorem dX8_trade_86 : decode cX8_trade 86 = .ok (.ireturn, 1) := by decide +kernel
theorem dX8_trade_87 : decode cX8_trade 87 = .ok (.aload_n 0, 1) := by decide +kernel
theorem dX8_trade_88 : decode cX8_trade 88 = .ok (.getfield 7, 3) := by decide +kernel
theorem dX8_trade_91 : decode cX8_trade 91 = .ok (.iload 6, 2) := by decide +kernel
theorem dX8_trade_93 : decode cX8_trade 93 = .ok (.laload, 1) := by decide +kernel
theorem dX8_trade_94 : decode cX8_trade 94 = .ok (.iload 4, 2) := by decide +kernel
theorem dX8_trade_96 : decode cX8_trade 96 = .ok (.i2l, 1) := by decide +kernel
theorem dX8_trade_97 : decode cX8_trade 97 = .ok (.ladd, 1) := by decide +kernel
theorem dX8_trade_98 : decode cX8_trade 98 = .ok (.ldc2_w 224, 3) := by decide +kernel
theorem dX8_trade_101 : decode cX8_trade 101 = .ok (.lcmp, 1) := by decide +kernel
theorem dX8_trade_102 : decode cX8_trade 102 = .ok (.ifCond .le 6, 3) := by decide +kernel
theorem dX8_trade_105 : decode cX8_trade 105 = .ok (.ldc 77, 2) := by decide +kernel
theorem dX8_trade_107 : decode cX8_trade 107 = .ok (.ireturn, 1) := by decide +kernel
theorem dX8_trade_108 : decode cX8_trade 108 = .ok (.aload_n 0, 1) := by decide +kernel
theorem dX8_trade_109 : decode cX8_trade 109 = .ok (.getfield 7, 3) := by decide +kernel
theorem dX8_trade_112 : decode cX8_trade 112 = .ok (.iload 5, 2) := by decide +kernel
theorem dX8_trade_114 : decode cX8_trade 114 = .ok (.dup2, 1) := by decide +kernel
theorem dX8_trade_115 : decode cX8_trade 115 = .ok (.laload, 1) := by decide +kernel
theorem dX8_trade_116 : decode cX8_trade 116 = .ok (.iload 4, 2) := by decide +kernel
theorem dX8_trade_118 : decode cX8_trade 118 = .ok (.i2l, 1) := by decide +kernel
theorem dX8_trade_119 : decode cX8_trade 119 = .ok (.lsub, 1) := by decide +kernel
theorem dX8_trade_120 : decode cX8_trade 120 = .ok (.lastore, 1) := by decide +kernel
theorem dX8_trade_121 : decode cX8_trade 121 = .ok (.aload_n 0, 1) := by decide +kernel
theorem dX8_trade_122 : decode cX8_trade 122 = .ok (.getfield 7, 3) := by decide +kernel
theorem dX8_trade_125 : decode cX8_trade 125 = .ok (.iload 6, 2) := by decide +kernel
theorem dX8_trade_127 : decode cX8_trade 127 = .ok (.dup2, 1) := by decide +kernel
theorem dX8_trade_128 : decode cX8_trade 128 = .ok (.laload, 1) := by decide +kernel
theorem dX8_trade_129 : decode cX8_trade 129 = .ok (.iload 4, 2) := by decide +kernel
theorem dX8_trade_131 : decode cX8_trade 131 = .ok (.i2l, 1) := by decide +kernel
theorem dX8_trade_132 : decode cX8_trade 132 = .ok (.ladd, 1) := by decide +kernel
theorem dX8_trade_133 : decode cX8_trade 133 = .ok (.lastore, 1) := by decide +kernel
theorem dX8_trade_134 : decode cX8_trade 134 = .ok (.aload_n 0, 1) := by decide +kernel
theorem dX8_trade_135 : decode cX8_trade 135 = .ok (.getfield 7, 3) := by decide +kernel
theorem dX8_trade_138 : decode cX8_trade 138 = .ok (.iload 5, 2) := by decide +kernel
theorem dX8_trade_140 : decode cX8_trade 140 = .ok (.laload, 1) := by decide +kernel
theorem dX8_trade_141 : decode cX8_trade 141 = .ok (.l2i, 1) := by decide +kernel
theorem dX8_trade_142 : decode cX8_trade 142 = .ok (.ireturn, 1) := by decide +kernel
set_option maxRecDepth 20000 in
theorem ggX8_forgive_X8_isPerson : GoodIn wsX8_forgive wsX8_isPerson := goodIn_r _ [7, 8, 9, 10, 6, 11, 12, 13, 14, 15, 16, 17, 18, 19, 20, 21, 22, 23, 24, 25, 26, 27, 28, 29, 30, 31, 32, 33, 34, 35, 36, 37, 38, 39, 40] (by decide +kernel) (by decide +kernel)
set_option maxRecDepth 20000 in
theorem gX8_forgive_X8_isPerson : GoodIn wsX8_forgive (wsV RX8 168 RX8 yX8_isPerson wsX8_isPerson) := goodIn_app (goodIn_of _ (by decide +kernel)) ggX8_forgive_X8_isPerson
theorem dX8_forgive_0 : decode cX8_forgive 0 = .ok (.aload_n 0, 1) := by decide +kernel
theorem dX8_forgive_1 : decode cX8_forgive 1 = .ok (.iload_n 1, 1) := by decide +kernel
theorem dX8_forgive_2 : decode cX8_forgive 2 = .ok (.invokevirtual 168, 3) := by decide +kernel
theorem dX8_forgive_5 : decode cX8_forgive 5 = .ok (.ifCond .ne 6, 3) := by decide +kernel
theorem dX8_forgive_8 : decode cX8_forgive 8 = .ok (.ldc 164, 2) := by decide +kernel
theorem dX8_forgive_10 : decode cX8_forgive 10 = .ok (.ireturn, 1) := by decide +kernel
theorem dX8_forgive_11 : decode cX8_forgive 11 = .ok (.aload_n 0, 1) := by decide +kernel
theorem dX8_forgive_12 : decode cX8_forgive 12 = .ok (.getfield 7, 3) := by decide +kernel
theorem dX8_forgive_15 : decode cX8_forgive 15 = .ok (.bipush 50, 2) := by decide +kernel
theorem dX8_forgive_17 : decode cX8_forgive 17 = .ok (.iload_n 1, 1) := by decide +kernel
theorem dX8_forgive_18 : decode cX8_forgive 18 = .ok (.iadd, 1) := by decide +kernel
theorem dX8_forgive_19 : decode cX8_forgive 19 = .ok (.laload, 1) := by decide +kernel
theorem dX8_forgive_20 : decode cX8_forgive 20 = .ok (.l2i, 1) := by decide +kernel
theorem dX8_forgive_21 : decode cX8_forgive 21 = .ok (.istore_n 2, 1) := by decide +kernel
theorem dX8_forgive_22 : decode cX8_forgive 22 = .ok (.aload_n 0, 1) := by decide +kernel
theorem dX8_forgive_23 : decode cX8_forgive 23 = .ok (.getfield 7, 3) := by decide +kernel
theorem dX8_forgive_26 : decode cX8_forgive 26 = .ok (.bipush 50, 2) := by decide +kernel
theorem dX8_forgive_28 : decode cX8_forgive 28 = .ok (.iload_n 1, 1) := by decide +kernel
theorem dX8_forgive_29 : decode cX8_forgive 29 = .ok (.iadd, 1) := by decide +kernel
theorem dX8_forgive_30 : decode cX8_forgive 30 = .ok (.lconst 0, 1) := by decide +kernel
theorem dX8_forgive_31 : decode cX8_forgive 31 = .ok (.lastore, 1) := by decide +kernel
theorem dX8_forgive_32 : decode cX8_forgive 32 = .ok (.aload_n 0, 1) := by decide +kernel
theorem dX8_forgive_33 : decode cX8_forgive 33 = .ok (.getfield 7, 3) := by decide +kernel
theorem dX8_forgive_36 : decode cX8_forgive 36 = .ok (.bipush 40, 2) := by decide +kernel
theorem dX8_forgive_38 : decode cX8_forgive 38 = .ok (.iload_n 1, 1) := by decide +kernel
theorem dX8_forgive_39 : decode cX8_forgive 39 = .ok (.iadd, 1) := by decide +kernel
theorem dX8_forgive_40 : decode cX8_forgive 40 = .ok (.lconst 0, 1) := by decide +kernel
theorem dX8_forgive_41 : decode cX8_forgive 41 = .ok (.lastore, 1) := by decide +kernel
theorem dX8_forgive_42 : decode cX8_forgive 42 = .ok (.iload_n 2, 1) := by decide +kernel
theorem dX8_forgive_43 : decode cX8_forgive 43 = .ok (.ireturn, 1) := by decide +kernel
theorem dX8_copy_0 : decode cX8_copy 0 = .ok (.iconst 0, 1) := by decide +kernel
theorem dX8_copy_1 : decode cX8_copy 1 = .ok (.istore_n 3, 1) := by decide +kernel
theorem dX8_copy_2 : decode cX8_copy 2 = .ok (.iload_n 3, 1) := by decide +kernel
theorem dX8_copy_3 : decode cX8_copy 3 = .ok (.sipush 140, 3) := by decide +kernel
theorem dX8_copy_6 : decode cX8_copy 6 = .ok (.if_icmp .ge 25, 3) := by decide +kernel
theorem dX8_copy_9 : decode cX8_copy 9 = .ok (.aload_n 0, 1) := by decide +kernel
theorem dX8_copy_10 : decode cX8_copy 10 = .ok (.getfield 7, 3) := by decide +kernel
theorem dX8_copy_13 : decode cX8_copy 13 = .ok (.iload_n 2, 1) := by decide +kernel
theorem dX8_copy_14 : decode cX8_copy 14 = .ok (.iload_n 3, 1) := by decide +kernel
theorem dX8_copy_15 : decode cX8_copy 15 = .ok (.iadd, 1) := by decide +kernel
theorem dX8_copy_16 : decode cX8_copy 16 = .ok (.aload_n 0, 1) := by decide +kernel
theorem dX8_copy_17 : decode cX8_copy 17 = .ok (.getfield 7, 3) := by decide +kernel
theorem dX8_copy_20 : decode cX8_copy 20 = .ok (.iload_n 1, 1) := by decide +kernel
theorem dX8_copy_21 : decode cX8_copy 21 = .ok (.iload_n 3, 1) := by decide +kernel
theorem dX8_copy_22 : decode cX8_copy 22 = .ok (.iadd, 1) := by decide +kernel
theorem dX8_copy_23 : decode cX8_copy 23 = .ok (.laload, 1) := by decide +kernel
theorem dX8_copy_24 : decode cX8_copy 24 = .ok (.lastore, 1) := by decide +kernel
theorem dX8_copy_25 : decode cX8_copy 25 = .ok (.iinc 3 1, 3) := by decide +kernel
theorem dX8_copy_28 : decode cX8_copy 28 = .ok (.goto (-26), 3) := by decide +kernel
theorem dX8_copy_31 : decode cX8_copy 31 = .ok (.return_, 1) := by decide +kernel
set_option maxRecDepth 20000 in
theorem ggX8_tryAllUp_X8_copy : GoodIn wsX8_tryAllUp wsX8_copy := goodIn_r _ [7, 1, 8, 9, 10, 11, 12, 13, 14, 15, 16, 17, 18, 19, 20, 21, 22, 23, 24, 25, 26, 27, 28, 29, 30, 31, 32, 33, 34, 35, 36] (by decide +kernel) (by decide +kernel)
set_option maxRecDepth 20000 in
theorem gX8_tryAllUp_X8_copy : GoodIn wsX8_tryAllUp (wsV RX8 226 RX8 yX8_copy wsX8_copy) := goodIn_app (goodIn_of _ (by decide +kernel)) ggX8_tryAllUp_X8_copy
theorem dX8_tryAllUp_0 : decode cX8_tryAllUp 0 = .ok (.aload_n 0, 1) := by decide +kernel
theorem dX8_tryAllUp_1 : decode cX8_tryAllUp 1 = .ok (.iconst 0, 1) := by decide +kernel
theorem dX8_tryAllUp_2 : decode cX8_tryAllUp 2 = .ok (.sipush 140, 3) := by decide +kernel
theorem dX8_tryAllUp_5 : decode cX8_tryAllUp 5 = .ok (.invokevirtual 226, 3) := by decide +kernel
theorem dX8_tryAllUp_8 : decode cX8_tryAllUp 8 = .ok (.iconst 0, 1) := by decide +kernel
theorem dX8_tryAllUp_9 : decode cX8_tryAllUp 9 = .ok (.istore_n 1, 1) := by decide +kernel
theorem dX8_tryAllUp_10 : decode cX8_tryAllUp 10 = .ok (.iload_n 1, 1) := by decide +kernel
theorem dX8_tryAllUp_11 : decode cX8_tryAllUp 11 = .ok (.bipush 8, 2) := by decide +kernel
theorem dX8_tryAllUp_13 : decode cX8_tryAllUp 13 = .ok (.if_icmp .ge 33, 3) := by decide +kernel
theorem dX8_tryAllUp_16 : decode cX8_tryAllUp 16 = .ok (.aload_n 0, 1) := by decide +kernel
theorem dX8_tryAllUp_17 : decode cX8_tryAllUp 17 = .ok (.getfield 7, 3) := by decide +kernel
theorem dX8_tryAllUp_20 : decode cX8_tryAllUp 20 = .ok (.sipush 160, 3) := by decide +kernel
theorem dX8_tryAllUp_23 : decode cX8_tryAllUp 23 = .ok (.iload_n 1, 1) := by decide +kernel
theorem dX8_tryAllUp_24 : decode cX8_tryAllUp 24 = .ok (.iadd, 1) := by decide +kernel
theorem dX8_tryAllUp_25 : decode cX8_tryAllUp 25 = .ok (.ldc2_w 152, 3) := by decide +kernel
theorem dX8_tryAllUp_28 : decode cX8_tryAllUp 28 = .ok (.lastore, 1) := by decide +kernel
theorem dX8_tryAllUp_29 : decode cX8_tryAllUp 29 = .ok (.aload_n 0, 1) := by decide +kernel
theorem dX8_tryAllUp_30 : decode cX8_tryAllUp 30 = .ok (.getfield 7, 3) := by decide +kernel
theorem dX8_tryAllUp_33 : decode cX8_tryAllUp 33 = .ok (.sipush 170, 3) := by decide +kernel
theorem dX8_tryAllUp_36 : decode cX8_tryAllUp 36 = .ok (.iload_n 1, 1) := by decide +kernel
theorem dX8_tryAllUp_37 : decode cX8_tryAllUp 37 = .ok (.iadd, 1) := by decide +kernel
theorem dX8_tryAllUp_38 : decode cX8_tryAllUp 38 = .ok (.lconst 0, 1) := by decide +kernel
theorem dX8_tryAllUp_39 : decode cX8_tryAllUp 39 = .ok (.lastore, 1) := by decide +kernel
theorem dX8_tryAllUp_40 : decode cX8_tryAllUp 40 = .ok (.iinc 1 1, 3) := by decide +kernel
theorem dX8_tryAllUp_43 : decode cX8_tryAllUp 43 = .ok (.goto (-33), 3) := by decide +kernel
theorem dX8_tryAllUp_46 : decode cX8_tryAllUp 46 = .ok (.return_, 1) := by decide +kernel
theorem dX8_seatIn_0 : decode cX8_seatIn 0 = .ok (.iload_n 0, 1) := by decide +kernel
theorem dX8_seatIn_1 : decode cX8_seatIn 1 = .ok (.istore_n 3, 1) := by decide +kernel
theorem dX8_seatIn_2 : decode cX8_seatIn 2 = .ok (.iload_n 2, 1) := by decide +kernel
theorem dX8_seatIn_3 : decode cX8_seatIn 3 = .ok (.iconst 1, 1) := by decide +kernel
theorem dX8_seatIn_4 : decode cX8_seatIn 4 = .ok (.isub, 1) := by decide +kernel
theorem dX8_seatIn_5 : decode cX8_seatIn 5 = .ok (.istore 4, 2) := by decide +kernel
theorem dX8_seatIn_7 : decode cX8_seatIn 7 = .ok (.iload 4, 2) := by decide +kernel
theorem dX8_seatIn_9 : decode cX8_seatIn 9 = .ok (.iload_n 1, 1) := by decide +kernel
theorem dX8_seatIn_10 : decode cX8_seatIn 10 = .ok (.if_icmp .le 14, 3) := by decide +kernel
theorem dX8_seatIn_13 : decode cX8_seatIn 13 = .ok (.iload_n 3, 1) := by decide +kernel
theorem dX8_seatIn_14 : decode cX8_seatIn 14 = .ok (.bipush 10, 2) := by decide +kernel
theorem dX8_seatIn_16 : decode cX8_seatIn 16 = .ok (.idiv, 1) := by decide +kernel
theorem dX8_seatIn_17 : decode cX8_seatIn 17 = .ok (.istore_n 3, 1) := by decide +kernel
theorem dX8_seatIn_18 : decode cX8_seatIn 18 = .ok (.iinc 4 (-1), 3) := by decide +kernel
theorem dX8_seatIn_21 : decode cX8_seatIn 21 = .ok (.goto (-14), 3) := by decide +kernel
theorem dX8_seatIn_24 : decode cX8_seatIn 24 = .ok (.iload_n 3, 1) := by decide +kernel
theorem dX8_seatIn_25 : decode cX8_seatIn 25 = .ok (.bipush 10, 2) := by decide +kernel
theorem dX8_seatIn_27 : decode cX8_seatIn 27 = .ok (.irem, 1) := by decide +kernel
theorem dX8_seatIn_28 : decode cX8_seatIn 28 = .ok (.iconst 1, 1) := by decide +kernel
theorem dX8_seatIn_29 : decode cX8_seatIn 29 = .ok (.isub, 1) := by decide +kernel
theorem dX8_seatIn_30 : decode cX8_seatIn 30 = .ok (.ireturn, 1) := by decide +kernel
set_option maxRecDepth 20000 in
theorem ggX8_isSeating_X8_seatIn : GoodIn wsX8_isSeating wsX8_seatIn := goodIn_r _ [5] (by decide +kernel) (by decide +kernel)
set_option maxRecDepth 20000 in
theorem gX8_isSeating_X8_seatIn : GoodIn wsX8_isSeating (va_wsS RX8 230 yX8_seatIn wsX8_seatIn) := goodIn_app (goodIn_of _ (by decide +kernel)) ggX8_isSeating_X8_seatIn
theorem dX8_isSeating_0 : decode cX8_isSeating 0 = .ok (.iconst 0, 1) := by decide +kernel
theorem dX8_isSeating_1 : decode cX8_isSeating 1 = .ok (.istore_n 2, 1) := by decide +kernel
theorem dX8_isSeating_2 : decode cX8_isSeating 2 = .ok (.iconst 1, 1) := by decide +kernel
theorem dX8_isSeating_3 : decode cX8_isSeating 3 = .ok (.istore_n 3, 1) := by decide +kernel
theorem dX8_isSeating_4 : decode cX8_isSeating 4 = .ok (.iconst 0, 1) := by decide +kernel
theorem dX8_isSeating_5 : decode cX8_isSeating 5 = .ok (.istore 4, 2) := by decide +kernel
theorem dX8_isSeating_7 : decode cX8_isSeating 7 = .ok (.iload 4, 2) := by decide +kernel
theorem dX8_isSeating_9 : decode cX8_isSeating 9 = .ok (.aload_n 0, 1) := by decide +kernel
theorem dX8_isSeating_10 : decode cX8_isSeating 10 = .ok (.getfield 36, 3) := by decide +kernel
theorem dX8_isSeating_13 : decode cX8_isSeating 13 = .ok (.iconst 1, 1) := by decide +kernel
theorem dX8_isSeating_14 : decode cX8_isSeating 14 = .ok (.iaload, 1) := by decide +kernel
theorem dX8_isSeating_15 : decode cX8_isSeating 15 = .ok (.if_icmp .ge 74, 3) := by decide +kernel
theorem dX8_isSeating_18 : decode cX8_isSeating 18 = .ok (.iload_n 1, 1) := by decide +kernel
theorem dX8_isSeating_19 : decode cX8_isSeating 19 = .ok (.iload 4, 2) := by decide +kernel
theorem dX8_isSeating_21 : decode cX8_isSeating 21 = .ok (.aload_n 0, 1) := by decide +kernel
theorem dX8_isSeating_22 : decode cX8_isSeating 22 = .ok (.getfield 36, 3) := by decide +kernel
theorem dX8_isSeating_25 : decode cX8_isSeating 25 = .ok (.iconst 1, 1) := by decide +kernel
theorem dX8_isSeating_26 : decode cX8_isSeating 26 = .ok (.iaload, 1) := by decide +kernel
theorem dX8_isSeating_27 : decode cX8_isSeating 27 = .ok (.invokestatic 230, 3) := by decide +kernel
theorem dX8_isSeating_30 : decode cX8_isSeating 30 = .ok (.istore 5, 2) := by decide +kernel
theorem dX8_isSeating_32 : decode cX8_isSeating 32 = .ok (.iload_n 3, 1) := by decide +kernel
theorem dX8_isSeating_33 : decode cX8_isSeating 33 = .ok (.ifCond .eq 32, 3) := by decide +kernel
theorem dX8_isSeating_36 : decode cX8_isSeating 36 = .ok (.iload 5, 2) := by decide +kernel
theorem dX8_isSeating_38 : decode cX8_isSeating 38 = .ok (.aload_n 0, 1) := by decide +kernel
theorem dX8_isSeating_39 : decode cX8_isSeating 39 = .ok (.getfield 36, 3) := by decide +kernel
theorem dX8_isSeating_42 : decode cX8_isSeating 42 = .ok (.iconst 0, 1) := by decide +kernel
theorem dX8_isSeating_43 : decode cX8_isSeating 43 = .ok (.iaload, 1) := by decide +kernel
theorem dX8_isSeating_44 : decode cX8_isSeating 44 = .ok (.if_icmp .ge 21, 3) := by decide +kernel
theorem dX8_isSeating_47 : decode cX8_isSeating 47 = .ok (.iload 5, 2) := by decide +kernel
theorem dX8_isSeating_49 : decode cX8_isSeating 49 = .ok (.ifCond .lt 12, 3) := by decide +kernel
theorem dX8_isSeating_52 : decode cX8_isSeating 52 = .ok (.iload_n 2, 1) := by decide +kernel
theorem dX8_isSeating_53 : decode cX8_isSeating 53 = .ok (.iload 5, 2) := by decide +kernel
theorem dX8_isSeating_55 : decode cX8_isSeating 55 = .ok (.ishr, 1) := by decide +kernel
theorem dX8_isSeating_56 : decode cX8_isSeating 56 = .ok (.iconst 1, 1) := by decide +kernel
theorem dX8_isSeating_57 : decode cX8_isSeating 57 = .ok (.iand, 1) := by decide +kernel
theorem dX8_isSeating_58 : decode cX8_isSeating 58 = .ok (.ifCond .ne 7, 3) := by decide +kernel
theorem dX8_isSeating_61 : decode cX8_isSeating 61 = .ok (.iconst 1, 1) := by decide +kernel
theorem dX8_isSeating_62 : decode cX8_isSeating 62 = .ok (.goto 4, 3) := by decide +kernel
theorem dX8_isSeating_65 : decode cX8_isSeating 65 = .ok (.iconst 0, 1) := by decide +kernel
theorem dX8_isSeating_66 : decode cX8_isSeating 66 = .ok (.istore_n 3, 1) := by decide +kernel
theorem dX8_isSeating_67 : decode cX8_isSeating 67 = .ok (.iload_n 2, 1) := by decide +kernel
theorem dX8_isSeating_68 : decode cX8_isSeating 68 = .ok (.iload 5, 2) := by decide +kernel
theorem dX8_isSeating_70 : decode cX8_isSeating 70 = .ok (.ifCond .ge 7, 3) := by decide +kernel
theorem dX8_isSeating_73 : decode cX8_isSeating 73 = .ok (.iconst 0, 1) := by decide +kernel
theorem dX8_isSeating_74 : decode cX8_isSeating 74 = .ok (.goto 7, 3) := by decide +kernel
theorem dX8_isSeating_77 : decode cX8_isSeating 77 = .ok (.iconst 1, 1) := by decide +kernel
theorem dX8_isSeating_78 : decode cX8_isSeating 78 = .ok (.iload 5, 2) := by decide +kernel
theorem dX8_isSeating_80 : decode cX8_isSeating 80 = .ok (.ishl, 1) := by decide +kernel
theorem dX8_isSeating_81 : decode cX8_isSeating 81 = .ok (.ior, 1) := by decide +kernel
theorem dX8_isSeating_82 : decode cX8_isSeating 82 = .ok (.istore_n 2, 1) := by decide +kernel
theorem dX8_isSeating_83 : decode cX8_isSeating 83 = .ok (.iinc 4 1, 3) := by decide +kernel
theorem dX8_isSeating_86 : decode cX8_isSeating 86 = .ok (.goto (-79), 3) := by decide +kernel
theorem dX8_isSeating_89 : decode cX8_isSeating 89 = .ok (.iload_n 3, 1) := by decide +kernel
theorem dX8_isSeating_90 : decode cX8_isSeating 90 = .ok (.ireturn, 1) := by decide +kernel
set_option maxRecDepth 20000 in
theorem ggX8_leastWarmth_X8_less : GoodIn wsX8_leastWarmth wsX8_less := goodIn_r _ [6] (by decide +kernel) (by decide +kernel)
set_option maxRecDepth 20000 in
theorem gX8_leastWarmth_X8_less : GoodIn wsX8_leastWarmth (va_wsS RX8 175 yX8_less wsX8_less) := goodIn_app (goodIn_of _ (by decide +kernel)) ggX8_leastWarmth_X8_less
theorem dX8_leastWarmth_0 : decode cX8_leastWarmth 0 = .ok (.aload_n 0, 1) := by decide +kernel
theorem dX8_leastWarmth_1 : decode cX8_leastWarmth 1 = .ok (.getfield 7, 3) := by decide +kernel
theorem dX8_leastWarmth_4 : decode cX8_leastWarmth 4 = .ok (.sipush 150, 3) := by decide +kernel
theorem dX8_leastWarmth_7 : decode cX8_leastWarmth 7 = .ok (.laload, 1) := by decide +kernel
theorem dX8_leastWarmth_8 : decode cX8_leastWarmth 8 = .ok (.lstore_n 1, 1) := by decide +kernel
theorem dX8_leastWarmth_9 : decode cX8_leastWarmth 9 = .ok (.iconst 1, 1) := by decide +kernel
theorem dX8_leastWarmth_10 : decode cX8_leastWarmth 10 = .ok (.istore_n 3, 1) := by decide +kernel
theorem dX8_leastWarmth_11 : decode cX8_leastWarmth 11 = .ok (.iload_n 3, 1) := by decide +kernel
theorem dX8_leastWarmth_12 : decode cX8_leastWarmth 12 = .ok (.aload_n 0, 1) := by decide +kernel
theorem dX8_leastWarmth_13 : decode cX8_leastWarmth 13 = .ok (.getfield 36, 3) := by decide +kernel
theorem dX8_leastWarmth_16 : decode cX8_leastWarmth 16 = .ok (.iconst 1, 1) := by decide +kernel
theorem dX8_leastWarmth_17 : decode cX8_leastWarmth 17 = .ok (.iaload, 1) := by decide +kernel
theorem dX8_leastWarmth_18 : decode cX8_leastWarmth 18 = .ok (.if_icmp .ge 24, 3) := by decide +kernel
theorem dX8_leastWarmth_21 : decode cX8_leastWarmth 21 = .ok (.lload_n 1, 1) := by decide +kernel
theorem dX8_leastWarmth_22 : decode cX8_leastWarmth 22 = .ok (.aload_n 0, 1) := by decide +kernel
theorem dX8_leastWarmth_23 : decode cX8_leastWarmth 23 = .ok (.getfield 7, 3) := by decide +kernel
theorem dX8_leastWarmth_26 : decode cX8_leastWarmth 26 = .ok (.sipush 150, 3) := by decide +kernel
theorem dX8_leastWarmth_29 : decode cX8_leastWarmth 29 = .ok (.iload_n 3, 1) := by decide +kernel
theorem dX8_leastWarmth_30 : decode cX8_leastWarmth 30 = .ok (.iadd, 1) := by decide +kernel
theorem dX8_leastWarmth_31 : decode cX8_leastWarmth 31 = .ok (.laload, 1) := by decide +kernel
theorem dX8_leastWarmth_32 : decode cX8_leastWarmth 32 = .ok (.invokestatic 175, 3) := by decide +kernel
theorem dX8_leastWarmth_35 : decode cX8_leastWarmth 35 = .ok (.lstore_n 1, 1) := by decide +kernel
theorem dX8_leastWarmth_36 : decode cX8_leastWarmth 36 = .ok (.iinc 3 1, 3) := by decide +kernel
theorem dX8_leastWarmth_39 : decode cX8_leastWarmth 39 = .ok (.goto (-28), 3) := by decide +kernel
theorem dX8_leastWarmth_42 : decode cX8_leastWarmth 42 = .ok (.lload_n 1, 1) := by decide +kernel
theorem dX8_leastWarmth_43 : decode cX8_leastWarmth 43 = .ok (.lreturn, 1) := by decide +kernel
set_option maxRecDepth 20000 in
theorem ggX8_seating_X8_in : GoodIn wsX8_seating wsX8_in := goodIn_r _ [10] (by decide +kernel) (by decide +kernel)
set_option maxRecDepth 20000 in
theorem gX8_seating_X8_in : GoodIn wsX8_seating (va_wsS RX8 69 yX8_in wsX8_in) := goodIn_app (goodIn_of _ (by decide +kernel)) ggX8_seating_X8_in
set_option maxRecDepth 20000 in
theorem ggX8_seating_X8_isSeating : GoodIn wsX8_seating wsX8_isSeating := goodIn_r _ [14, 2, 15, 16, 9, 17, 73, 74, 75, 76, 77, 78, 79, 80, 81, 82, 83, 84, 85, 86, 87, 88, 89, 90, 91, 92, 93, 94, 95, 96, 97, 98, 99, 100, 101] (by decide +kernel) (by decide +kernel)
set_option maxRecDepth 20000 in
theorem gX8_seating_X8_isSeating : GoodIn wsX8_seating (wsV RX8 236 RX8 yX8_isSeating wsX8_isSeating) := goodIn_app (goodIn_of _ (by decide +kernel)) ggX8_seating_X8_isSeating
set_option maxRecDepth 20000 in
theorem ggX8_seating_X8_tryAllUp : GoodIn wsX8_seating wsX8_tryAllUp := goodIn_r _ [21, 6, 22, 23, 24, 25, 9, 26, 73, 74, 75, 76, 77, 78, 79, 80, 81, 82, 83, 84, 85, 86, 87, 88, 89, 90, 91, 92, 93, 94, 95, 96, 97, 98, 99, 100, 101] (by decide +kernel) (by decide +kernel)
set_option maxRecDepth 20000 in
theorem gX8_seating_X8_tryAllUp : GoodIn wsX8_seating (wsV RX8 239 RX8 yX8_tryAllUp wsX8_tryAllUp) := goodIn_app (goodIn_of _ (by decide +kernel)) ggX8_seating_X8_tryAllUp
set_option maxRecDepth 20000 in
theorem ggX8_seating_X8_seatIn : GoodIn wsX8_seating wsX8_seatIn := goodIn_r _ [17] (by decide +kernel) (by decide +kernel)
set_option maxRecDepth 20000 in
theorem gX8_seating_X8_seatIn : GoodIn wsX8_seating (va_wsS RX8 230 yX8_seatIn wsX8_seatIn) := goodIn_app (goodIn_of _ (by decide +kernel)) ggX8_seating_X8_seatIn
set_option maxRecDepth 20000 in
theorem ggX8_seating_X8_pass : GoodIn wsX8_seating wsX8_pass := goodIn_r _ [30, 6, 2, 31, 32, 33, 34, 35, 36, 37, 38, 9, 39, 40, 41, 42, 43, 4, 44, 45, 46, 47, 48, 49, 50, 51, 52, 53, 54, 55, 56, 57, 58, 59, 60, 61, 62, 63, 64, 73, 74, 75, 76, 77, 78, 79, 80, 81, 82, 83, 84, 85, 86, 87, 88, 89, 90, 91, 92, 93, 94, 95, 96, 97, 98, 99, 100, 101] (by decide +kernel) (by decide +kernel)
set_option maxRecDepth 20000 in
theorem gX8_seating_X8_pass : GoodIn wsX8_seating (wsV RX8 201 RX8 yX8_pass wsX8_pass) := goodIn_app (goodIn_of _ (by decide +kernel)) ggX8_seating_X8_pass
set_option maxRecDepth 20000 in
theorem ggX8_seating_X8_coldMinutes : GoodIn wsX8_seating wsX8_coldMinutes := goodIn_r _ [68, 2, 6, 73, 74, 75, 76, 77, 78, 79, 80, 81, 82, 83, 84, 85, 86, 87, 88, 89, 90, 91, 92, 93, 94, 95, 96, 97, 98, 99, 100, 101] (by decide +kernel) (by decide +kernel)
set_option maxRecDepth 20000 in
theorem gX8_seating_X8_coldMinutes : GoodIn wsX8_seating (wsV RX8 154 RX8 yX8_coldMinutes wsX8_coldMinutes) := goodIn_app (goodIn_of _ (by decide +kernel)) ggX8_seating_X8_coldMinutes
set_option maxRecDepth 20000 in
theorem ggX8_seating_X8_leastWarmth : GoodIn wsX8_seating wsX8_leastWarmth := goodIn_r _ [72, 6, 2, 47, 48, 9, 49, 73, 74, 75, 76, 77, 78, 79, 80, 81, 82, 83, 84, 85, 86, 87, 88, 89, 90, 91, 92, 93, 94, 95, 96, 97, 98, 99, 100, 101] (by decide +kernel) (by decide +kernel)
set_option maxRecDepth 20000 in
theorem gX8_seating_X8_leastWarmth : GoodIn wsX8_seating (wsV RX8 242 RX8 yX8_leastWarmth wsX8_leastWarmth) := goodIn_app (goodIn_of _ (by decide +kernel)) ggX8_seating_X8_leastWarmth
theorem dX8_seating_0 : decode cX8_seating 0 = .ok (.iload_n 1, 1) := by decide +kernel
theorem dX8_seating_1 : decode cX8_seating 1 = .ok (.i2l, 1) := by decide +kernel
theorem dX8_seating_2 : decode cX8_seating 2 = .ok (.lconst 1, 1) := by decide +kernel
theorem dX8_seating_3 : decode cX8_seating 3 = .ok (.ldc2_w 234, 3) := by decide +kernel
theorem dX8_seating_6 : decode cX8_seating 6 = .ok (.invokestatic 69, 3) := by decide +kernel
theorem dX8_seating_9 : decode cX8_seating 9 = .ok (.ifCond .eq 21, 3) := by decide +kernel
theorem dX8_seating_12 : decode cX8_seating 12 = .ok (.iload_n 2, 1) := by decide +kernel
theorem dX8_seating_13 : decode cX8_seating 13 = .ok (.i2l, 1) := by decide +kernel
theorem dX8_seating_14 : decode cX8_seating 14 = .ok (.lconst 0, 1) := by decide +kernel
theorem dX8_seating_15 : decode cX8_seating 15 = .ok (.iconst 1, 1) := by decide +kernel
theorem dX8_seating_16 : decode cX8_seating 16 = .ok (.aload_n 0, 1) := by decide +kernel
theorem dX8_seating_17 : decode cX8_seating 17 = .ok (.getfield 36, 3) := by decide +kernel
theorem dX8_seating_20 : decode cX8_seating 20 = .ok (.iconst 1, 1) := by decide +kernel
theorem dX8_seating_21 : decode cX8_seating 21 = .ok (.iaload, 1) := by decide +kernel
theorem dX8_seating_22 : decode cX8_seating 22 = .ok (.iadd, 1) := by decide +kernel
theorem dX8_seating_23 : decode cX8_seating 23 = .ok (.i2l, 1) := by decide +kernel
theorem dX8_seating_24 : decode cX8_seating 24 = .ok (.invokestatic 69, 3) := by decide +kernel
theorem dX8_seating_27 : decode cX8_seating 27 = .ok (.ifCond .ne 6, 3) := by decide +kernel
theorem dX8_seating_30 : decode cX8_seating 30 = .ok (.ldc 73, 2) := by decide +kernel
theorem dX8_seating_32 : decode cX8_seating 32 = .ok (.ireturn, 1) := by decide +kernel
theorem dX8_seating_33 : decode cX8_seating 33 = .ok (.aload_n 0, 1) := by decide +kernel
theorem dX8_seating_34 : decode cX8_seating 34 = .ok (.getfield 36, 3) := by decide +kernel
theorem dX8_seating_37 : decode cX8_seating 37 = .ok (.iconst 1, 1) := by decide +kernel
theorem dX8_seating_38 : decode cX8_seating 38 = .ok (.iaload, 1) := by decide +kernel
theorem dX8_seating_39 : decode cX8_seating 39 = .ok (.i2l, 1) := by decide +kernel
theorem dX8_seating_40 : decode cX8_seating 40 = .ok (.lconst 1, 1) := by decide +kernel
theorem dX8_seating_41 : decode cX8_seating 41 = .ok (.ldc2_w 171, 3) := by decide +kernel
theorem dX8_seating_44 : decode cX8_seating 44 = .ok (.invokestatic 69, 3) := by decide +kernel
theorem dX8_seating_47 : decode cX8_seating 47 = .ok (.ifCond .ne 6, 3) := by decide +kernel
theorem dX8_seating_50 : decode cX8_seating 50 = .ok (.ldc 198, 2) := by decide +kernel
theorem dX8_seating_52 : decode cX8_seating 52 = .ok (.ireturn, 1) := by decide +kernel
theorem dX8_seating_53 : decode cX8_seating 53 = .ok (.iconst 1, 1) := by decide +kernel
theorem dX8_seating_54 : decode cX8_seating 54 = .ok (.istore_n 3, 1) := by decide +kernel
theorem dX8_seating_55 : decode cX8_seating 55 = .ok (.iconst 0, 1) := by decide +kernel
theorem dX8_seating_56 : decode cX8_seating 56 = .ok (.istore 4, 2) := by decide +kernel
theorem dX8_seating_58 : decode cX8_seating 58 = .ok (.iload 4, 2) := by decide +kernel
theorem dX8_seating_60 : decode cX8_seating 60 = .ok (.aload_n 0, 1) := by decide +kernel
theorem dX8_seating_61 : decode cX8_seating 61 = .ok (.getfield 36, 3) := by decide +kernel
theorem dX8_seating_64 : decode cX8_seating 64 = .ok (.iconst 1, 1) := by decide +kernel
theorem dX8_seating_65 : decode cX8_seating 65 = .ok (.iaload, 1) := by decide +kernel
theorem dX8_seating_66 : decode cX8_seating 66 = .ok (.if_icmp .ge 14, 3) := by decide +kernel
theorem dX8_seating_69 : decode cX8_seating 69 = .ok (.iload_n 3, 1) := by decide +kernel
theorem dX8_seating_70 : decode cX8_seating 70 = .ok (.bipush 10, 2) := by decide +kernel
theorem dX8_seating_72 : decode cX8_seating 72 = .ok (.imul, 1) := by decide +kernel
theorem dX8_seating_73 : decode cX8_seating 73 = .ok (.istore_n 3, 1) := by decide +kernel
theorem dX8_seating_74 : decode cX8_seating 74 = .ok (.iinc 4 1, 3) := by decide +kernel
theorem dX8_seating_77 : decode cX8_seating 77 = .ok (.goto (-19), 3) := by decide +kernel
theorem dX8_seating_80 : decode cX8_seating 80 = .ok (.iconst (-1), 1) := by decide +kernel
theorem dX8_seating_81 : decode cX8_seating 81 = .ok (.istore 4, 2) := by decide +kernel
theorem dX8_seating_83 : decode cX8_seating 83 = .ok (.lconst 0, 1) := by decide +kernel
theorem dX8_seating_84 : decode cX8_seating 84 = .ok (.lstore 5, 2) := by decide +kernel
theorem dX8_seating_86 : decode cX8_seating 86 = .ok (.lconst 0, 1) := by decide +kernel
theorem dX8_seating_87 : decode cX8_seating 87 = .ok (.lstore 7, 2) := by decide +kernel
theorem dX8_seating_89 : decode cX8_seating 89 = .ok (.iconst 0, 1) := by decide +kernel
theorem dX8_seating_90 : decode cX8_seating 90 = .ok (.istore 9, 2) := by decide +kernel
theorem dX8_seating_92 : decode cX8_seating 92 = .ok (.iload 9, 2) := by decide +kernel
theorem dX8_seating_94 : decode cX8_seating 94 = .ok (.iload_n 3, 1) := by decide +kernel
theorem dX8_seating_95 : decode cX8_seating 95 = .ok (.if_icmp .ge 147, 3) := by decide +kernel
theorem dX8_seating_98 : decode cX8_seating 98 = .ok (.aload_n 0, 1) := by decide +kernel
theorem dX8_seating_99 : decode cX8_seating 99 = .ok (.iload 9, 2) := by decide +kernel
theorem dX8_seating_101 : decode cX8_seating 101 = .ok (.invokevirtual 236, 3) := by decide +kernel
theorem dX8_seating_104 : decode cX8_seating 104 = .ok (.ifCond .eq 132, 3) := by decide +kernel
theorem dX8_seating_107 : decode cX8_seating 107 = .ok (.aload_n 0, 1) := by decide +kernel
theorem dX8_seating_108 : decode cX8_seating 108 = .ok (.invokevirtual 239, 3) := by decide +kernel
theorem dX8_seating_111 : decode cX8_seating 111 = .ok (.iconst 0, 1) := by decide +kernel
theorem dX8_seating_112 : decode cX8_seating 112 = .ok (.istore 10, 2) := by decide +kernel
theorem dX8_seating_114 : decode cX8_seating 114 = .ok (.iload 10, 2) := by decide +kernel
theorem dX8_seating_116 : decode cX8_seating 116 = .ok (.aload_n 0, 1) := by decide +kernel
theorem dX8_seating_117 : decode cX8_seating 117 = .ok (.getfield 36, 3) := by decide +kernel
theorem dX8_seating_120 : decode cX8_seating 120 = .ok (.iconst 1, 1) := by decide +kernel
theorem dX8_seating_121 : decode cX8_seating 121 = .ok (.iaload, 1) := by decide +kernel
theorem dX8_seating_122 : decode cX8_seating 122 = .ok (.if_icmp .ge 34, 3) := by decide +kernel
theorem dX8_seating_125 : decode cX8_seating 125 = .ok (.aload_n 0, 1) := by decide +kernel
theorem dX8_seating_126 : decode cX8_seating 126 = .ok (.getfield 7, 3) := by decide +kernel
theorem dX8_seating_129 : decode cX8_seating 129 = .ok (.sipush 160, 3) := by decide +kernel
theorem dX8_seating_132 : decode cX8_seating 132 = .ok (.iload 10, 2) := by decide +kernel
theorem dX8_seating_134 : decode cX8_seating 134 = .ok (.iadd, 1) := by decide +kernel
theorem dX8_seating_135 : decode cX8_seating 135 = .ok (.iload 9, 2) := by decide +kernel
theorem dX8_seating_137 : decode cX8_seating 137 = .ok (.iload 10, 2) := by decide +kernel
theorem dX8_seating_139 : decode cX8_seating 139 = .ok (.aload_n 0, 1) := by decide +kernel
theorem dX8_seating_140 : decode cX8_seating 140 = .ok (.getfield 36, 3) := by decide +kernel
theorem dX8_seating_143 : decode cX8_seating 143 = .ok (.iconst 1, 1) := by decide +kernel
theorem dX8_seating_144 : decode cX8_seating 144 = .ok (.iaload, 1) := by decide +kernel
theorem dX8_seating_145 : decode cX8_seating 145 = .ok (.invokestatic 230, 3) := by decide +kernel
theorem dX8_seating_148 : decode cX8_seating 148 = .ok (.i2l, 1) := by decide +kernel
theorem dX8_seating_149 : decode cX8_seating 149 = .ok (.lastore, 1) := by decide +kernel
theorem dX8_seating_150 : decode cX8_seating 150 = .ok (.iinc 10 1, 3) := by decide +kernel
theorem dX8_seating_153 : decode cX8_seating 153 = .ok (.goto (-39), 3) := by decide +kernel
