theorem dX8_here_12 : decode cX8_here 12 = .ok (.getfield 46, 3) := by decide +kernel
theorem dX8_here_15 : decode cX8_here 15 = .ok (.aload_n 0, 1) := by decide +kernel
theorem dX8_here_16 : decode cX8_here 16 = .ok (.getfield 80, 3) := by decide +kernel
theorem dX8_here_19 : decode cX8_here 19 = .ok (.iaload, 1) := by decide +kernel
theorem dX8_here_20 : decode cX8_here 20 = .ok (.bipush 32, 2) := by decide +kernel
theorem dX8_here_22 : decode cX8_here 22 = .ok (.if_icmp .ne 16, 3) := by decide +kernel
theorem dX8_here_25 : decode cX8_here 25 = .ok (.aload_n 0, 1) := by decide +kernel
theorem dX8_here_26 : decode cX8_here 26 = .ok (.dup, 1) := by decide +kernel
theorem dX8_here_27 : decode cX8_here 27 = .ok (.getfield 80, 3) := by decide +kernel
theorem dX8_here_30 : decode cX8_here 30 = .ok (.iconst 1, 1) := by decide +kernel
theorem dX8_here_31 : decode cX8_here 31 = .ok (.iadd, 1) := by decide +kernel
theorem dX8_here_32 : decode cX8_here 32 = .ok (.putfield 80, 3) := by decide +kernel
theorem dX8_here_35 : decode cX8_here 35 = .ok (.goto (-35), 3) := by decide +kernel
theorem dX8_here_38 : decode cX8_here 38 = .ok (.aload_n 0, 1) := by decide +kernel
theorem dX8_here_39 : decode cX8_here 39 = .ok (.getfield 80, 3) := by decide +kernel
theorem dX8_here_42 : decode cX8_here 42 = .ok (.aload_n 0, 1) := by decide +kernel
theorem dX8_here_43 : decode cX8_here 43 = .ok (.getfield 74, 3) := by decide +kernel
theorem dX8_here_46 : decode cX8_here 46 = .ok (.if_icmp .ge 15, 3) := by decide +kernel
theorem dX8_here_49 : decode cX8_here 49 = .ok (.aload_n 0, 1) := by decide +kernel
theorem dX8_here_50 : decode cX8_here 50 = .ok (.getfield 46, 3) := by decide +kernel
theorem dX8_here_53 : decode cX8_here 53 = .ok (.aload_n 0, 1) := by decide +kernel
theorem dX8_here_54 : decode cX8_here 54 = .ok (.getfield 80, 3) := by decide +kernel
theorem dX8_here_57 : decode cX8_here 57 = .ok (.iaload, 1) := by decide +kernel
theorem dX8_here_58 : decode cX8_here 58 = .ok (.goto 4, 3) := by decide +kernel
theorem dX8_here_61 : decode cX8_here 61 = .ok (.iconst (-1), 1) := by decide +kernel
theorem dX8_here_62 : decode cX8_here 62 = .ok (.ireturn, 1) := by decide +kernel
theorem dX8_want_0 : decode cX8_want 0 = .ok (.iload_n 1, 1) := by decide +kernel
theorem dX8_want_1 : decode cX8_want 1 = .ok (.ifCond .ne 20, 3) := by decide +kernel
theorem dX8_want_4 : decode cX8_want 4 = .ok (.aload_n 0, 1) := by decide +kernel
theorem dX8_want_5 : decode cX8_want 5 = .ok (.getfield 83, 3) := by decide +kernel
theorem dX8_want_8 : decode cX8_want 8 = .ok (.ifCond .ne 13, 3) := by decide +kernel
theorem dX8_want_11 : decode cX8_want 11 = .ok (.aload_n 0, 1) := by decide +kernel
theorem dX8_want_12 : decode cX8_want 12 = .ok (.iload_n 2, 1) := by decide +kernel
theorem dX8_want_13 : decode cX8_want 13 = .ok (.putfield 83, 3) := by decide +kernel
theorem dX8_want_16 : decode cX8_want 16 = .ok (.aload_n 0, 1) := by decide +kernel
theorem dX8_want_17 : decode cX8_want 17 = .ok (.iload_n 3, 1) := by decide +kernel
theorem dX8_want_18 : decode cX8_want 18 = .ok (.putfield 49, 3) := by decide +kernel
theorem dX8_want_21 : decode cX8_want 21 = .ok (.aload_n 0, 1) := by decide +kernel
theorem dX8_want_22 : decode cX8_want 22 = .ok (.getfield 83, 3) := by decide +kernel
theorem dX8_want_25 : decode cX8_want 25 = .ok (.ifCond .ne 7, 3) := by decide +kernel
theorem dX8_want_28 : decode cX8_want 28 = .ok (.iconst 1, 1) := by decide +kernel
theorem dX8_want_29 : decode cX8_want 29 = .ok (.goto 4, 3) := by decide +kernel
theorem dX8_want_32 : decode cX8_want 32 = .ok (.iconst 0, 1) := by decide +kernel
theorem dX8_want_33 : decode cX8_want 33 = .ok (.ireturn, 1) := by decide +kernel
set_option maxRecDepth 20000 in
theorem ggX8_takeWord_X8_here : GoodIn wsX8_takeWord wsX8_here := goodIn_r _ [12, 1, 3, 4, 16, 17, 18, 19, 20, 21, 22, 23, 24, 25, 26, 27, 28, 29, 30, 31, 32, 33, 34, 35, 36, 37, 38, 39, 40, 41, 42, 43, 44] (by decide +kernel) (by decide +kernel)
set_option maxRecDepth 20000 in
theorem gX8_takeWord_X8_here : GoodIn wsX8_takeWord (wsV RX8 86 RX8 yX8_here wsX8_here) := goodIn_app (goodIn_of _ (by decide +kernel)) ggX8_takeWord_X8_here
set_option maxRecDepth 20000 in
theorem ggX8_takeWord_X8_in : GoodIn wsX8_takeWord wsX8_in := goodIn_r _ [15] (by decide +kernel) (by decide +kernel)
set_option maxRecDepth 20000 in
theorem gX8_takeWord_X8_in : GoodIn wsX8_takeWord (va_wsS RX8 69 yX8_in wsX8_in) := goodIn_app (goodIn_of _ (by decide +kernel)) ggX8_takeWord_X8_in
theorem dX8_takeWord_0 : decode cX8_takeWord 0 = .ok (.aload_n 0, 1) := by decide +kernel
theorem dX8_takeWord_1 : decode cX8_takeWord 1 = .ok (.invokevirtual 86, 3) := by decide +kernel
theorem dX8_takeWord_4 : decode cX8_takeWord 4 = .ok (.istore_n 1, 1) := by decide +kernel
theorem dX8_takeWord_5 : decode cX8_takeWord 5 = .ok (.aload_n 0, 1) := by decide +kernel
theorem dX8_takeWord_6 : decode cX8_takeWord 6 = .ok (.aload_n 0, 1) := by decide +kernel
theorem dX8_takeWord_7 : decode cX8_takeWord 7 = .ok (.getfield 80, 3) := by decide +kernel
theorem dX8_takeWord_10 : decode cX8_takeWord 10 = .ok (.putfield 90, 3) := by decide +kernel
theorem dX8_takeWord_13 : decode cX8_takeWord 13 = .ok (.aload_n 0, 1) := by decide +kernel
theorem dX8_takeWord_14 : decode cX8_takeWord 14 = .ok (.getfield 80, 3) := by decide +kernel
theorem dX8_takeWord_17 : decode cX8_takeWord 17 = .ok (.aload_n 0, 1) := by decide +kernel
theorem dX8_takeWord_18 : decode cX8_takeWord 18 = .ok (.getfield 74, 3) := by decide +kernel
theorem dX8_takeWord_21 : decode cX8_takeWord 21 = .ok (.if_icmp .ge 38, 3) := by decide +kernel
theorem dX8_takeWord_24 : decode cX8_takeWord 24 = .ok (.aload_n 0, 1) := by decide +kernel
theorem dX8_takeWord_25 : decode cX8_takeWord 25 = .ok (.getfield 46, 3) := by decide +kernel
theorem dX8_takeWord_28 : decode cX8_takeWord 28 = .ok (.aload_n 0, 1) := by decide +kernel
theorem dX8_takeWord_29 : decode cX8_takeWord 29 = .ok (.getfield 80, 3) := by decide +kernel
theorem dX8_takeWord_32 : decode cX8_takeWord 32 = .ok (.iaload, 1) := by decide +kernel
theorem dX8_takeWord_33 : decode cX8_takeWord 33 = .ok (.i2l, 1) := by decide +kernel
theorem dX8_takeWord_34 : decode cX8_takeWord 34 = .ok (.ldc2_w 93, 3) := by decide +kernel
theorem dX8_takeWord_37 : decode cX8_takeWord 37 = .ok (.ldc2_w 95, 3) := by decide +kernel
theorem dX8_takeWord_40 : decode cX8_takeWord 40 = .ok (.invokestatic 69, 3) := by decide +kernel
theorem dX8_takeWord_43 : decode cX8_takeWord 43 = .ok (.ifCond .eq 16, 3) := by decide +kernel
theorem dX8_takeWord_46 : decode cX8_takeWord 46 = .ok (.aload_n 0, 1) := by decide +kernel
theorem dX8_takeWord_47 : decode cX8_takeWord 47 = .ok (.dup, 1) := by decide +kernel
theorem dX8_takeWord_48 : decode cX8_takeWord 48 = .ok (.getfield 80, 3) := by decide +kernel
theorem dX8_takeWord_51 : decode cX8_takeWord 51 = .ok (.iconst 1, 1) := by decide +kernel
theorem dX8_takeWord_52 : decode cX8_takeWord 52 = .ok (.iadd, 1) := by decide +kernel
theorem dX8_takeWord_53 : decode cX8_takeWord 53 = .ok (.putfield 80, 3) := by decide +kernel
theorem dX8_takeWord_56 : decode cX8_takeWord 56 = .ok (.goto (-43), 3) := by decide +kernel
theorem dX8_takeWord_59 : decode cX8_takeWord 59 = .ok (.aload_n 0, 1) := by decide +kernel
theorem dX8_takeWord_60 : decode cX8_takeWord 60 = .ok (.aload_n 0, 1) := by decide +kernel
theorem dX8_takeWord_61 : decode cX8_takeWord 61 = .ok (.getfield 80, 3) := by decide +kernel
theorem dX8_takeWord_64 : decode cX8_takeWord 64 = .ok (.aload_n 0, 1) := by decide +kernel
theorem dX8_takeWord_65 : decode cX8_takeWord 65 = .ok (.getfield 90, 3) := by decide +kernel
theorem dX8_takeWord_68 : decode cX8_takeWord 68 = .ok (.isub, 1) := by decide +kernel
theorem dX8_takeWord_69 : decode cX8_takeWord 69 = .ok (.putfield 97, 3) := by decide +kernel
theorem dX8_takeWord_72 : decode cX8_takeWord 72 = .ok (.return_, 1) := by decide +kernel
theorem dX8_isWord_0 : decode cX8_isWord 0 = .ok (.aload_n 0, 1) := by decide +kernel
theorem dX8_isWord_1 : decode cX8_isWord 1 = .ok (.getfield 97, 3) := by decide +kernel
theorem dX8_isWord_4 : decode cX8_isWord 4 = .ok (.iload_n 1, 1) := by decide +kernel
theorem dX8_isWord_5 : decode cX8_isWord 5 = .ok (.if_icmp .ne 7, 3) := by decide +kernel
theorem dX8_isWord_8 : decode cX8_isWord 8 = .ok (.iconst 1, 1) := by decide +kernel
theorem dX8_isWord_9 : decode cX8_isWord 9 = .ok (.goto 4, 3) := by decide +kernel
theorem dX8_isWord_12 : decode cX8_isWord 12 = .ok (.iconst 0, 1) := by decide +kernel
theorem dX8_isWord_13 : decode cX8_isWord 13 = .ok (.istore 8, 2) := by decide +kernel
theorem dX8_isWord_15 : decode cX8_isWord 15 = .ok (.iconst 0, 1) := by decide +kernel
theorem dX8_isWord_16 : decode cX8_isWord 16 = .ok (.istore 9, 2) := by decide +kernel
theorem dX8_isWord_18 : decode cX8_isWord 18 = .ok (.iload 9, 2) := by decide +kernel
theorem dX8_isWord_20 : decode cX8_isWord 20 = .ok (.iload_n 1, 1) := by decide +kernel
theorem dX8_isWord_21 : decode cX8_isWord 21 = .ok (.if_icmp .ge 90, 3) := by decide +kernel
theorem dX8_isWord_24 : decode cX8_isWord 24 = .ok (.iload 8, 2) := by decide +kernel
theorem dX8_isWord_26 : decode cX8_isWord 26 = .ok (.ifCond .eq 85, 3) := by decide +kernel
theorem dX8_isWord_29 : decode cX8_isWord 29 = .ok (.aload_n 0, 1) := by decide +kernel
theorem dX8_isWord_30 : decode cX8_isWord 30 = .ok (.getfield 46, 3) := by decide +kernel
theorem dX8_isWord_33 : decode cX8_isWord 33 = .ok (.aload_n 0, 1) := by decide +kernel
theorem dX8_isWord_34 : decode cX8_isWord 34 = .ok (.getfield 90, 3) := by decide +kernel
theorem dX8_isWord_37 : decode cX8_isWord 37 = .ok (.iload 9, 2) := by decide +kernel
theorem dX8_isWord_39 : decode cX8_isWord 39 = .ok (.iadd, 1) := by decide +kernel
theorem dX8_isWord_40 : decode cX8_isWord 40 = .ok (.iaload, 1) := by decide +kernel
theorem dX8_isWord_41 : decode cX8_isWord 41 = .ok (.iload 9, 2) := by decide +kernel
theorem dX8_isWord_43 : decode cX8_isWord 43 = .ok (.ifCond .ne 7, 3) := by decide +kernel
theorem dX8_isWord_46 : decode cX8_isWord 46 = .ok (.iload_n 2, 1) := by decide +kernel
theorem dX8_isWord_47 : decode cX8_isWord 47 = .ok (.goto 48, 3) := by decide +kernel
theorem dX8_isWord_50 : decode cX8_isWord 50 = .ok (.iload 9, 2) := by decide +kernel
theorem dX8_isWord_52 : decode cX8_isWord 52 = .ok (.iconst 1, 1) := by decide +kernel
theorem dX8_isWord_53 : decode cX8_isWord 53 = .ok (.if_icmp .ne 7, 3) := by decide +kernel
theorem dX8_isWord_56 : decode cX8_isWord 56 = .ok (.iload_n 3, 1) := by decide +kernel
theorem dX8_isWord_57 : decode cX8_isWord 57 = .ok (.goto 38, 3) := by decide +kernel
theorem dX8_isWord_60 : decode cX8_isWord 60 = .ok (.iload 9, 2) := by decide +kernel
theorem dX8_isWord_62 : decode cX8_isWord 62 = .ok (.iconst 2, 1) := by decide +kernel
theorem dX8_isWord_63 : decode cX8_isWord 63 = .ok (.if_icmp .ne 8, 3) := by decide +kernel
theorem dX8_isWord_66 : decode cX8_isWord 66 = .ok (.iload 4, 2) := by decide +kernel
theorem dX8_isWord_68 : decode cX8_isWord 68 = .ok (.goto 27, 3) := by decide +kernel
theorem dX8_isWord_71 : decode cX8_isWord 71 = .ok (.iload 9, 2) := by decide +kernel
theorem dX8_isWord_73 : decode cX8_isWord 73 = .ok (.iconst 3, 1) := by decide +kernel
theorem dX8_isWord_74 : decode cX8_isWord 74 = .ok (.if_icmp .ne 8, 3) := by decide +kernel
theorem dX8_isWord_77 : decode cX8_isWord 77 = .ok (.iload 5, 2) := by decide +kernel
theorem dX8_isWord_79 : decode cX8_isWord 79 = .ok (.goto 16, 3) := by decide +kernel
theorem dX8_isWord_82 : decode cX8_isWord 82 = .ok (.iload 9, 2) := by decide +kernel
theorem dX8_isWord_84 : decode cX8_isWord 84 = .ok (.iconst 4, 1) := by decide +kernel
theorem dX8_isWord_85 : decode cX8_isWord 85 = .ok (.if_icmp .ne 8, 3) := by decide +kernel
theorem dX8_isWord_88 : decode cX8_isWord 88 = .ok (.iload 6, 2) := by decide +kernel
theorem dX8_isWord_90 : decode cX8_isWord 90 = .ok (.goto 5, 3) := by decide +kernel
theorem dX8_isWord_93 : decode cX8_isWord 93 = .ok (.iload 7, 2) := by decide +kernel
theorem dX8_isWord_95 : decode cX8_isWord 95 = .ok (.if_icmp .ne 7, 3) := by decide +kernel
theorem dX8_isWord_98 : decode cX8_isWord 98 = .ok (.iconst 1, 1) := by decide +kernel
theorem dX8_isWord_99 : decode cX8_isWord 99 = .ok (.goto 4, 3) := by decide +kernel
theorem dX8_isWord_102 : decode cX8_isWord 102 = .ok (.iconst 0, 1) := by decide +kernel
theorem dX8_isWord_103 : decode cX8_isWord 103 = .ok (.istore 8, 2) := by decide +kernel
theorem dX8_isWord_105 : decode cX8_isWord 105 = .ok (.iinc 9 1, 3) := by decide +kernel
theorem dX8_isWord_108 : decode cX8_isWord 108 = .ok (.goto (-90), 3) := by decide +kernel
theorem dX8_isWord_111 : decode cX8_isWord 111 = .ok (.iload 8, 2) := by decide +kernel
theorem dX8_isWord_113 : decode cX8_isWord 113 = .ok (.ireturn, 1) := by decide +kernel
set_option maxRecDepth 20000 in
theorem ggX8_takeNumber_X8_here : GoodIn wsX8_takeNumber wsX8_here := goodIn_r _ [13, 2, 6, 7, 22, 23, 24, 25, 26, 27, 28, 29, 30, 31, 32, 33, 34, 35, 36, 37, 38, 39, 40, 41, 42, 43, 44, 45, 46, 47, 48, 49, 50] (by decide +kernel) (by decide +kernel)
set_option maxRecDepth 20000 in
theorem gX8_takeNumber_X8_here : GoodIn wsX8_takeNumber (wsV RX8 86 RX8 yX8_here wsX8_here) := goodIn_app (goodIn_of _ (by decide +kernel)) ggX8_takeNumber_X8_here
set_option maxRecDepth 20000 in
theorem ggX8_takeNumber_X8_in : GoodIn wsX8_takeNumber wsX8_in := goodIn_r _ [16] (by decide +kernel) (by decide +kernel)
set_option maxRecDepth 20000 in
theorem gX8_takeNumber_X8_in : GoodIn wsX8_takeNumber (va_wsS RX8 69 yX8_in wsX8_in) := goodIn_app (goodIn_of _ (by decide +kernel)) ggX8_takeNumber_X8_in
set_option maxRecDepth 20000 in
theorem ggX8_takeNumber_X8_want : GoodIn wsX8_takeNumber wsX8_want := goodIn_r _ [20, 1, 21, 22, 23, 24, 25, 26, 27, 28, 29, 30, 31, 32, 33, 34, 35, 36, 37, 38, 39, 40, 41, 42, 43, 44, 45, 46, 47, 48, 49, 50] (by decide +kernel) (by decide +kernel)
set_option maxRecDepth 20000 in
theorem gX8_takeNumber_X8_want : GoodIn wsX8_takeNumber (wsV RX8 104 RX8 yX8_want wsX8_want) := goodIn_app (goodIn_of _ (by decide +kernel)) ggX8_takeNumber_X8_want
theorem dX8_takeNumber_0 : decode cX8_takeNumber 0 = .ok (.aload_n 0, 1) := by decide +kernel
theorem dX8_takeNumber_1 : decode cX8_takeNumber 1 = .ok (.getfield 83, 3) := by decide +kernel
theorem dX8_takeNumber_4 : decode cX8_takeNumber 4 = .ok (.ifCond .le 5, 3) := by decide +kernel
theorem dX8_takeNumber_7 : decode cX8_takeNumber 7 = .ok (.iconst 0, 1) := by decide +kernel
theorem dX8_takeNumber_8 : decode cX8_takeNumber 8 = .ok (.ireturn, 1) := by decide +kernel
theorem dX8_takeNumber_9 : decode cX8_takeNumber 9 = .ok (.aload_n 0, 1) := by decide +kernel
theorem dX8_takeNumber_10 : decode cX8_takeNumber 10 = .ok (.invokevirtual 86, 3) := by decide +kernel
theorem dX8_takeNumber_13 : decode cX8_takeNumber 13 = .ok (.istore_n 3, 1) := by decide +kernel
theorem dX8_takeNumber_14 : decode cX8_takeNumber 14 = .ok (.aload_n 0, 1) := by decide +kernel
theorem dX8_takeNumber_15 : decode cX8_takeNumber 15 = .ok (.aload_n 0, 1) := by decide +kernel
theorem dX8_takeNumber_16 : decode cX8_takeNumber 16 = .ok (.getfield 80, 3) := by decide +kernel
theorem dX8_takeNumber_19 : decode cX8_takeNumber 19 = .ok (.putfield 90, 3) := by decide +kernel
theorem dX8_takeNumber_22 : decode cX8_takeNumber 22 = .ok (.aload_n 0, 1) := by decide +kernel
theorem dX8_takeNumber_23 : decode cX8_takeNumber 23 = .ok (.iload_n 3, 1) := by decide +kernel
theorem dX8_takeNumber_24 : decode cX8_takeNumber 24 = .ok (.i2l, 1) := by decide +kernel
theorem dX8_takeNumber_25 : decode cX8_takeNumber 25 = .ok (.ldc2_w 100, 3) := by decide +kernel
theorem dX8_takeNumber_28 : decode cX8_takeNumber 28 = .ok (.ldc2_w 102, 3) := by decide +kernel
theorem dX8_takeNumber_31 : decode cX8_takeNumber 31 = .ok (.invokestatic 69, 3) := by decide +kernel
theorem dX8_takeNumber_34 : decode cX8_takeNumber 34 = .ok (.iconst 1, 1) := by decide +kernel
theorem dX8_takeNumber_35 : decode cX8_takeNumber 35 = .ok (.aload_n 0, 1) := by decide +kernel
theorem dX8_takeNumber_36 : decode cX8_takeNumber 36 = .ok (.getfield 80, 3) := by decide +kernel
theorem dX8_takeNumber_39 : decode cX8_takeNumber 39 = .ok (.invokevirtual 104, 3) := by decide +kernel
theorem dX8_takeNumber_42 : decode cX8_takeNumber 42 = .ok (.ifCond .ne 5, 3) := by decide +kernel
theorem dX8_takeNumber_45 : decode cX8_takeNumber 45 = .ok (.iconst 0, 1) := by decide +kernel
theorem dX8_takeNumber_46 : decode cX8_takeNumber 46 = .ok (.ireturn, 1) := by decide +kernel
theorem dX8_takeNumber_47 : decode cX8_takeNumber 47 = .ok (.iconst 0, 1) := by decide +kernel
theorem dX8_takeNumber_48 : decode cX8_takeNumber 48 = .ok (.istore 4, 2) := by decide +kernel
theorem dX8_takeNumber_50 : decode cX8_takeNumber 50 = .ok (.aload_n 0, 1) := by decide +kernel
theorem dX8_takeNumber_51 : decode cX8_takeNumber 51 = .ok (.getfield 80, 3) := by decide +kernel
theorem dX8_takeNumber_54 : decode cX8_takeNumber 54 = .ok (.aload_n 0, 1) := by decide +kernel
theorem dX8_takeNumber_55 : decode cX8_takeNumber 55 = .ok (.getfield 74, 3) := by decide +kernel
theorem dX8_takeNumber_58 : decode cX8_takeNumber 58 = .ok (.if_icmp .ge 70, 3) := by decide +kernel
theorem dX8_takeNumber_61 : decode cX8_takeNumber 61 = .ok (.aload_n 0, 1) := by decide +kernel
theorem dX8_takeNumber_62 : decode cX8_takeNumber 62 = .ok (.getfield 46, 3) := by decide +kernel
theorem dX8_takeNumber_65 : decode cX8_takeNumber 65 = .ok (.aload_n 0, 1) := by decide +kernel
theorem dX8_takeNumber_66 : decode cX8_takeNumber 66 = .ok (.getfield 80, 3) := by decide +kernel
theorem dX8_takeNumber_69 : decode cX8_takeNumber 69 = .ok (.iaload, 1) := by decide +kernel
theorem dX8_takeNumber_70 : decode cX8_takeNumber 70 = .ok (.i2l, 1) := by decide +kernel
theorem dX8_takeNumber_71 : decode cX8_takeNumber 71 = .ok (.ldc2_w 100, 3) := by decide +kernel
theorem dX8_takeNumber_74 : decode cX8_takeNumber 74 = .ok (.ldc2_w 102, 3) := by decide +kernel
theorem dX8_takeNumber_77 : decode cX8_takeNumber 77 = .ok (.invokestatic 69, 3) := by decide +kernel
theorem dX8_takeNumber_80 : decode cX8_takeNumber 80 = .ok (.ifCond .eq 48, 3) := by decide +kernel
theorem dX8_takeNumber_83 : decode cX8_takeNumber 83 = .ok (.iload 4, 2) := by decide +kernel
theorem dX8_takeNumber_85 : decode cX8_takeNumber 85 = .ok (.ldc 108, 2) := by decide +kernel
theorem dX8_takeNumber_87 : decode cX8_takeNumber 87 = .ok (.if_icmp .le 8, 3) := by decide +kernel
theorem dX8_takeNumber_90 : decode cX8_takeNumber 90 = .ok (.iload 4, 2) := by decide +kernel
theorem dX8_takeNumber_92 : decode cX8_takeNumber 92 = .ok (.goto 21, 3) := by decide +kernel
theorem dX8_takeNumber_95 : decode cX8_takeNumber 95 = .ok (.bipush 10, 2) := by decide +kernel
theorem dX8_takeNumber_97 : decode cX8_takeNumber 97 = .ok (.iload 4, 2) := by decide +kernel
theorem dX8_takeNumber_99 : decode cX8_takeNumber 99 = .ok (.imul, 1) := by decide +kernel
theorem dX8_takeNumber_100 : decode cX8_takeNumber 100 = .ok (.aload_n 0, 1) := by decide +kernel
theorem dX8_takeNumber_101 : decode cX8_takeNumber 101 = .ok (.getfield 46, 3) := by decide +kernel
theorem dX8_takeNumber_104 : decode cX8_takeNumber 104 = .ok (.aload_n 0, 1) := by decide +kernel
theorem dX8_takeNumber_105 : decode cX8_takeNumber 105 = .ok (.getfield 80, 3) := by decide +kernel
theorem dX8_takeNumber_108 : decode cX8_takeNumber 108 = .ok (.iaload, 1) := by decide +kernel
theorem dX8_takeNumber_109 : decode cX8_takeNumber 109 = .ok (.iadd, 1) := by decide +kernel
theorem dX8_takeNumber_110 : decode cX8_takeNumber 110 = .ok (.bipush 48, 2) := by decide +kernel
theorem dX8_takeNumber_112 : decode cX8_takeNumber 112 = .ok (.isub, 1) := by decide +kernel
theorem dX8_takeNumber_113 : decode cX8_takeNumber 113 = .ok (.istore 4, 2) := by decide +kernel
theorem dX8_takeNumber_115 : decode cX8_takeNumber 115 = .ok (.aload_n 0, 1) := by decide +kernel
theorem dX8_takeNumber_116 : decode cX8_takeNumber 116 = .ok (.dup, 1) := by decide +kernel
theorem dX8_takeNumber_117 : decode cX8_takeNumber 117 = .ok (.getfield 80, 3) := by decide +kernel
theorem dX8_takeNumber_120 : decode cX8_takeNumber 120 = .ok (.iconst 1, 1) := by decide +kernel
theorem dX8_takeNumber_121 : decode cX8_takeNumber 121 = .ok (.iadd, 1) := by decide +kernel
theorem dX8_takeNumber_122 : decode cX8_takeNumber 122 = .ok (.putfield 80, 3) := by decide +kernel
theorem dX8_takeNumber_125 : decode cX8_takeNumber 125 = .ok (.goto (-75), 3) := by decide +kernel
theorem dX8_takeNumber_128 : decode cX8_takeNumber 128 = .ok (.aload_n 0, 1) := by decide +kernel
theorem dX8_takeNumber_129 : decode cX8_takeNumber 129 = .ok (.aload_n 0, 1) := by decide +kernel
theorem dX8_takeNumber_130 : decode cX8_takeNumber 130 = .ok (.getfield 80, 3) := by decide +kernel
theorem dX8_takeNumber_133 : decode cX8_takeNumber 133 = .ok (.aload_n 0, 1) := by decide +kernel
theorem dX8_takeNumber_134 : decode cX8_takeNumber 134 = .ok (.getfield 90, 3) := by decide +kernel
theorem dX8_takeNumber_137 : decode cX8_takeNumber 137 = .ok (.isub, 1) := by decide +kernel
theorem dX8_takeNumber_138 : decode cX8_takeNumber 138 = .ok (.iconst 5, 1) := by decide +kernel
theorem dX8_takeNumber_139 : decode cX8_takeNumber 139 = .ok (.if_icmp .ge 20, 3) := by decide +kernel
theorem dX8_takeNumber_142 : decode cX8_takeNumber 142 = .ok (.iload 4, 2) := by decide +kernel
theorem dX8_takeNumber_144 : decode cX8_takeNumber 144 = .ok (.i2l, 1) := by decide +kernel
theorem dX8_takeNumber_145 : decode cX8_takeNumber 145 = .ok (.iload_n 1, 1) := by decide +kernel
theorem dX8_takeNumber_146 : decode cX8_takeNumber 146 = .ok (.i2l, 1) := by decide +kernel
theorem dX8_takeNumber_147 : decode cX8_takeNumber 147 = .ok (.iload_n 2, 1) := by decide +kernel
theorem dX8_takeNumber_148 : decode cX8_takeNumber 148 = .ok (.i2l, 1) := by decide +kernel
theorem dX8_takeNumber_149 : decode cX8_takeNumber 149 = .ok (.invokestatic 69, 3) := by decide +kernel
theorem dX8_takeNumber_152 : decode cX8_takeNumber 152 = .ok (.ifCond .eq 7, 3) := by decide +kernel
theorem dX8_takeNumber_155 : decode cX8_takeNumber 155 = .ok (.iconst 1, 1) := by decide +kernel
theorem dX8_takeNumber_156 : decode cX8_takeNumber 156 = .ok (.goto 4, 3) := by decide +kernel
theorem dX8_takeNumber_159 : decode cX8_takeNumber 159 = .ok (.iconst 0, 1) := by decide +kernel
theorem dX8_takeNumber_160 : decode cX8_takeNumber 160 = .ok (.iconst 2, 1) := by decide +kernel
theorem dX8_takeNumber_161 : decode cX8_takeNumber 161 = .ok (.aload_n 0, 1) := by decide +kernel
theorem dX8_takeNumber_162 : decode cX8_takeNumber 162 = .ok (.getfield 90, 3) := by decide +kernel
theorem dX8_takeNumber_165 : decode cX8_takeNumber 165 = .ok (.invokevirtual 104, 3) := by decide +kernel
theorem dX8_takeNumber_168 : decode cX8_takeNumber 168 = .ok (.istore 5, 2) := by decide +kernel
theorem dX8_takeNumber_170 : decode cX8_takeNumber 170 = .ok (.iload 4, 2) := by decide +kernel
theorem dX8_takeNumber_172 : decode cX8_takeNumber 172 = .ok (.ireturn, 1) := by decide +kernel
set_option maxRecDepth 20000 in
theorem ggX8_takeStone_X8_want : GoodIn wsX8_takeStone wsX8_want := goodIn_r _ [10, 11, 12, 30, 31, 32, 33, 34, 35, 36, 37, 38, 39, 40, 41, 42, 43, 44, 45, 46, 47, 48, 49, 50, 51, 52, 53, 54, 55, 56, 57, 58] (by decide +kernel) (by decide +kernel)
set_option maxRecDepth 20000 in
theorem gX8_takeStone_X8_want : GoodIn wsX8_takeStone (wsV RX8 104 RX8 yX8_want wsX8_want) := goodIn_app (goodIn_of _ (by decide +kernel)) ggX8_takeStone_X8_want
set_option maxRecDepth 20000 in
theorem ggX8_takeStone_X8_takeNumber : GoodIn wsX8_takeStone wsX8_takeNumber := goodIn_r _ [16, 11, 17, 5, 18, 19, 20, 21, 22, 23, 24, 25, 9, 26, 27, 28, 29, 6, 7, 8, 10, 12, 30, 31, 32, 33, 34, 35, 36, 37, 38, 39, 40, 41, 42, 43, 44, 45, 46, 47, 48, 49, 50, 51, 52, 53, 54, 55, 56, 57, 58] (by decide +kernel) (by decide +kernel)
set_option maxRecDepth 20000 in
theorem gX8_takeStone_X8_takeNumber : GoodIn wsX8_takeStone (wsV RX8 109 RX8 yX8_takeNumber wsX8_takeNumber) := goodIn_app (goodIn_of _ (by decide +kernel)) ggX8_takeStone_X8_takeNumber
theorem dX8_takeStone_0 : decode cX8_takeStone 0 = .ok (.aload_n 0, 1) := by decide +kernel
theorem dX8_takeStone_1 : decode cX8_takeStone 1 = .ok (.aload_n 0, 1) := by decide +kernel
theorem dX8_takeStone_2 : decode cX8_takeStone 2 = .ok (.getfield 36, 3) := by decide +kernel
theorem dX8_takeStone_5 : decode cX8_takeStone 5 = .ok (.iconst 2, 1) := by decide +kernel
theorem dX8_takeStone_6 : decode cX8_takeStone 6 = .ok (.iaload, 1) := by decide +kernel
theorem dX8_takeStone_7 : decode cX8_takeStone 7 = .ok (.bipush 9, 2) := by decide +kernel
theorem dX8_takeStone_9 : decode cX8_takeStone 9 = .ok (.if_icmp .ge 7, 3) := by decide +kernel
theorem dX8_takeStone_12 : decode cX8_takeStone 12 = .ok (.iconst 1, 1) := by decide +kernel
theorem dX8_takeStone_13 : decode cX8_takeStone 13 = .ok (.goto 4, 3) := by decide +kernel
theorem dX8_takeStone_16 : decode cX8_takeStone 16 = .ok (.iconst 0, 1) := by decide +kernel
theorem dX8_takeStone_17 : decode cX8_takeStone 17 = .ok (.iconst 3, 1) := by decide +kernel
theorem dX8_takeStone_18 : decode cX8_takeStone 18 = .ok (.iload_n 1, 1) := by decide +kernel
theorem dX8_takeStone_19 : decode cX8_takeStone 19 = .ok (.invokevirtual 104, 3) := by decide +kernel
theorem dX8_takeStone_22 : decode cX8_takeStone 22 = .ok (.ifCond .eq 95, 3) := by decide +kernel
theorem dX8_takeStone_25 : decode cX8_takeStone 25 = .ok (.bipush 10, 2) := by decide +kernel
theorem dX8_takeStone_27 : decode cX8_takeStone 27 = .ok (.aload_n 0, 1) := by decide +kernel
theorem dX8_takeStone_28 : decode cX8_takeStone 28 = .ok (.getfield 36, 3) := by decide +kernel
theorem dX8_takeStone_31 : decode cX8_takeStone 31 = .ok (.iconst 2, 1) := by decide +kernel
theorem dX8_takeStone_32 : decode cX8_takeStone 32 = .ok (.iaload, 1) := by decide +kernel
theorem dX8_takeStone_33 : decode cX8_takeStone 33 = .ok (.iadd, 1) := by decide +kernel
theorem dX8_takeStone_34 : decode cX8_takeStone 34 = .ok (.istore_n 2, 1) := by decide +kernel
theorem dX8_takeStone_35 : decode cX8_takeStone 35 = .ok (.aload_n 0, 1) := by decide +kernel
theorem dX8_takeStone_36 : decode cX8_takeStone 36 = .ok (.getfield 17, 3) := by decide +kernel
theorem dX8_takeStone_39 : decode cX8_takeStone 39 = .ok (.iload_n 2, 1) := by decide +kernel
theorem dX8_takeStone_40 : decode cX8_takeStone 40 = .ok (.aload_n 0, 1) := by decide +kernel
theorem dX8_takeStone_41 : decode cX8_takeStone 41 = .ok (.iconst 1, 1) := by decide +kernel
theorem dX8_takeStone_42 : decode cX8_takeStone 42 = .ok (.sipush 9999, 3) := by decide +kernel
theorem dX8_takeStone_45 : decode cX8_takeStone 45 = .ok (.invokevirtual 109, 3) := by decide +kernel
theorem dX8_takeStone_48 : decode cX8_takeStone 48 = .ok (.iastore, 1) := by decide +kernel
theorem dX8_takeStone_49 : decode cX8_takeStone 49 = .ok (.aload_n 0, 1) := by decide +kernel
theorem dX8_takeStone_50 : decode cX8_takeStone 50 = .ok (.getfield 21, 3) := by decide +kernel
theorem dX8_takeStone_53 : decode cX8_takeStone 53 = .ok (.iload_n 2, 1) := by decide +kernel
theorem dX8_takeStone_54 : decode cX8_takeStone 54 = .ok (.aload_n 0, 1) := by decide +kernel
theorem dX8_takeStone_55 : decode cX8_takeStone 55 = .ok (.iconst 2, 1) := by decide +kernel
theorem dX8_takeStone_56 : decode cX8_takeStone 56 = .ok (.sipush 999, 3) := by decide +kernel
theorem dX8_takeStone_59 : decode cX8_takeStone 59 = .ok (.invokevirtual 109, 3) := by decide +kernel
theorem dX8_takeStone_62 : decode cX8_takeStone 62 = .ok (.iastore, 1) := by decide +kernel
theorem dX8_takeStone_63 : decode cX8_takeStone 63 = .ok (.aload_n 0, 1) := by decide +kernel
theorem dX8_takeStone_64 : decode cX8_takeStone 64 = .ok (.getfield 24, 3) := by decide +kernel
theorem dX8_takeStone_67 : decode cX8_takeStone 67 = .ok (.iload_n 2, 1) := by decide +kernel
theorem dX8_takeStone_68 : decode cX8_takeStone 68 = .ok (.aload_n 0, 1) := by decide +kernel
theorem dX8_takeStone_69 : decode cX8_takeStone 69 = .ok (.iconst 0, 1) := by decide +kernel
theorem dX8_takeStone_70 : decode cX8_takeStone 70 = .ok (.sipush 9999, 3) := by decide +kernel
theorem dX8_takeStone_73 : decode cX8_takeStone 73 = .ok (.invokevirtual 109, 3) := by decide +kernel
theorem dX8_takeStone_76 : decode cX8_takeStone 76 = .ok (.iastore, 1) := by decide +kernel
theorem dX8_takeStone_77 : decode cX8_takeStone 77 = .ok (.aload_n 0, 1) := by decide +kernel
theorem dX8_takeStone_78 : decode cX8_takeStone 78 = .ok (.aload_n 0, 1) := by decide +kernel
theorem dX8_takeStone_79 : decode cX8_takeStone 79 = .ok (.getfield 24, 3) := by decide +kernel
theorem dX8_takeStone_82 : decode cX8_takeStone 82 = .ok (.iload_n 2, 1) := by decide +kernel
theorem dX8_takeStone_83 : decode cX8_takeStone 83 = .ok (.iaload, 1) := by decide +kernel
theorem dX8_takeStone_84 : decode cX8_takeStone 84 = .ok (.aload_n 0, 1) := by decide +kernel
theorem dX8_takeStone_85 : decode cX8_takeStone 85 = .ok (.getfield 17, 3) := by decide +kernel
theorem dX8_takeStone_88 : decode cX8_takeStone 88 = .ok (.iload_n 2, 1) := by decide +kernel
theorem dX8_takeStone_89 : decode cX8_takeStone 89 = .ok (.iaload, 1) := by decide +kernel
theorem dX8_takeStone_90 : decode cX8_takeStone 90 = .ok (.if_icmp .gt 7, 3) := by decide +kernel
theorem dX8_takeStone_93 : decode cX8_takeStone 93 = .ok (.iconst 1, 1) := by decide +kernel
theorem dX8_takeStone_94 : decode cX8_takeStone 94 = .ok (.goto 4, 3) := by decide +kernel
theorem dX8_takeStone_97 : decode cX8_takeStone 97 = .ok (.iconst 0, 1) := by decide +kernel
theorem dX8_takeStone_98 : decode cX8_takeStone 98 = .ok (.iconst 4, 1) := by decide +kernel
theorem dX8_takeStone_99 : decode cX8_takeStone 99 = .ok (.aload_n 0, 1) := by decide +kernel
theorem dX8_takeStone_100 : decode cX8_takeStone 100 = .ok (.getfield 90, 3) := by decide +kernel
theorem dX8_takeStone_103 : decode cX8_takeStone 103 = .ok (.invokevirtual 104, 3) := by decide +kernel
theorem dX8_takeStone_106 : decode cX8_takeStone 106 = .ok (.istore_n 3, 1) := by decide +kernel
theorem dX8_takeStone_107 : decode cX8_takeStone 107 = .ok (.aload_n 0, 1) := by decide +kernel
theorem dX8_takeStone_108 : decode cX8_takeStone 108 = .ok (.getfield 36, 3) := by decide +kernel
theorem dX8_takeStone_111 : decode cX8_takeStone 111 = .ok (.iconst 2, 1) := by decide +kernel
theorem dX8_takeStone_112 : decode cX8_takeStone 112 = .ok (.dup2, 1) := by decide +kernel
theorem dX8_takeStone_113 : decode cX8_takeStone 113 = .ok (.iaload, 1) := by decide +kernel
theorem dX8_takeStone_114 : decode cX8_takeStone 114 = .ok (.iconst 1, 1) := by decide +kernel
theorem dX8_takeStone_115 : decode cX8_takeStone 115 = .ok (.iadd, 1) := by decide +kernel
theorem dX8_takeStone_116 : decode cX8_takeStone 116 = .ok (.iastore, 1) := by decide +kernel
theorem dX8_takeStone_117 : decode cX8_takeStone 117 = .ok (.return_, 1) := by decide +kernel
set_option maxRecDepth 20000 in
theorem ggX8_takePerson_X8_want : GoodIn wsX8_takePerson wsX8_want := goodIn_r _ [10, 11, 12, 41, 42, 43, 44, 45, 46, 47, 48, 49, 50, 51, 52, 53, 54, 55, 56, 57, 58, 59, 60, 61, 62, 63, 64, 65, 66, 67, 68, 69] (by decide +kernel) (by decide +kernel)
set_option maxRecDepth 20000 in
theorem gX8_takePerson_X8_want : GoodIn wsX8_takePerson (wsV RX8 104 RX8 yX8_want wsX8_want) := goodIn_app (goodIn_of _ (by decide +kernel)) ggX8_takePerson_X8_want
set_option maxRecDepth 20000 in
theorem ggX8_takePerson_X8_takeWord : GoodIn wsX8_takePerson wsX8_takeWord := goodIn_r _ [16, 17, 3, 18, 19, 20, 21, 22, 23, 24, 25, 9, 26, 27, 28, 29, 41, 42, 43, 44, 45, 46, 47, 48, 49, 50, 51, 52, 53, 54, 55, 56, 57, 58, 59, 60, 61, 62, 63, 64, 65, 66, 67, 68, 69] (by decide +kernel) (by decide +kernel)
set_option maxRecDepth 20000 in
theorem gX8_takePerson_X8_takeWord : GoodIn wsX8_takePerson (wsV RX8 113 RX8 yX8_takeWord wsX8_takeWord) := goodIn_app (goodIn_of _ (by decide +kernel)) ggX8_takePerson_X8_takeWord
set_option maxRecDepth 20000 in
theorem ggX8_takePerson_X8_isWord : GoodIn wsX8_takePerson wsX8_isWord := goodIn_r _ [33, 22, 19, 3, 41, 42, 43, 44, 45, 46, 47, 48, 49, 50, 51, 52, 53, 54, 55, 56, 57, 58, 59, 60, 61, 62, 63, 64, 65, 66, 67, 68, 69] (by decide +kernel) (by decide +kernel)
set_option maxRecDepth 20000 in
theorem gX8_takePerson_X8_isWord : GoodIn wsX8_takePerson (wsV RX8 116 RX8 yX8_isWord wsX8_isWord) := goodIn_app (goodIn_of _ (by decide +kernel)) ggX8_takePerson_X8_isWord
set_option maxRecDepth 20000 in
theorem ggX8_takePerson_X8_takeNumber : GoodIn wsX8_takePerson wsX8_takeNumber := goodIn_r _ [37, 11, 17, 3, 38, 39, 18, 19, 40, 23, 24, 25, 9, 26, 27, 28, 29, 6, 7, 8, 10, 12, 41, 42, 43, 44, 45, 46, 47, 48, 49, 50, 51, 52, 53, 54, 55, 56, 57, 58, 59, 60, 61, 62, 63, 64, 65, 66, 67, 68, 69] (by decide +kernel) (by decide +kernel)
set_option maxRecDepth 20000 in
theorem gX8_takePerson_X8_takeNumber : GoodIn wsX8_takePerson (wsV RX8 109 RX8 yX8_takeNumber wsX8_takeNumber) := goodIn_app (goodIn_of _ (by decide +kernel)) ggX8_takePerson_X8_takeNumber
theorem dX8_takePerson_0 : decode cX8_takePerson 0 = .ok (.aload_n 0, 1) := by decide +kernel
theorem dX8_takePerson_1 : decode cX8_takePerson 1 = .ok (.aload_n 0, 1) := by decide +kernel
theorem dX8_takePerson_2 : decode cX8_takePerson 2 = .ok (.getfield 36, 3) := by decide +kernel
theorem dX8_takePerson_5 : decode cX8_takePerson 5 = .ok (.iconst 3, 1) := by decide +kernel
theorem dX8_takePerson_6 : decode cX8_takePerson 6 = .ok (.iaload, 1) := by decide +kernel
theorem dX8_takePerson_7 : decode cX8_takePerson 7 = .ok (.bipush 8, 2) := by decide +kernel
theorem dX8_takePerson_9 : decode cX8_takePerson 9 = .ok (.if_icmp .ge 7, 3) := by decide +kernel
theorem dX8_takePerson_12 : decode cX8_takePerson 12 = .ok (.iconst 1, 1) := by decide +kernel
theorem dX8_takePerson_13 : decode cX8_takePerson 13 = .ok (.goto 4, 3) := by decide +kernel
theorem dX8_takePerson_16 : decode cX8_takePerson 16 = .ok (.iconst 0, 1) := by decide +kernel
theorem dX8_takePerson_17 : decode cX8_takePerson 17 = .ok (.iconst 3, 1) := by decide +kernel
theorem dX8_takePerson_18 : decode cX8_takePerson 18 = .ok (.iload_n 1, 1) := by decide +kernel
theorem dX8_takePerson_19 : decode cX8_takePerson 19 = .ok (.invokevirtual 104, 3) := by decide +kernel
theorem dX8_takePerson_22 : decode cX8_takePerson 22 = .ok (.ifCond .eq 203, 3) := by decide +kernel
theorem dX8_takePerson_25 : decode cX8_takePerson 25 = .ok (.bipush 10, 2) := by decide +kernel
theorem dX8_takePerson_27 : decode cX8_takePerson 27 = .ok (.aload_n 0, 1) := by decide +kernel
theorem dX8_takePerson_28 : decode cX8_takePerson 28 = .ok (.getfield 36, 3) := by decide +kernel
theorem dX8_takePerson_31 : decode cX8_takePerson 31 = .ok (.iconst 3, 1) := by decide +kernel
theorem dX8_takePerson_32 : decode cX8_takePerson 32 = .ok (.iaload, 1) := by decide +kernel
theorem dX8_takePerson_33 : decode cX8_takePerson 33 = .ok (.iadd, 1) := by decide +kernel
theorem dX8_takePerson_34 : decode cX8_takePerson 34 = .ok (.istore_n 2, 1) := by decide +kernel
theorem dX8_takePerson_35 : decode cX8_takePerson 35 = .ok (.aload_n 0, 1) := by decide +kernel
theorem dX8_takePerson_36 : decode cX8_takePerson 36 = .ok (.invokevirtual 113, 3) := by decide +kernel
theorem dX8_takePerson_39 : decode cX8_takePerson 39 = .ok (.aload_n 0, 1) := by decide +kernel
theorem dX8_takePerson_40 : decode cX8_takePerson 40 = .ok (.getfield 27, 3) := by decide +kernel
theorem dX8_takePerson_43 : decode cX8_takePerson 43 = .ok (.iload_n 2, 1) := by decide +kernel
theorem dX8_takePerson_44 : decode cX8_takePerson 44 = .ok (.aload_n 0, 1) := by decide +kernel
theorem dX8_takePerson_45 : decode cX8_takePerson 45 = .ok (.iconst 5, 1) := by decide +kernel
theorem dX8_takePerson_46 : decode cX8_takePerson 46 = .ok (.bipush 112, 2) := by decide +kernel
theorem dX8_takePerson_48 : decode cX8_takePerson 48 = .ok (.bipush 108, 2) := by decide +kernel
theorem dX8_takePerson_50 : decode cX8_takePerson 50 = .ok (.bipush 97, 2) := by decide +kernel
theorem dX8_takePerson_52 : decode cX8_takePerson 52 = .ok (.bipush 105, 2) := by decide +kernel
theorem dX8_takePerson_54 : decode cX8_takePerson 54 = .ok (.bipush 110, 2) := by decide +kernel
theorem dX8_takePerson_56 : decode cX8_takePerson 56 = .ok (.iconst 0, 1) := by decide +kernel
theorem dX8_takePerson_57 : decode cX8_takePerson 57 = .ok (.invokevirtual 116, 3) := by decide +kernel
theorem dX8_takePerson_60 : decode cX8_takePerson 60 = .ok (.ifCond .eq 7, 3) := by decide +kernel
theorem dX8_takePerson_63 : decode cX8_takePerson 63 = .ok (.iconst 0, 1) := by decide +kernel
theorem dX8_takePerson_64 : decode cX8_takePerson 64 = .ok (.goto 96, 3) := by decide +kernel
theorem dX8_takePerson_67 : decode cX8_takePerson 67 = .ok (.aload_n 0, 1) := by decide +kernel
theorem dX8_takePerson_68 : decode cX8_takePerson 68 = .ok (.iconst 3, 1) := by decide +kernel
theorem dX8_takePerson_69 : decode cX8_takePerson 69 = .ok (.bipush 102, 2) := by decide +kernel
theorem dX8_takePerson_71 : decode cX8_takePerson 71 = .ok (.bipush 97, 2) := by decide +kernel
theorem dX8_takePerson_73 : decode cX8_takePerson 73 = .ok (.bipush 116, 2) := by decide +kernel
theorem dX8_takePerson_75 : decode cX8_takePerson 75 = .ok (.iconst 0, 1) := by decide +kernel
theorem dX8_takePerson_76 : decode cX8_takePerson 76 = .ok (.iconst 0, 1) := by decide +kernel
theorem dX8_takePerson_77 : decode cX8_takePerson 77 = .ok (.iconst 0, 1) := by decide +kernel
theorem dX8_takePerson_78 : decode cX8_takePerson 78 = .ok (.invokevirtual 116, 3) := by decide +kernel
theorem dX8_takePerson_81 : decode cX8_takePerson 81 = .ok (.ifCond .eq 7, 3) := by decide +kernel
theorem dX8_takePerson_84 : decode cX8_takePerson 84 = .ok (.iconst 1, 1) := by decide +kernel
theorem dX8_takePerson_85 : decode cX8_takePerson 85 = .ok (.goto 75, 3) := by decide +kernel
theorem dX8_takePerson_88 : decode cX8_takePerson 88 = .ok (.aload_n 0, 1) := by decide +kernel
theorem dX8_takePerson_89 : decode cX8_takePerson 89 = .ok (.iconst 5, 1) := by decide +kernel
theorem dX8_takePerson_90 : decode cX8_takePerson 90 = .ok (.bipush 109, 2) := by decide +kernel
theorem dX8_takePerson_92 : decode cX8_takePerson 92 = .ok (.bipush 105, 2) := by decide +kernel
theorem dX8_takePerson_94 : decode cX8_takePerson 94 = .ok (.bipush 115, 2) := by decide +kernel
theorem dX8_takePerson_96 : decode cX8_takePerson 96 = .ok (.bipush 101, 2) := by decide +kernel
theorem dX8_takePerson_98 : decode cX8_takePerson 98 = .ok (.bipush 114, 2) := by decide +kernel
theorem dX8_takePerson_100 : decode cX8_takePerson 100 = .ok (.iconst 0, 1) := by decide +kernel
theorem dX8_takePerson_101 : decode cX8_takePerson 101 = .ok (.invokevirtual 116, 3) := by decide +kernel
theorem dX8_takePerson_104 : decode cX8_takePerson 104 = .ok (.ifCond .eq 7, 3) := by decide +kernel
theorem dX8_takePerson_107 : decode cX8_takePerson 107 = .ok (.iconst 2, 1) := by decide +kernel
theorem dX8_takePerson_108 : decode cX8_takePerson 108 = .ok (.goto 52, 3) := by decide +kernel
theorem dX8_takePerson_111 : decode cX8_takePerson 111 = .ok (.aload_n 0, 1) := by decide +kernel
theorem dX8_takePerson_112 : decode cX8_takePerson 112 = .ok (.iconst 5, 1) := by decide +kernel
theorem dX8_takePerson_113 : decode cX8_takePerson 113 = .ok (.bipush 100, 2) := by decide +kernel
theorem dX8_takePerson_115 : decode cX8_takePerson 115 = .ok (.bipush 114, 2) := by decide +kernel
theorem dX8_takePerson_117 : decode cX8_takePerson 117 = .ok (.bipush 97, 2) := by decide +kernel
theorem dX8_takePerson_119 : decode cX8_takePerson 119 = .ok (.bipush 105, 2) := by decide +kernel
theorem dX8_takePerson_121 : decode cX8_takePerson 121 = .ok (.bipush 110, 2) := by decide +kernel
theorem dX8_takePerson_123 : decode cX8_takePerson 123 = .ok (.iconst 0, 1) := by decide +kernel
theorem dX8_takePerson_124 : decode cX8_takePerson 124 = .ok (.invokevirtual 116, 3) := by decide +kernel
theorem dX8_takePerson_127 : decode cX8_takePerson 127 = .ok (.ifCond .eq 7, 3) := by decide +kernel
theorem dX8_takePerson_130 : decode cX8_takePerson 130 = .ok (.iconst 3, 1) := by decide +kernel
theorem dX8_takePerson_131 : decode cX8_takePerson 131 = .ok (.goto 29, 3) := by decide +kernel
theorem dX8_takePerson_134 : decode cX8_takePerson 134 = .ok (.aload_n 0, 1) := by decide +kernel
theorem dX8_takePerson_135 : decode cX8_takePerson 135 = .ok (.bipush 6, 2) := by decide +kernel
theorem dX8_takePerson_137 : decode cX8_takePerson 137 = .ok (.bipush 98, 2) := by decide +kernel
theorem dX8_takePerson_139 : decode cX8_takePerson 139 = .ok (.bipush 101, 2) := by decide +kernel
theorem dX8_takePerson_141 : decode cX8_takePerson 141 = .ok (.bipush 103, 2) := by decide +kernel
theorem dX8_takePerson_143 : decode cX8_takePerson 143 = .ok (.bipush 103, 2) := by decide +kernel
theorem dX8_takePerson_145 : decode cX8_takePerson 145 = .ok (.bipush 97, 2) := by decide +kernel
theorem dX8_takePerson_147 : decode cX8_takePerson 147 = .ok (.bipush 114, 2) := by decide +kernel
theorem dX8_takePerson_149 : decode cX8_takePerson 149 = .ok (.invokevirtual 116, 3) := by decide +kernel
theorem dX8_takePerson_152 : decode cX8_takePerson 152 = .ok (.ifCond .eq 7, 3) := by decide +kernel
theorem dX8_takePerson_155 : decode cX8_takePerson 155 = .ok (.iconst 4, 1) := by decide +kernel
theorem dX8_takePerson_156 : decode cX8_takePerson 156 = .ok (.goto 4, 3) := by decide +kernel
theorem dX8_takePerson_159 : decode cX8_takePerson 159 = .ok (.iconst (-1), 1) := by decide +kernel
theorem dX8_takePerson_160 : decode cX8_takePerson 160 = .ok (.iastore, 1) := by decide +kernel
theorem dX8_takePerson_161 : decode cX8_takePerson 161 = .ok (.aload_n 0, 1) := by decide +kernel
theorem dX8_takePerson_162 : decode cX8_takePerson 162 = .ok (.aload_n 0, 1) := by decide +kernel
theorem dX8_takePerson_163 : decode cX8_takePerson 163 = .ok (.getfield 27, 3) := by decide +kernel
theorem dX8_takePerson_166 : decode cX8_takePerson 166 = .ok (.iload_n 2, 1) := by decide +kernel
theorem dX8_takePerson_167 : decode cX8_takePerson 167 = .ok (.iaload, 1) := by decide +kernel
theorem dX8_takePerson_168 : decode cX8_takePerson 168 = .ok (.ifCond .lt 7, 3) := by decide +kernel
theorem dX8_takePerson_171 : decode cX8_takePerson 171 = .ok (.iconst 1, 1) := by decide +kernel
theorem dX8_takePerson_172 : decode cX8_takePerson 172 = .ok (.goto 4, 3) := by decide +kernel
theorem dX8_takePerson_175 : decode cX8_takePerson 175 = .ok (.iconst 0, 1) := by decide +kernel
theorem dX8_takePerson_176 : decode cX8_takePerson 176 = .ok (.iconst 1, 1) := by decide +kernel
theorem dX8_takePerson_177 : decode cX8_takePerson 177 = .ok (.aload_n 0, 1) := by decide +kernel
theorem dX8_takePerson_178 : decode cX8_takePerson 178 = .ok (.getfield 90, 3) := by decide +kernel
theorem dX8_takePerson_181 : decode cX8_takePerson 181 = .ok (.invokevirtual 104, 3) := by decide +kernel
theorem dX8_takePerson_184 : decode cX8_takePerson 184 = .ok (.ifCond .eq 41, 3) := by decide +kernel
theorem dX8_takePerson_187 : decode cX8_takePerson 187 = .ok (.aload_n 0, 1) := by decide +kernel
theorem dX8_takePerson_188 : decode cX8_takePerson 188 = .ok (.getfield 30, 3) := by decide +kernel
theorem dX8_takePerson_191 : decode cX8_takePerson 191 = .ok (.iload_n 2, 1) := by decide +kernel
theorem dX8_takePerson_192 : decode cX8_takePerson 192 = .ok (.aload_n 0, 1) := by decide +kernel
theorem dX8_takePerson_193 : decode cX8_takePerson 193 = .ok (.iconst 0, 1) := by decide +kernel
theorem dX8_takePerson_194 : decode cX8_takePerson 194 = .ok (.sipush 9999, 3) := by decide +kernel
theorem dX8_takePerson_197 : decode cX8_takePerson 197 = .ok (.invokevirtual 109, 3) := by decide +kernel
theorem dX8_takePerson_200 : decode cX8_takePerson 200 = .ok (.iastore, 1) := by decide +kernel
theorem dX8_takePerson_201 : decode cX8_takePerson 201 = .ok (.aload_n 0, 1) := by decide +kernel
theorem dX8_takePerson_202 : decode cX8_takePerson 202 = .ok (.getfield 33, 3) := by decide +kernel
theorem dX8_takePerson_205 : decode cX8_takePerson 205 = .ok (.iload_n 2, 1) := by decide +kernel
theorem dX8_takePerson_206 : decode cX8_takePerson 206 = .ok (.aload_n 0, 1) := by decide +kernel
theorem dX8_takePerson_207 : decode cX8_takePerson 207 = .ok (.iconst 0, 1) := by decide +kernel
theorem dX8_takePerson_208 : decode cX8_takePerson 208 = .ok (.sipush 9999, 3) := by decide +kernel
theorem dX8_takePerson_211 : decode cX8_takePerson 211 = .ok (.invokevirtual 109, 3) := by decide +kernel
theorem dX8_takePerson_214 : decode cX8_takePerson 214 = .ok (.iastore, 1) := by decide +kernel
theorem dX8_takePerson_215 : decode cX8_takePerson 215 = .ok (.aload_n 0, 1) := by decide +kernel
theorem dX8_takePerson_216 : decode cX8_takePerson 216 = .ok (.getfield 36, 3) := by decide +kernel
theorem dX8_takePerson_219 : decode cX8_takePerson 219 = .ok (.iconst 3, 1) := by decide +kernel
theorem dX8_takePerson_220 : decode cX8_takePerson 220 = .ok (.dup2, 1) := by decide +kernel
theorem dX8_takePerson_221 : decode cX8_takePerson 221 = .ok (.iaload, 1) := by decide +kernel
theorem dX8_takePerson_222 : decode cX8_takePerson 222 = .ok (.iconst 1, 1) := by decide +kernel
theorem dX8_takePerson_223 : decode cX8_takePerson 223 = .ok (.iadd, 1) := by decide +kernel
theorem dX8_takePerson_224 : decode cX8_takePerson 224 = .ok (.iastore, 1) := by decide +kernel
theorem dX8_takePerson_225 : decode cX8_takePerson 225 = .ok (.return_, 1) := by decide +kernel
set_option maxRecDepth 20000 in
theorem ggX8_takeClause_X8_takeWord : GoodIn wsX8_takeClause wsX8_takeWord := goodIn_r _ [13, 8, 1, 14, 15, 16, 17, 18, 19, 20, 21, 12, 22, 23, 24, 25, 57, 58, 59, 60, 61, 62, 63, 64, 65, 66, 67, 68, 69, 70, 71, 72, 73, 74, 75, 76, 77, 78, 79, 80, 81, 82, 83, 84, 85] (by decide +kernel) (by decide +kernel)
set_option maxRecDepth 20000 in
theorem gX8_takeClause_X8_takeWord : GoodIn wsX8_takeClause (wsV RX8 113 RX8 yX8_takeWord wsX8_takeWord) := goodIn_app (goodIn_of _ (by decide +kernel)) ggX8_takeClause_X8_takeWord
set_option maxRecDepth 20000 in
theorem ggX8_takeClause_X8_isWord : GoodIn wsX8_takeClause wsX8_isWord := goodIn_r _ [29, 18, 15, 1, 57, 58, 59, 60, 61, 62, 63, 64, 65, 66, 67, 68, 69, 70, 71, 72, 73, 74, 75, 76, 77, 78, 79, 80, 81, 82, 83, 84, 85] (by decide +kernel) (by decide +kernel)
set_option maxRecDepth 20000 in
theorem gX8_takeClause_X8_isWord : GoodIn wsX8_takeClause (wsV RX8 116 RX8 yX8_isWord wsX8_isWord) := goodIn_app (goodIn_of _ (by decide +kernel)) ggX8_takeClause_X8_isWord
set_option maxRecDepth 20000 in
theorem ggX8_takeClause_X8_takeStone : GoodIn wsX8_takeClause wsX8_takeStone := goodIn_r _ [33, 34, 35, 36, 37, 1, 38, 39, 40, 12, 41, 7, 42, 43, 44, 45, 46, 8, 47, 48, 14, 15, 49, 19, 20, 21, 22, 23, 24, 25, 57, 58, 59, 60, 61, 62, 63, 64, 65, 66, 67, 68, 69, 70, 71, 72, 73, 74, 75, 76, 77, 78, 79, 80, 81, 82, 83, 84, 85] (by decide +kernel) (by decide +kernel)
set_option maxRecDepth 20000 in
theorem gX8_takeClause_X8_takeStone : GoodIn wsX8_takeClause (wsV RX8 120 RX8 yX8_takeStone wsX8_takeStone) := goodIn_app (goodIn_of _ (by decide +kernel)) ggX8_takeClause_X8_takeStone
set_option maxRecDepth 20000 in
theorem ggX8_takeClause_X8_takePerson : GoodIn wsX8_takeClause wsX8_takePerson := goodIn_r _ [53, 34, 54, 1, 55, 56, 38, 39, 40, 12, 41, 7, 42, 9, 10, 11, 13, 8, 14, 15, 16, 17, 18, 19, 20, 21, 22, 23, 24, 25, 26, 27, 28, 29, 43, 44, 45, 46, 47, 48, 49, 57, 58, 59, 60, 61, 62, 63, 64, 65, 66, 67, 68, 69, 70, 71, 72, 73, 74, 75, 76, 77, 78, 79, 80, 81, 82, 83, 84, 85] (by decide +kernel) (by decide +kernel)
set_option maxRecDepth 20000 in
theorem gX8_takeClause_X8_takePerson : GoodIn wsX8_takeClause (wsV RX8 124 RX8 yX8_takePerson wsX8_takePerson) := goodIn_app (goodIn_of _ (by decide +kernel)) ggX8_takeClause_X8_takePerson
set_option maxRecDepth 20000 in
theorem ggX8_takeClause_X8_want : GoodIn wsX8_takeClause wsX8_want := goodIn_r _ [41, 7, 42, 57, 58, 59, 60, 61, 62, 63, 64, 65, 66, 67, 68, 69, 70, 71, 72, 73, 74, 75, 76, 77, 78, 79, 80, 81, 82, 83, 84, 85] (by decide +kernel) (by decide +kernel)
set_option maxRecDepth 20000 in
theorem gX8_takeClause_X8_want : GoodIn wsX8_takeClause (wsV RX8 104 RX8 yX8_want wsX8_want) := goodIn_app (goodIn_of _ (by decide +kernel)) ggX8_takeClause_X8_want
set_option maxRecDepth 20000 in
theorem ggX8_takeClause_X8_takeNumber : GoodIn wsX8_takeClause wsX8_takeNumber := goodIn_r _ [46, 7, 8, 1, 47, 48, 14, 15, 49, 19, 20, 21, 12, 22, 23, 24, 25, 38, 39, 40, 41, 42, 57, 58, 59, 60, 61, 62, 63, 64, 65, 66, 67, 68, 69, 70, 71, 72, 73, 74, 75, 76, 77, 78, 79, 80, 81, 82, 83, 84, 85] (by decide +kernel) (by decide +kernel)
set_option maxRecDepth 20000 in
theorem gX8_takeClause_X8_takeNumber : GoodIn wsX8_takeClause (wsV RX8 109 RX8 yX8_takeNumber wsX8_takeNumber) := goodIn_app (goodIn_of _ (by decide +kernel)) ggX8_takeClause_X8_takeNumber
set_option maxRecDepth 20000 in
theorem ggX8_takeClause_X8_here : GoodIn wsX8_takeClause wsX8_here := goodIn_r _ [22, 8, 14, 15, 57, 58, 59, 60, 61, 62, 63, 64, 65, 66, 67, 68, 69, 70, 71, 72, 73, 74, 75, 76, 77, 78, 79, 80, 81, 82, 83, 84, 85] (by decide +kernel) (by decide +kernel)
set_option maxRecDepth 20000 in
theorem gX8_takeClause_X8_here : GoodIn wsX8_takeClause (wsV RX8 86 RX8 yX8_here wsX8_here) := goodIn_app (goodIn_of _ (by decide +kernel)) ggX8_takeClause_X8_here
theorem dX8_takeClause_0 : decode cX8_takeClause 0 = .ok (.aload_n 0, 1) := by decide +kernel
theorem dX8_takeClause_1 : decode cX8_takeClause 1 = .ok (.invokevirtual 113, 3) := by decide +kernel
theorem dX8_takeClause_4 : decode cX8_takeClause 4 = .ok (.aload_n 0, 1) := by decide +kernel
theorem dX8_takeClause_5 : decode cX8_takeClause 5 = .ok (.getfield 90, 3) := by decide +kernel
theorem dX8_takeClause_8 : decode cX8_takeClause 8 = .ok (.istore_n 1, 1) := by decide +kernel
theorem dX8_takeClause_9 : decode cX8_takeClause 9 = .ok (.aload_n 0, 1) := by decide +kernel
theorem dX8_takeClause_10 : decode cX8_takeClause 10 = .ok (.iconst 5, 1) := by decide +kernel
theorem dX8_takeClause_11 : decode cX8_takeClause 11 = .ok (.bipush 115, 2) := by decide +kernel
theorem dX8_takeClause_13 : decode cX8_takeClause 13 = .ok (.bipush 116, 2) := by decide +kernel
theorem dX8_takeClause_15 : decode cX8_takeClause 15 = .ok (.bipush 111, 2) := by decide +kernel
theorem dX8_takeClause_17 : decode cX8_takeClause 17 = .ok (.bipush 110, 2) := by decide +kernel
theorem dX8_takeClause_19 : decode cX8_takeClause 19 = .ok (.bipush 101, 2) := by decide +kernel
theorem dX8_takeClause_21 : decode cX8_takeClause 21 = .ok (.iconst 0, 1) := by decide +kernel
theorem dX8_takeClause_22 : decode cX8_takeClause 22 = .ok (.invokevirtual 116, 3) := by decide +kernel
theorem dX8_takeClause_25 : decode cX8_takeClause 25 = .ok (.ifCond .eq 11, 3) := by decide +kernel
theorem dX8_takeClause_28 : decode cX8_takeClause 28 = .ok (.aload_n 0, 1) := by decide +kernel
theorem dX8_takeClause_29 : decode cX8_takeClause 29 = .ok (.iload_n 1, 1) := by decide +kernel
theorem dX8_takeClause_30 : decode cX8_takeClause 30 = .ok (.invokevirtual 120, 3) := by decide +kernel
theorem dX8_takeClause_33 : decode cX8_takeClause 33 = .ok (.goto 163, 3) := by decide +kernel
theorem dX8_takeClause_36 : decode cX8_takeClause 36 = .ok (.aload_n 0, 1) := by decide +kernel
theorem dX8_takeClause_37 : decode cX8_takeClause 37 = .ok (.bipush 6, 2) := by decide +kernel
theorem dX8_takeClause_39 : decode cX8_takeClause 39 = .ok (.bipush 112, 2) := by decide +kernel
theorem dX8_takeClause_41 : decode cX8_takeClause 41 = .ok (.bipush 101, 2) := by decide +kernel
theorem dX8_takeClause_43 : decode cX8_takeClause 43 = .ok (.bipush 114, 2) := by decide +kernel
theorem dX8_takeClause_45 : decode cX8_takeClause 45 = .ok (.bipush 115, 2) := by decide +kernel
theorem dX8_takeClause_47 : decode cX8_takeClause 47 = .ok (.bipush 111, 2) := by decide +kernel
theorem dX8_takeClause_49 : decode cX8_takeClause 49 = .ok (.bipush 110, 2) := by decide +kernel
theorem dX8_takeClause_51 : decode cX8_takeClause 51 = .ok (.invokevirtual 116, 3) := by decide +kernel
theorem dX8_takeClause_54 : decode cX8_takeClause 54 = .ok (.ifCond .eq 11, 3) := by decide +kernel
theorem dX8_takeClause_57 : decode cX8_takeClause 57 = .ok (.aload_n 0, 1) := by decide +kernel
theorem dX8_takeClause_58 : decode cX8_takeClause 58 = .ok (.iload_n 1, 1) := by decide +kernel
theorem dX8_takeClause_59 : decode cX8_takeClause 59 = .ok (.invokevirtual 124, 3) := by decide +kernel
theorem dX8_takeClause_62 : decode cX8_takeClause 62 = .ok (.goto 134, 3) := by decide +kernel
theorem dX8_takeClause_65 : decode cX8_takeClause 65 = .ok (.aload_n 0, 1) := by decide +kernel
theorem dX8_takeClause_66 : decode cX8_takeClause 66 = .ok (.iconst 5, 1) := by decide +kernel
theorem dX8_takeClause_67 : decode cX8_takeClause 67 = .ok (.bipush 102, 2) := by decide +kernel
theorem dX8_takeClause_69 : decode cX8_takeClause 69 = .ok (.bipush 114, 2) := by decide +kernel
theorem dX8_takeClause_71 : decode cX8_takeClause 71 = .ok (.bipush 111, 2) := by decide +kernel
theorem dX8_takeClause_73 : decode cX8_takeClause 73 = .ok (.bipush 115, 2) := by decide +kernel
theorem dX8_takeClause_75 : decode cX8_takeClause 75 = .ok (.bipush 116, 2) := by decide +kernel
theorem dX8_takeClause_77 : decode cX8_takeClause 77 = .ok (.iconst 0, 1) := by decide +kernel
theorem dX8_takeClause_78 : decode cX8_takeClause 78 = .ok (.invokevirtual 116, 3) := by decide +kernel
theorem dX8_takeClause_81 : decode cX8_takeClause 81 = .ok (.ifCond .eq 54, 3) := by decide +kernel
theorem dX8_takeClause_84 : decode cX8_takeClause 84 = .ok (.aload_n 0, 1) := by decide +kernel
theorem dX8_takeClause_85 : decode cX8_takeClause 85 = .ok (.aload_n 0, 1) := by decide +kernel
theorem dX8_takeClause_86 : decode cX8_takeClause 86 = .ok (.getfield 127, 3) := by decide +kernel
theorem dX8_takeClause_89 : decode cX8_takeClause 89 = .ok (.ifCond .ne 7, 3) := by decide +kernel
theorem dX8_takeClause_92 : decode cX8_takeClause 92 = .ok (.iconst 1, 1) := by decide +kernel
theorem dX8_takeClause_93 : decode cX8_takeClause 93 = .ok (.goto 4, 3) := by decide +kernel
theorem dX8_takeClause_96 : decode cX8_takeClause 96 = .ok (.iconst 0, 1) := by decide +kernel
theorem dX8_takeClause_97 : decode cX8_takeClause 97 = .ok (.iconst 3, 1) := by decide +kernel
theorem dX8_takeClause_98 : decode cX8_takeClause 98 = .ok (.iload_n 1, 1) := by decide +kernel
theorem dX8_takeClause_99 : decode cX8_takeClause 99 = .ok (.invokevirtual 104, 3) := by decide +kernel
theorem dX8_takeClause_102 : decode cX8_takeClause 102 = .ok (.ifCond .eq 94, 3) := by decide +kernel
theorem dX8_takeClause_105 : decode cX8_takeClause 105 = .ok (.aload_n 0, 1) := by decide +kernel
theorem dX8_takeClause_106 : decode cX8_takeClause 106 = .ok (.iconst 1, 1) := by decide +kernel
theorem dX8_takeClause_107 : decode cX8_takeClause 107 = .ok (.putfield 127, 3) := by decide +kernel
theorem dX8_takeClause_110 : decode cX8_takeClause 110 = .ok (.aload_n 0, 1) := by decide +kernel
theorem dX8_takeClause_111 : decode cX8_takeClause 111 = .ok (.aload_n 0, 1) := by decide +kernel
theorem dX8_takeClause_112 : decode cX8_takeClause 112 = .ok (.iconst 0, 1) := by decide +kernel
theorem dX8_takeClause_113 : decode cX8_takeClause 113 = .ok (.bipush 99, 2) := by decide +kernel
theorem dX8_takeClause_115 : decode cX8_takeClause 115 = .ok (.invokevirtual 109, 3) := by decide +kernel
theorem dX8_takeClause_118 : decode cX8_takeClause 118 = .ok (.putfield 131, 3) := by decide +kernel
theorem dX8_takeClause_121 : decode cX8_takeClause 121 = .ok (.aload_n 0, 1) := by decide +kernel
theorem dX8_takeClause_122 : decode cX8_takeClause 122 = .ok (.aload_n 0, 1) := by decide +kernel
theorem dX8_takeClause_123 : decode cX8_takeClause 123 = .ok (.iconst 0, 1) := by decide +kernel
theorem dX8_takeClause_124 : decode cX8_takeClause 124 = .ok (.bipush 99, 2) := by decide +kernel
theorem dX8_takeClause_126 : decode cX8_takeClause 126 = .ok (.invokevirtual 109, 3) := by decide +kernel
theorem dX8_takeClause_129 : decode cX8_takeClause 129 = .ok (.putfield 134, 3) := by decide +kernel
theorem dX8_takeClause_132 : decode cX8_takeClause 132 = .ok (.goto 64, 3) := by decide +kernel
theorem dX8_takeClause_135 : decode cX8_takeClause 135 = .ok (.aload_n 0, 1) := by decide +kernel
theorem dX8_takeClause_136 : decode cX8_takeClause 136 = .ok (.aload_n 0, 1) := by decide +kernel
theorem dX8_takeClause_137 : decode cX8_takeClause 137 = .ok (.iconst 4, 1) := by decide +kernel
theorem dX8_takeClause_138 : decode cX8_takeClause 138 = .ok (.bipush 102, 2) := by decide +kernel
theorem dX8_takeClause_140 : decode cX8_takeClause 140 = .ok (.bipush 105, 2) := by decide +kernel
theorem dX8_takeClause_142 : decode cX8_takeClause 142 = .ok (.bipush 110, 2) := by decide +kernel
theorem dX8_takeClause_144 : decode cX8_takeClause 144 = .ok (.bipush 101, 2) := by decide +kernel
theorem dX8_takeClause_146 : decode cX8_takeClause 146 = .ok (.iconst 0, 1) := by decide +kernel
theorem dX8_takeClause_147 : decode cX8_takeClause 147 = .ok (.iconst 0, 1) := by decide +kernel
theorem dX8_takeClause_148 : decode cX8_takeClause 148 = .ok (.invokevirtual 116, 3) := by decide +kernel
theorem dX8_takeClause_151 : decode cX8_takeClause 151 = .ok (.iconst 1, 1) := by decide +kernel
theorem dX8_takeClause_152 : decode cX8_takeClause 152 = .ok (.iload_n 1, 1) := by decide +kernel
theorem dX8_takeClause_153 : decode cX8_takeClause 153 = .ok (.invokevirtual 104, 3) := by decide +kernel
theorem dX8_takeClause_156 : decode cX8_takeClause 156 = .ok (.ifCond .eq 40, 3) := by decide +kernel
theorem dX8_takeClause_159 : decode cX8_takeClause 159 = .ok (.aload_n 0, 1) := by decide +kernel
theorem dX8_takeClause_160 : decode cX8_takeClause 160 = .ok (.aload_n 0, 1) := by decide +kernel
theorem dX8_takeClause_161 : decode cX8_takeClause 161 = .ok (.getfield 137, 3) := by decide +kernel
theorem dX8_takeClause_164 : decode cX8_takeClause 164 = .ok (.ifCond .ne 7, 3) := by decide +kernel
theorem dX8_takeClause_167 : decode cX8_takeClause 167 = .ok (.iconst 1, 1) := by decide +kernel
theorem dX8_takeClause_168 : decode cX8_takeClause 168 = .ok (.goto 4, 3) := by decide +kernel
theorem dX8_takeClause_171 : decode cX8_takeClause 171 = .ok (.iconst 0, 1) := by decide +kernel
theorem dX8_takeClause_172 : decode cX8_takeClause 172 = .ok (.iconst 3, 1) := by decide +kernel
theorem dX8_takeClause_173 : decode cX8_takeClause 173 = .ok (.iload_n 1, 1) := by decide +kernel
theorem dX8_takeClause_174 : decode cX8_takeClause 174 = .ok (.invokevirtual 104, 3) := by decide +kernel
theorem dX8_takeClause_177 : decode cX8_takeClause 177 = .ok (.ifCond .eq 19, 3) := by decide +kernel
theorem dX8_takeClause_180 : decode cX8_takeClause 180 = .ok (.aload_n 0, 1) := by decide +kernel
theorem dX8_takeClause_181 : decode cX8_takeClause 181 = .ok (.iconst 1, 1) := by decide +kernel
theorem dX8_takeClause_182 : decode cX8_takeClause 182 = .ok (.putfield 137, 3) := by decide +kernel
theorem dX8_takeClause_185 : decode cX8_takeClause 185 = .ok (.aload_n 0, 1) := by decide +kernel
theorem dX8_takeClause_186 : decode cX8_takeClause 186 = .ok (.aload_n 0, 1) := by decide +kernel
theorem dX8_takeClause_187 : decode cX8_takeClause 187 = .ok (.iconst 0, 1) := by decide +kernel
theorem dX8_takeClause_188 : decode cX8_takeClause 188 = .ok (.bipush 99, 2) := by decide +kernel
theorem dX8_takeClause_190 : decode cX8_takeClause 190 = .ok (.invokevirtual 109, 3) := by decide +kernel
theorem dX8_takeClause_193 : decode cX8_takeClause 193 = .ok (.putfield 140, 3) := by decide +kernel
theorem dX8_takeClause_196 : decode cX8_takeClause 196 = .ok (.aload_n 0, 1) := by decide +kernel
theorem dX8_takeClause_197 : decode cX8_takeClause 197 = .ok (.getfield 83, 3) := by decide +kernel
theorem dX8_takeClause_200 : decode cX8_takeClause 200 = .ok (.ifCond .ne 39, 3) := by decide +kernel
theorem dX8_takeClause_203 : decode cX8_takeClause 203 = .ok (.aload_n 0, 1) := by decide +kernel
theorem dX8_takeClause_204 : decode cX8_takeClause 204 = .ok (.aload_n 0, 1) := by decide +kernel
theorem dX8_takeClause_205 : decode cX8_takeClause 205 = .ok (.invokevirtual 86, 3) := by decide +kernel
theorem dX8_takeClause_208 : decode cX8_takeClause 208 = .ok (.bipush 59, 2) := by decide +kernel
theorem dX8_takeClause_210 : decode cX8_takeClause 210 = .ok (.if_icmp .ne 7, 3) := by decide +kernel
theorem dX8_takeClause_213 : decode cX8_takeClause 213 = .ok (.iconst 1, 1) := by decide +kernel
theorem dX8_takeClause_214 : decode cX8_takeClause 214 = .ok (.goto 4, 3) := by decide +kernel
theorem dX8_takeClause_217 : decode cX8_takeClause 217 = .ok (.iconst 0, 1) := by decide +kernel
theorem dX8_takeClause_218 : decode cX8_takeClause 218 = .ok (.iconst 1, 1) := by decide +kernel
theorem dX8_takeClause_219 : decode cX8_takeClause 219 = .ok (.aload_n 0, 1) := by decide +kernel
theorem dX8_takeClause_220 : decode cX8_takeClause 220 = .ok (.getfield 80, 3) := by decide +kernel
theorem dX8_takeClause_223 : decode cX8_takeClause 223 = .ok (.invokevirtual 104, 3) := by decide +kernel
theorem dX8_takeClause_226 : decode cX8_takeClause 226 = .ok (.ifCond .eq 13, 3) := by decide +kernel
theorem dX8_takeClause_229 : decode cX8_takeClause 229 = .ok (.aload_n 0, 1) := by decide +kernel
theorem dX8_takeClause_230 : decode cX8_takeClause 230 = .ok (.dup, 1) := by decide +kernel
theorem dX8_takeClause_231 : decode cX8_takeClause 231 = .ok (.getfield 80, 3) := by decide +kernel
theorem dX8_takeClause_234 : decode cX8_takeClause 234 = .ok (.iconst 1, 1) := by decide +kernel
theorem dX8_takeClause_235 : decode cX8_takeClause 235 = .ok (.iadd, 1) := by decide +kernel
theorem dX8_takeClause_236 : decode cX8_takeClause 236 = .ok (.putfield 80, 3) := by decide +kernel
theorem dX8_takeClause_239 : decode cX8_takeClause 239 = .ok (.return_, 1) := by decide +kernel
set_option maxRecDepth 20000 in
theorem ggX8_town_X8_here : GoodIn wsX8_town wsX8_here := goodIn_r _ [26, 1, 10, 27, 72, 73, 74, 75, 76, 77, 78, 79, 80, 81, 82, 83, 84, 85, 86, 87, 88, 89, 90, 91, 92, 93, 94, 95, 96, 97, 98, 99, 100] (by decide +kernel) (by decide +kernel)
set_option maxRecDepth 20000 in
theorem gX8_town_X8_here : GoodIn wsX8_town (wsV RX8 86 RX8 yX8_here wsX8_here) := goodIn_app (goodIn_of _ (by decide +kernel)) ggX8_town_X8_here
set_option maxRecDepth 20000 in
theorem ggX8_town_X8_takeClause : GoodIn wsX8_town wsX8_takeClause := goodIn_r _ [31, 32, 5, 7, 8, 6, 9, 2, 1, 33, 34, 35, 25, 36, 10, 27, 37, 38, 39, 22, 23, 24, 26, 40, 41, 42, 43, 44, 45, 46, 47, 48, 49, 50, 4, 14, 15, 16, 51, 52, 53, 54, 3, 55, 56, 57, 58, 59, 60, 61, 62, 63, 64, 65, 17, 18, 19, 72, 73, 74, 75, 76, 77, 78, 79, 80, 81, 82, 83, 84, 85, 86, 87, 88, 89, 90, 91, 92, 93, 94, 95, 96, 97, 98, 99, 100] (by decide +kernel) (by decide +kernel)
set_option maxRecDepth 20000 in
theorem gX8_town_X8_takeClause : GoodIn wsX8_town (wsV RX8 143 RX8 yX8_takeClause wsX8_takeClause) := goodIn_app (goodIn_of _ (by decide +kernel)) ggX8_town_X8_takeClause
set_option maxRecDepth 20000 in
theorem ggX8_town_X8_begin : GoodIn wsX8_town wsX8_begin := goodIn_r _ [69, 70, 16, 18, 71, 72, 73, 74, 75, 76, 77, 78, 79, 80, 81, 82, 83, 84, 85, 86, 87, 88, 89, 90, 91, 92, 93, 94, 95, 96, 97, 98, 99, 100] (by decide +kernel) (by decide +kernel)
set_option maxRecDepth 20000 in
theorem gX8_town_X8_begin : GoodIn wsX8_town (wsV RX8 64 RX8 yX8_begin wsX8_begin) := goodIn_app (goodIn_of _ (by decide +kernel)) ggX8_town_X8_begin
theorem dX8_town_0 : decode cX8_town 0 = .ok (.aload_n 0, 1) := by decide +kernel
theorem dX8_town_1 : decode cX8_town 1 = .ok (.iconst 0, 1) := by decide +kernel
theorem dX8_town_2 : decode cX8_town 2 = .ok (.putfield 80, 3) := by decide +kernel
theorem dX8_town_5 : decode cX8_town 5 = .ok (.aload_n 0, 1) := by decide +kernel
theorem dX8_town_6 : decode cX8_town 6 = .ok (.iconst 0, 1) := by decide +kernel
theorem dX8_town_7 : decode cX8_town 7 = .ok (.putfield 83, 3) := by decide +kernel
theorem dX8_town_10 : decode cX8_town 10 = .ok (.aload_n 0, 1) := by decide +kernel
theorem dX8_town_11 : decode cX8_town 11 = .ok (.iconst (-1), 1) := by decide +kernel
theorem dX8_town_12 : decode cX8_town 12 = .ok (.putfield 49, 3) := by decide +kernel
theorem dX8_town_15 : decode cX8_town 15 = .ok (.aload_n 0, 1) := by decide +kernel
theorem dX8_town_16 : decode cX8_town 16 = .ok (.getfield 36, 3) := by decide +kernel
theorem dX8_town_19 : decode cX8_town 19 = .ok (.iconst 2, 1) := by decide +kernel
theorem dX8_town_20 : decode cX8_town 20 = .ok (.iconst 0, 1) := by decide +kernel
theorem dX8_town_21 : decode cX8_town 21 = .ok (.iastore, 1) := by decide +kernel
theorem dX8_town_22 : decode cX8_town 22 = .ok (.aload_n 0, 1) := by decide +kernel
theorem dX8_town_23 : decode cX8_town 23 = .ok (.getfield 36, 3) := by decide +kernel
theorem dX8_town_26 : decode cX8_town 26 = .ok (.iconst 3, 1) := by decide +kernel
theorem dX8_town_27 : decode cX8_town 27 = .ok (.iconst 0, 1) := by decide +kernel
theorem dX8_town_28 : decode cX8_town 28 = .ok (.iastore, 1) := by decide +kernel
theorem dX8_town_29 : decode cX8_town 29 = .ok (.aload_n 0, 1) := by decide +kernel
theorem dX8_town_30 : decode cX8_town 30 = .ok (.iconst 0, 1) := by decide +kernel
theorem dX8_town_31 : decode cX8_town 31 = .ok (.putfield 127, 3) := by decide +kernel
theorem dX8_town_34 : decode cX8_town 34 = .ok (.aload_n 0, 1) := by decide +kernel
theorem dX8_town_35 : decode cX8_town 35 = .ok (.iconst 0, 1) := by decide +kernel
theorem dX8_town_36 : decode cX8_town 36 = .ok (.putfield 137, 3) := by decide +kernel
theorem dX8_town_39 : decode cX8_town 39 = .ok (.aload_n 0, 1) := by decide +kernel
theorem dX8_town_40 : decode cX8_town 40 = .ok (.iconst 3, 1) := by decide +kernel
theorem dX8_town_41 : decode cX8_town 41 = .ok (.putfield 131, 3) := by decide +kernel
theorem dX8_town_44 : decode cX8_town 44 = .ok (.aload_n 0, 1) := by decide +kernel
theorem dX8_town_45 : decode cX8_town 45 = .ok (.iconst 1, 1) := by decide +kernel
theorem dX8_town_46 : decode cX8_town 46 = .ok (.putfield 134, 3) := by decide +kernel
theorem dX8_town_49 : decode cX8_town 49 = .ok (.aload_n 0, 1) := by decide +kernel
theorem dX8_town_50 : decode cX8_town 50 = .ok (.iconst 0, 1) := by decide +kernel
theorem dX8_town_51 : decode cX8_town 51 = .ok (.putfield 140, 3) := by decide +kernel
theorem dX8_town_54 : decode cX8_town 54 = .ok (.aload_n 0, 1) := by decide +kernel
theorem dX8_town_55 : decode cX8_town 55 = .ok (.getfield 83, 3) := by decide +kernel
theorem dX8_town_58 : decode cX8_town 58 = .ok (.ifCond .ne 17, 3) := by decide +kernel
theorem dX8_town_61 : decode cX8_town 61 = .ok (.aload_n 0, 1) := by decide +kernel
theorem dX8_town_62 : decode cX8_town 62 = .ok (.invokevirtual 86, 3) := by decide +kernel
theorem dX8_town_65 : decode cX8_town 65 = .ok (.ifCond .lt 10, 3) := by decide +kernel
theorem dX8_town_68 : decode cX8_town 68 = .ok (.aload_n 0, 1) := by decide +kernel
theorem dX8_town_69 : decode cX8_town 69 = .ok (.invokevirtual 143, 3) := by decide +kernel
theorem dX8_town_72 : decode cX8_town 72 = .ok (.goto (-18), 3) := by decide +kernel
theorem dX8_town_75 : decode cX8_town 75 = .ok (.aload_n 0, 1) := by decide +kernel
theorem dX8_town_76 : decode cX8_town 76 = .ok (.iconst 0, 1) := by decide +kernel
theorem dX8_town_77 : decode cX8_town 77 = .ok (.putfield 74, 3) := by decide +kernel
theorem dX8_town_80 : decode cX8_town 80 = .ok (.aload_n 0, 1) := by decide +kernel
theorem dX8_town_81 : decode cX8_town 81 = .ok (.getfield 83, 3) := by decide +kernel
theorem dX8_town_84 : decode cX8_town 84 = .ok (.ifCond .le 11, 3) := by decide +kernel
theorem dX8_town_87 : decode cX8_town 87 = .ok (.bipush (-10), 2) := by decide +kernel
theorem dX8_town_89 : decode cX8_town 89 = .ok (.aload_n 0, 1) := by decide +kernel
theorem dX8_town_90 : decode cX8_town 90 = .ok (.getfield 83, 3) := by decide +kernel
theorem dX8_town_93 : decode cX8_town 93 = .ok (.isub, 1) := by decide +kernel
theorem dX8_town_94 : decode cX8_town 94 = .ok (.ireturn, 1) := by decide +kernel
theorem dX8_town_95 : decode cX8_town 95 = .ok (.aload_n 0, 1) := by decide +kernel
theorem dX8_town_96 : decode cX8_town 96 = .ok (.getfield 36, 3) := by decide +kernel
theorem dX8_town_99 : decode cX8_town 99 = .ok (.iconst 0, 1) := by decide +kernel
theorem dX8_town_100 : decode cX8_town 100 = .ok (.aload_n 0, 1) := by decide +kernel
theorem dX8_town_101 : decode cX8_town 101 = .ok (.getfield 36, 3) := by decide +kernel
theorem dX8_town_104 : decode cX8_town 104 = .ok (.iconst 2, 1) := by decide +kernel
theorem dX8_town_105 : decode cX8_town 105 = .ok (.iaload, 1) := by decide +kernel
theorem dX8_town_106 : decode cX8_town 106 = .ok (.iastore, 1) := by decide +kernel
theorem dX8_town_107 : decode cX8_town 107 = .ok (.aload_n 0, 1) := by decide +kernel
theorem dX8_town_108 : decode cX8_town 108 = .ok (.getfield 36, 3) := by decide +kernel
theorem dX8_town_111 : decode cX8_town 111 = .ok (.iconst 1, 1) := by decide +kernel
theorem dX8_town_112 : decode cX8_town 112 = .ok (.aload_n 0, 1) := by decide +kernel
theorem dX8_town_113 : decode cX8_town 113 = .ok (.getfield 36, 3) := by decide +kernel
theorem dX8_town_116 : decode cX8_town 116 = .ok (.iconst 3, 1) := by decide +kernel
theorem dX8_town_117 : decode cX8_town 117 = .ok (.iaload, 1) := by decide +kernel
theorem dX8_town_118 : decode cX8_town 118 = .ok (.iastore, 1) := by decide +kernel
theorem dX8_town_119 : decode cX8_town 119 = .ok (.aload_n 0, 1) := by decide +kernel
theorem dX8_town_120 : decode cX8_town 120 = .ok (.aload_n 0, 1) := by decide +kernel
theorem dX8_town_121 : decode cX8_town 121 = .ok (.getfield 131, 3) := by decide +kernel
theorem dX8_town_124 : decode cX8_town 124 = .ok (.putfield 39, 3) := by decide +kernel
theorem dX8_town_127 : decode cX8_town 127 = .ok (.aload_n 0, 1) := by decide +kernel
theorem dX8_town_128 : decode cX8_town 128 = .ok (.aload_n 0, 1) := by decide +kernel
theorem dX8_town_129 : decode cX8_town 129 = .ok (.getfield 134, 3) := by decide +kernel
theorem dX8_town_132 : decode cX8_town 132 = .ok (.putfield 43, 3) := by decide +kernel
theorem dX8_town_135 : decode cX8_town 135 = .ok (.aload_n 0, 1) := by decide +kernel
theorem dX8_town_136 : decode cX8_town 136 = .ok (.aload_n 0, 1) := by decide +kernel
theorem dX8_town_137 : decode cX8_town 137 = .ok (.getfield 140, 3) := by decide +kernel
theorem dX8_town_140 : decode cX8_town 140 = .ok (.putfield 146, 3) := by decide +kernel
theorem dX8_town_143 : decode cX8_town 143 = .ok (.iconst 0, 1) := by decide +kernel
theorem dX8_town_144 : decode cX8_town 144 = .ok (.istore_n 1, 1) := by decide +kernel
theorem dX8_town_145 : decode cX8_town 145 = .ok (.iload_n 1, 1) := by decide +kernel
theorem dX8_town_146 : decode cX8_town 146 = .ok (.bipush 10, 2) := by decide +kernel
theorem dX8_town_148 : decode cX8_town 148 = .ok (.if_icmp .ge 99, 3) := by decide +kernel
theorem dX8_town_151 : decode cX8_town 151 = .ok (.aload_n 0, 1) := by decide +kernel
theorem dX8_town_152 : decode cX8_town 152 = .ok (.getfield 17, 3) := by decide +kernel
theorem dX8_town_155 : decode cX8_town 155 = .ok (.iload_n 1, 1) := by decide +kernel
theorem dX8_town_156 : decode cX8_town 156 = .ok (.aload_n 0, 1) := by decide +kernel
theorem dX8_town_157 : decode cX8_town 157 = .ok (.getfield 17, 3) := by decide +kernel
theorem dX8_town_160 : decode cX8_town 160 = .ok (.bipush 10, 2) := by decide +kernel
theorem dX8_town_162 : decode cX8_town 162 = .ok (.iload_n 1, 1) := by decide +kernel
theorem dX8_town_163 : decode cX8_town 163 = .ok (.iadd, 1) := by decide +kernel
theorem dX8_town_164 : decode cX8_town 164 = .ok (.iaload, 1) := by decide +kernel
theorem dX8_town_165 : decode cX8_town 165 = .ok (.iastore, 1) := by decide +kernel
theorem dX8_town_166 : decode cX8_town 166 = .ok (.aload_n 0, 1) := by decide +kernel
theorem dX8_town_167 : decode cX8_town 167 = .ok (.getfield 21, 3) := by decide +kernel
theorem dX8_town_170 : decode cX8_town 170 = .ok (.iload_n 1, 1) := by decide +kernel
theorem dX8_town_171 : decode cX8_town 171 = .ok (.aload_n 0, 1) := by decide +kernel
theorem dX8_town_172 : decode cX8_town 172 = .ok (.getfield 21, 3) := by decide +kernel
theorem dX8_town_175 : decode cX8_town 175 = .ok (.bipush 10, 2) := by decide +kernel
theorem dX8_town_177 : decode cX8_town 177 = .ok (.iload_n 1, 1) := by decide +kernel
theorem dX8_town_178 : decode cX8_town 178 = .ok (.iadd, 1) := by decide +kernel
theorem dX8_town_179 : decode cX8_town 179 = .ok (.iaload, 1) := by decide +kernel
theorem dX8_town_180 : decode cX8_town 180 = .ok (.iastore, 1) := by decide +kernel
theorem dX8_town_181 : decode cX8_town 181 = .ok (.aload_n 0, 1) := by decide +kernel
theorem dX8_town_182 : decode cX8_town 182 = .ok (.getfield 24, 3) := by decide +kernel
theorem dX8_town_185 : decode cX8_town 185 = .ok (.iload_n 1, 1) := by decide +kernel
theorem dX8_town_186 : decode cX8_town 186 = .ok (.aload_n 0, 1) := by decide +kernel
theorem dX8_town_187 : decode cX8_town 187 = .ok (.getfield 24, 3) := by decide +kernel
theorem dX8_town_190 : decode cX8_town 190 = .ok (.bipush 10, 2) := by decide +kernel
theorem dX8_town_192 : decode cX8_town 192 = .ok (.iload_n 1, 1) := by decide +kernel
theorem dX8_town_193 : decode cX8_town 193 = .ok (.iadd, 1) := by decide +kernel
theorem dX8_town_194 : decode cX8_town 194 = .ok (.iaload, 1) := by decide +kernel
theorem dX8_town_195 : decode cX8_town 195 = .ok (.iastore, 1) := by decide +kernel
theorem dX8_town_196 : decode cX8_town 196 = .ok (.aload_n 0, 1) := by decide +kernel
theorem dX8_town_197 : decode cX8_town 197 = .ok (.getfield 27, 3) := by decide +kernel
theorem dX8_town_200 : decode cX8_town 200 = .ok (.iload_n 1, 1) := by decide +kernel
theorem dX8_town_201 : decode cX8_town 201 = .ok (.aload_n 0, 1) := by decide +kernel
theorem dX8_town_202 : decode cX8_town 202 = .ok (.getfield 27, 3) := by decide +kernel
theorem dX8_town_205 : decode cX8_town 205 = .ok (.bipush 10, 2) := by decide +kernel
theorem dX8_town_207 : decode cX8_town 207 = .ok (.iload_n 1, 1) := by decide +kernel
theorem dX8_town_208 : decode cX8_town 208 = .ok (.iadd, 1) := by decide +kernel
theorem dX8_town_209 : decode cX8_town 209 = .ok (.iaload, 1) := by decide +kernel
theorem dX8_town_210 : decode cX8_town 210 = .ok (.iastore, 1) := by decide +kernel
theorem dX8_town_211 : decode cX8_town 211 = .ok (.aload_n 0, 1) := by decide +kernel
theorem dX8_town_212 : decode cX8_town 212 = .ok (.getfield 30, 3) := by decide +kernel
theorem dX8_town_215 : decode cX8_town 215 = .ok (.iload_n 1, 1) := by decide +kernel
theorem dX8_town_216 : decode cX8_town 216 = .ok (.aload_n 0, 1) := by decide +kernel
theorem dX8_town_217 : decode cX8_town 217 = .ok (.getfield 30, 3) := by decide +kernel
theorem dX8_town_220 : decode cX8_town 220 = .ok (.bipush 10, 2) := by decide +kernel
theorem dX8_town_222 : decode cX8_town 222 = .ok (.iload_n 1, 1) := by decide +kernel
theorem dX8_town_223 : decode cX8_town 223 = .ok (.iadd, 1) := by decide +kernel
theorem dX8_town_224 : decode cX8_town 224 = .ok (.iaload, 1) := by decide +kernel
theorem dX8_town_225 : decode cX8_town 225 = .ok (.iastore, 1) := by decide +kernel
theorem dX8_town_226 : decode cX8_town 226 = .ok (.aload_n 0, 1) := by decide +kernel
theorem dX8_town_227 : decode cX8_town 227 = .ok (.getfield 33, 3) := by decide +kernel
theorem dX8_town_230 : decode cX8_town 230 = .ok (.iload_n 1, 1) := by decide +kernel
theorem dX8_town_231 : decode cX8_town 231 = .ok (.aload_n 0, 1) := by decide +kernel
theorem dX8_town_232 : decode cX8_town 232 = .ok (.getfield 33, 3) := by decide +kernel
theorem dX8_town_235 : decode cX8_town 235 = .ok (.bipush 10, 2) := by decide +kernel
theorem dX8_town_237 : decode cX8_town 237 = .ok (.iload_n 1, 1) := by decide +kernel
theorem dX8_town_238 : decode cX8_town 238 = .ok (.iadd, 1) := by decide +kernel
theorem dX8_town_239 : decode cX8_town 239 = .ok (.iaload, 1) := by decide +kernel
theorem dX8_town_240 : decode cX8_town 240 = .ok (.iastore, 1) := by decide +kernel
theorem dX8_town_241 : decode cX8_town 241 = .ok (.iinc 1 1, 3) := by decide +kernel
theorem dX8_town_244 : decode cX8_town 244 = .ok (.goto (-99), 3) := by decide +kernel
theorem dX8_town_247 : decode cX8_town 247 = .ok (.aload_n 0, 1) := by decide +kernel
theorem dX8_town_248 : decode cX8_town 248 = .ok (.invokevirtual 64, 3) := by decide +kernel
theorem dX8_town_251 : decode cX8_town 251 = .ok (.aload_n 0, 1) := by decide +kernel
theorem dX8_town_252 : decode cX8_town 252 = .ok (.iconst 0, 1) := by decide +kernel
theorem dX8_town_253 : decode cX8_town 253 = .ok (.putfield 149, 3) := by decide +kernel
theorem dX8_town_256 : decode cX8_town 256 = .ok (.aload_n 0, 1) := by decide +kernel
theorem dX8_town_257 : decode cX8_town 257 = .ok (.getfield 13, 3) := by decide +kernel
theorem dX8_town_260 : decode cX8_town 260 = .ok (.iconst 0, 1) := by decide +kernel
theorem dX8_town_261 : decode cX8_town 261 = .ok (.iconst 0, 1) := by decide +kernel
theorem dX8_town_262 : decode cX8_town 262 = .ok (.bastore, 1) := by decide +kernel
theorem dX8_town_263 : decode cX8_town 263 = .ok (.aload_n 0, 1) := by decide +kernel
theorem dX8_town_264 : decode cX8_town 264 = .ok (.getfield 13, 3) := by decide +kernel
theorem dX8_town_267 : decode cX8_town 267 = .ok (.iconst 1, 1) := by decide +kernel
theorem dX8_town_268 : decode cX8_town 268 = .ok (.iconst 0, 1) := by decide +kernel
theorem dX8_town_269 : decode cX8_town 269 = .ok (.bastore, 1) := by decide +kernel
theorem dX8_town_270 : decode cX8_town 270 = .ok (.aload_n 0, 1) := by decide +kernel
theorem dX8_town_271 : decode cX8_town 271 = .ok (.getfield 36, 3) := by decide +kernel
theorem dX8_town_274 : decode cX8_town 274 = .ok (.iconst 0, 1) := by decide +kernel
theorem dX8_town_275 : decode cX8_town 275 = .ok (.iaload, 1) := by decide +kernel
theorem dX8_town_276 : decode cX8_town 276 = .ok (.ireturn, 1) := by decide +kernel
theorem dX8_begin_0 : decode cX8_begin 0 = .ok (.aload_n 0, 1) := by decide +kernel
theorem dX8_begin_1 : decode cX8_begin 1 = .ok (.getfield 7, 3) := by decide +kernel
theorem dX8_begin_4 : decode cX8_begin 4 = .ok (.sipush 133, 3) := by decide +kernel
theorem dX8_begin_7 : decode cX8_begin 7 = .ok (.laload, 1) := by decide +kernel
theorem dX8_begin_8 : decode cX8_begin 8 = .ok (.lstore_n 1, 1) := by decide +kernel
theorem dX8_begin_9 : decode cX8_begin 9 = .ok (.iconst 0, 1) := by decide +kernel
theorem dX8_begin_10 : decode cX8_begin 10 = .ok (.istore_n 3, 1) := by decide +kernel
theorem dX8_begin_11 : decode cX8_begin 11 = .ok (.iload_n 3, 1) := by decide +kernel
theorem dX8_begin_12 : decode cX8_begin 12 = .ok (.sipush 140, 3) := by decide +kernel
theorem dX8_begin_15 : decode cX8_begin 15 = .ok (.if_icmp .ge 16, 3) := by decide +kernel
theorem dX8_begin_18 : decode cX8_begin 18 = .ok (.aload_n 0, 1) := by decide +kernel
theorem dX8_begin_19 : decode cX8_begin 19 = .ok (.getfield 7, 3) := by decide +kernel
theorem dX8_begin_22 : decode cX8_begin 22 = .ok (.iload_n 3, 1) := by decide +kernel
theorem dX8_begin_23 : decode cX8_begin 23 = .ok (.lconst 0, 1) := by decide +kernel
theorem dX8_begin_24 : decode cX8_begin 24 = .ok (.lastore, 1) := by decide +kernel
theorem dX8_begin_25 : decode cX8_begin 25 = .ok (.iinc 3 1, 3) := by decide +kernel
theorem dX8_begin_28 : decode cX8_begin 28 = .ok (.goto (-17), 3) := by decide +kernel
theorem dX8_begin_31 : decode cX8_begin 31 = .ok (.iconst 0, 1) := by decide +kernel
theorem dX8_begin_32 : decode cX8_begin 32 = .ok (.istore_n 3, 1) := by decide +kernel
theorem dX8_begin_33 : decode cX8_begin 33 = .ok (.iload_n 3, 1) := by decide +kernel
theorem dX8_begin_34 : decode cX8_begin 34 = .ok (.bipush 10, 2) := by decide +kernel
theorem dX8_begin_36 : decode cX8_begin 36 = .ok (.if_icmp .ge 50, 3) := by decide +kernel
theorem dX8_begin_39 : decode cX8_begin 39 = .ok (.aload_n 0, 1) := by decide +kernel
theorem dX8_begin_40 : decode cX8_begin 40 = .ok (.getfield 7, 3) := by decide +kernel
theorem dX8_begin_43 : decode cX8_begin 43 = .ok (.iload_n 3, 1) := by decide +kernel
theorem dX8_begin_44 : decode cX8_begin 44 = .ok (.aload_n 0, 1) := by decide +kernel
theorem dX8_begin_45 : decode cX8_begin 45 = .ok (.getfield 24, 3) := by decide +kernel
theorem dX8_begin_48 : decode cX8_begin 48 = .ok (.iload_n 3, 1) := by decide +kernel
theorem dX8_begin_49 : decode cX8_begin 49 = .ok (.iaload, 1) := by decide +kernel
theorem dX8_begin_50 : decode cX8_begin 50 = .ok (.i2l, 1) := by decide +kernel
theorem dX8_begin_51 : decode cX8_begin 51 = .ok (.lastore, 1) := by decide +kernel
theorem dX8_begin_52 : decode cX8_begin 52 = .ok (.aload_n 0, 1) := by decide +kernel
theorem dX8_begin_53 : decode cX8_begin 53 = .ok (.getfield 7, 3) := by decide +kernel
theorem dX8_begin_56 : decode cX8_begin 56 = .ok (.bipush 10, 2) := by decide +kernel
theorem dX8_begin_58 : decode cX8_begin 58 = .ok (.iload_n 3, 1) := by decide +kernel
theorem dX8_begin_59 : decode cX8_begin 59 = .ok (.iadd, 1) := by decide +kernel
theorem dX8_begin_60 : decode cX8_begin 60 = .ok (.aload_n 0, 1) := by decide +kernel
theorem dX8_begin_61 : decode cX8_begin 61 = .ok (.getfield 30, 3) := by decide +kernel
theorem dX8_begin_64 : decode cX8_begin 64 = .ok (.iload_n 3, 1) := by decide +kernel
theorem dX8_begin_65 : decode cX8_begin 65 = .ok (.iaload, 1) := by decide +kernel
theorem dX8_begin_66 : decode cX8_begin 66 = .ok (.i2l, 1) := by decide +kernel
theorem dX8_begin_67 : decode cX8_begin 67 = .ok (.lastore, 1) := by decide +kernel
theorem dX8_begin_68 : decode cX8_begin 68 = .ok (.aload_n 0, 1) := by decide +kernel
theorem dX8_begin_69 : decode cX8_begin 69 = .ok (.getfield 7, 3) := by decide +kernel
theorem dX8_begin_72 : decode cX8_begin 72 = .ok (.bipush 20, 2) := by decide +kernel
theorem dX8_begin_74 : decode cX8_begin 74 = .ok (.iload_n 3, 1) := by decide +kernel
theorem dX8_begin_75 : decode cX8_begin 75 = .ok (.iadd, 1) := by decide +kernel
theorem dX8_begin_76 : decode cX8_begin 76 = .ok (.ldc2_w 152, 3) := by decide +kernel
theorem dX8_begin_79 : decode cX8_begin 79 = .ok (.lastore, 1) := by decide +kernel
theorem dX8_begin_80 : decode cX8_begin 80 = .ok (.iinc 3 1, 3) := by decide +kernel
theorem dX8_begin_83 : decode cX8_begin 83 = .ok (.goto (-50), 3) := by decide +kernel
theorem dX8_begin_86 : decode cX8_begin 86 = .ok (.aload_n 0, 1) := by decide +kernel
theorem dX8_begin_87 : decode cX8_begin 87 = .ok (.getfield 7, 3) := by decide +kernel
theorem dX8_begin_90 : decode cX8_begin 90 = .ok (.sipush 133, 3) := by decide +kernel
theorem dX8_begin_93 : decode cX8_begin 93 = .ok (.lload_n 1, 1) := by decide +kernel
theorem dX8_begin_94 : decode cX8_begin 94 = .ok (.lastore, 1) := by decide +kernel
theorem dX8_begin_95 : decode cX8_begin 95 = .ok (.return_, 1) := by decide +kernel
theorem dX8_fault_0 : decode cX8_fault 0 = .ok (.aload_n 0, 1) := by decide +kernel
theorem dX8_fault_1 : decode cX8_fault 1 = .ok (.getfield 49, 3) := by decide +kernel
theorem dX8_fault_4 : decode cX8_fault 4 = .ok (.ireturn, 1) := by decide +kernel
set_option maxRecDepth 20000 in
theorem ggX8_isStone_X8_in : GoodIn wsX8_isStone wsX8_in := goodIn_r _ [5] (by decide +kernel) (by decide +kernel)
set_option maxRecDepth 20000 in
theorem gX8_isStone_X8_in : GoodIn wsX8_isStone (va_wsS RX8 69 yX8_in wsX8_in) := goodIn_app (goodIn_of _ (by decide +kernel)) ggX8_isStone_X8_in
theorem dX8_isStone_0 : decode cX8_isStone 0 = .ok (.iload_n 1, 1) := by decide +kernel
theorem dX8_isStone_1 : decode cX8_isStone 1 = .ok (.i2l, 1) := by decide +kernel
theorem dX8_isStone_2 : decode cX8_isStone 2 = .ok (.lconst 0, 1) := by decide +kernel
theorem dX8_isStone_3 : decode cX8_isStone 3 = .ok (.aload_n 0, 1) := by decide +kernel
theorem dX8_isStone_4 : decode cX8_isStone 4 = .ok (.getfield 36, 3) := by decide +kernel
theorem dX8_isStone_7 : decode cX8_isStone 7 = .ok (.iconst 0, 1) := by decide +kernel
theorem dX8_isStone_8 : decode cX8_isStone 8 = .ok (.iaload, 1) := by decide +kernel
theorem dX8_isStone_9 : decode cX8_isStone 9 = .ok (.iconst 1, 1) := by decide +kernel
theorem dX8_isStone_10 : decode cX8_isStone 10 = .ok (.isub, 1) := by decide +kernel
theorem dX8_isStone_11 : decode cX8_isStone 11 = .ok (.i2l, 1) := by decide +kernel
theorem dX8_isStone_12 : decode cX8_isStone 12 = .ok (.invokestatic 69, 3) := by decide +kernel
theorem dX8_isStone_15 : decode cX8_isStone 15 = .ok (.ireturn, 1) := by decide +kernel
set_option maxRecDepth 20000 in
theorem ggX8_isPerson_X8_in : GoodIn wsX8_isPerson wsX8_in := goodIn_r _ [5] (by decide +kernel) (by decide +kernel)
set_option maxRecDepth 20000 in
theorem gX8_isPerson_X8_in : GoodIn wsX8_isPerson (va_wsS RX8 69 yX8_in wsX8_in) := goodIn_app (goodIn_of _ (by decide +kernel)) ggX8_isPerson_X8_in
theorem dX8_isPerson_0 : decode cX8_isPerson 0 = .ok (.iload_n 1, 1) := by decide +kernel
theorem dX8_isPerson_1 : decode cX8_isPerson 1 = .ok (.i2l, 1) := by decide +kernel
theorem dX8_isPerson_2 : decode cX8_isPerson 2 = .ok (.lconst 0, 1) := by decide +kernel
theorem dX8_isPerson_3 : decode cX8_isPerson 3 = .ok (.aload_n 0, 1) := by decide +kernel
theorem dX8_isPerson_4 : decode cX8_isPerson 4 = .ok (.getfield 36, 3) := by decide +kernel
theorem dX8_isPerson_7 : decode cX8_isPerson 7 = .ok (.iconst 1, 1) := by decide +kernel
theorem dX8_isPerson_8 : decode cX8_isPerson 8 = .ok (.iaload, 1) := by decide +kernel
theorem dX8_isPerson_9 : decode cX8_isPerson 9 = .ok (.iconst 1, 1) := by decide +kernel
theorem dX8_isPerson_10 : decode cX8_isPerson 10 = .ok (.isub, 1) := by decide +kernel
theorem dX8_isPerson_11 : decode cX8_isPerson 11 = .ok (.i2l, 1) := by decide +kernel
theorem dX8_isPerson_12 : decode cX8_isPerson 12 = .ok (.invokestatic 69, 3) := by decide +kernel
theorem dX8_isPerson_15 : decode cX8_isPerson 15 = .ok (.ireturn, 1) := by decide +kernel
theorem dX8_sitter_0 : decode cX8_sitter 0 = .ok (.iconst 0, 1) := by decide +kernel
theorem dX8_sitter_1 : decode cX8_sitter 1 = .ok (.istore_n 3, 1) := by decide +kernel
theorem dX8_sitter_2 : decode cX8_sitter 2 = .ok (.iload_n 3, 1) := by decide +kernel
theorem dX8_sitter_3 : decode cX8_sitter 3 = .ok (.aload_n 0, 1) := by decide +kernel
theorem dX8_sitter_4 : decode cX8_sitter 4 = .ok (.getfield 36, 3) := by decide +kernel
theorem dX8_sitter_7 : decode cX8_sitter 7 = .ok (.iconst 1, 1) := by decide +kernel
theorem dX8_sitter_8 : decode cX8_sitter 8 = .ok (.iaload, 1) := by decide +kernel
theorem dX8_sitter_9 : decode cX8_sitter 9 = .ok (.if_icmp .ge 28, 3) := by decide +kernel
theorem dX8_sitter_12 : decode cX8_sitter 12 = .ok (.aload_n 0, 1) := by decide +kernel
theorem dX8_sitter_13 : decode cX8_sitter 13 = .ok (.getfield 7, 3) := by decide +kernel
theorem dX8_sitter_16 : decode cX8_sitter 16 = .ok (.iload_n 1, 1) := by decide +kernel
theorem dX8_sitter_17 : decode cX8_sitter 17 = .ok (.bipush 20, 2) := by decide +kernel
theorem dX8_sitter_19 : decode cX8_sitter 19 = .ok (.iadd, 1) := by decide +kernel
theorem dX8_sitter_20 : decode cX8_sitter 20 = .ok (.iload_n 3, 1) := by decide +kernel
theorem dX8_sitter_21 : decode cX8_sitter 21 = .ok (.iadd, 1) := by decide +kernel
theorem dX8_sitter_22 : decode cX8_sitter 22 = .ok (.laload, 1) := by decide +kernel
theorem dX8_sitter_23 : decode cX8_sitter 23 = .ok (.iload_n 2, 1) := by decide +kernel
theorem dX8_sitter_24 : decode cX8_sitter 24 = .ok (.i2l, 1) := by decide +kernel
theorem dX8_sitter_25 : decode cX8_sitter 25 = .ok (.lcmp, 1) := by decide +kernel
theorem dX8_sitter_26 : decode cX8_sitter 26 = .ok (.ifCond .ne 5, 3) := by decide +kernel
theorem dX8_sitter_29 : decode cX8_sitter 29 = .ok (.iload_n 3, 1) := by decide +kernel
theorem dX8_sitter_30 : decode cX8_sitter 30 = .ok (.ireturn, 1) := by decide +kernel
theorem dX8_sitter_31 : decode cX8_sitter 31 = .ok (.iinc 3 1, 3) := by decide +kernel
theorem dX8_sitter_34 : decode cX8_sitter 34 = .ok (.goto (-32), 3) := by decide +kernel
theorem dX8_sitter_37 : decode cX8_sitter 37 = .ok (.iconst (-1), 1) := by decide +kernel
theorem dX8_sitter_38 : decode cX8_sitter 38 = .ok (.ireturn, 1) := by decide +kernel
theorem dX8_coldMinutes_0 : decode cX8_coldMinutes 0 = .ok (.lconst 0, 1) := by decide +kernel
theorem dX8_coldMinutes_1 : decode cX8_coldMinutes 1 = .ok (.lstore_n 2, 1) := by decide +kernel
theorem dX8_coldMinutes_2 : decode cX8_coldMinutes 2 = .ok (.iconst 0, 1) := by decide +kernel
theorem dX8_coldMinutes_3 : decode cX8_coldMinutes 3 = .ok (.istore 4, 2) := by decide +kernel
theorem dX8_coldMinutes_5 : decode cX8_coldMinutes 5 = .ok (.iload 4, 2) := by decide +kernel
theorem dX8_coldMinutes_7 : decode cX8_coldMinutes 7 = .ok (.aload_n 0, 1) := by decide +kernel
theorem dX8_coldMinutes_8 : decode cX8_coldMinutes 8 = .ok (.getfield 36, 3) := by decide +kernel
theorem dX8_coldMinutes_11 : decode cX8_coldMinutes 11 = .ok (.iconst 1, 1) := by decide +kernel
theorem dX8_coldMinutes_12 : decode cX8_coldMinutes 12 = .ok (.iaload, 1) := by decide +kernel
theorem dX8_coldMinutes_13 : decode cX8_coldMinutes 13 = .ok (.if_icmp .ge 24, 3) := by decide +kernel
theorem dX8_coldMinutes_16 : decode cX8_coldMinutes 16 = .ok (.lload_n 2, 1) := by decide +kernel
theorem dX8_coldMinutes_17 : decode cX8_coldMinutes 17 = .ok (.aload_n 0, 1) := by decide +kernel
theorem dX8_coldMinutes_18 : decode cX8_coldMinutes 18 = .ok (.getfield 7, 3) := by decide +kernel
theorem dX8_coldMinutes_21 : decode cX8_coldMinutes 21 = .ok (.iload_n 1, 1) := by decide +kernel
theorem dX8_coldMinutes_22 : decode cX8_coldMinutes 22 = .ok (.bipush 30, 2) := by decide +kernel
theorem dX8_coldMinutes_24 : decode cX8_coldMinutes 24 = .ok (.iadd, 1) := by decide +kernel
theorem dX8_coldMinutes_25 : decode cX8_coldMinutes 25 = .ok (.iload 4, 2) := by decide +kernel
theorem dX8_coldMinutes_27 : decode cX8_coldMinutes 27 = .ok (.iadd, 1) := by decide +kernel
theorem dX8_coldMinutes_28 : decode cX8_coldMinutes 28 = .ok (.laload, 1) := by decide +kernel
theorem dX8_coldMinutes_29 : decode cX8_coldMinutes 29 = .ok (.ladd, 1) := by decide +kernel
theorem dX8_coldMinutes_30 : decode cX8_coldMinutes 30 = .ok (.lstore_n 2, 1) := by decide +kernel
theorem dX8_coldMinutes_31 : decode cX8_coldMinutes 31 = .ok (.iinc 4 1, 3) := by decide +kernel
theorem dX8_coldMinutes_34 : decode cX8_coldMinutes 34 = .ok (.goto (-29), 3) := by decide +kernel
theorem dX8_coldMinutes_37 : decode cX8_coldMinutes 37 = .ok (.lload_n 2, 1) := by decide +kernel
theorem dX8_coldMinutes_38 : decode cX8_coldMinutes 38 = .ok (.lreturn, 1) := by decide +kernel
set_option maxRecDepth 20000 in
theorem ggX8_told_X8_coldMinutes : GoodIn wsX8_told wsX8_coldMinutes := goodIn_r _ [13, 1, 2, 14, 15, 16, 17, 18, 19, 20, 21, 22, 23, 24, 25, 26, 27, 28, 29, 30, 31, 32, 33, 34, 35, 36, 37, 38, 39, 40, 41, 42] (by decide +kernel) (by decide +kernel)
set_option maxRecDepth 20000 in
theorem gX8_told_X8_coldMinutes : GoodIn wsX8_told (wsV RX8 154 RX8 yX8_coldMinutes wsX8_coldMinutes) := goodIn_app (goodIn_of _ (by decide +kernel)) ggX8_told_X8_coldMinutes
theorem dX8_told_0 : decode cX8_told 0 = .ok (.lconst 0, 1) := by decide +kernel
theorem dX8_told_1 : decode cX8_told 1 = .ok (.lstore_n 2, 1) := by decide +kernel
theorem dX8_told_2 : decode cX8_told 2 = .ok (.iconst 0, 1) := by decide +kernel
theorem dX8_told_3 : decode cX8_told 3 = .ok (.istore 4, 2) := by decide +kernel
theorem dX8_told_5 : decode cX8_told 5 = .ok (.iload 4, 2) := by decide +kernel
theorem dX8_told_7 : decode cX8_told 7 = .ok (.aload_n 0, 1) := by decide +kernel
theorem dX8_told_8 : decode cX8_told 8 = .ok (.getfield 36, 3) := by decide +kernel
theorem dX8_told_11 : decode cX8_told 11 = .ok (.iconst 0, 1) := by decide +kernel
theorem dX8_told_12 : decode cX8_told 12 = .ok (.iaload, 1) := by decide +kernel
theorem dX8_told_13 : decode cX8_told 13 = .ok (.if_icmp .ge 19, 3) := by decide +kernel
theorem dX8_told_16 : decode cX8_told 16 = .ok (.lload_n 2, 1) := by decide +kernel
theorem dX8_told_17 : decode cX8_told 17 = .ok (.aload_n 0, 1) := by decide +kernel
theorem dX8_told_18 : decode cX8_told 18 = .ok (.getfield 7, 3) := by decide +kernel
theorem dX8_told_21 : decode cX8_told 21 = .ok (.iload 4, 2) := by decide +kernel
theorem dX8_told_23 : decode cX8_told 23 = .ok (.laload, 1) := by decide +kernel
theorem dX8_told_24 : decode cX8_told 24 = .ok (.ladd, 1) := by decide +kernel
theorem dX8_told_25 : decode cX8_told 25 = .ok (.lstore_n 2, 1) := by decide +kernel
theorem dX8_told_26 : decode cX8_told 26 = .ok (.iinc 4 1, 3) := by decide +kernel
theorem dX8_told_29 : decode cX8_told 29 = .ok (.goto (-24), 3) := by decide +kernel
theorem dX8_told_32 : decode cX8_told 32 = .ok (.iconst 0, 1) := by decide +kernel
theorem dX8_told_33 : decode cX8_told 33 = .ok (.istore 4, 2) := by decide +kernel
theorem dX8_told_35 : decode cX8_told 35 = .ok (.iload 4, 2) := by decide +kernel
theorem dX8_told_37 : decode cX8_told 37 = .ok (.aload_n 0, 1) := by decide +kernel
theorem dX8_told_38 : decode cX8_told 38 = .ok (.getfield 36, 3) := by decide +kernel
theorem dX8_told_41 : decode cX8_told 41 = .ok (.iconst 1, 1) := by decide +kernel
theorem dX8_told_42 : decode cX8_told 42 = .ok (.iaload, 1) := by decide +kernel
theorem dX8_told_43 : decode cX8_told 43 = .ok (.if_icmp .ge 22, 3) := by decide +kernel
theorem dX8_told_46 : decode cX8_told 46 = .ok (.lload_n 2, 1) := by decide +kernel
theorem dX8_told_47 : decode cX8_told 47 = .ok (.aload_n 0, 1) := by decide +kernel
theorem dX8_told_48 : decode cX8_told 48 = .ok (.getfield 7, 3) := by decide +kernel
theorem dX8_told_51 : decode cX8_told 51 = .ok (.bipush 10, 2) := by decide +kernel
theorem dX8_told_53 : decode cX8_told 53 = .ok (.iload 4, 2) := by decide +kernel
theorem dX8_told_55 : decode cX8_told 55 = .ok (.iadd, 1) := by decide +kernel
theorem dX8_told_56 : decode cX8_told 56 = .ok (.laload, 1) := by decide +kernel
theorem dX8_told_57 : decode cX8_told 57 = .ok (.ladd, 1) := by decide +kernel
theorem dX8_told_58 : decode cX8_told 58 = .ok (.lstore_n 2, 1) := by decide +kernel
theorem dX8_told_59 : decode cX8_told 59 = .ok (.iinc 4 1, 3) := by decide +kernel
theorem dX8_told_62 : decode cX8_told 62 = .ok (.goto (-27), 3) := by decide +kernel
theorem dX8_told_65 : decode cX8_told 65 = .ok (.iload_n 1, 1) := by decide +kernel
theorem dX8_told_66 : decode cX8_told 66 = .ok (.tableswitch 130 0 10 #[58, 66, 74, 80, 89, 98, 104, 110, 116, 122, 128], 58) := by decide +kernel
theorem dX8_told_124 : decode cX8_told 124 = .ok (.aload_n 0, 1) := by decide +kernel
theorem dX8_told_125 : decode cX8_told 125 = .ok (.getfield 36, 3) := by decide +kernel
theorem dX8_told_128 : decode cX8_told 128 = .ok (.iconst 0, 1) := by decide +kernel
theorem dX8_told_129 : decode cX8_told 129 = .ok (.iaload, 1) := by decide +kernel
theorem dX8_told_130 : decode cX8_told 130 = .ok (.i2l, 1) := by decide +kernel
theorem dX8_told_131 : decode cX8_told 131 = .ok (.lreturn, 1) := by decide +kernel
theorem dX8_told_132 : decode cX8_told 132 = .ok (.aload_n 0, 1) := by decide +kernel
theorem dX8_told_133 : decode cX8_told 133 = .ok (.getfield 36, 3) := by decide +kernel
theorem dX8_told_136 : decode cX8_told 136 = .ok (.iconst 1, 1) := by decide +kernel
theorem dX8_told_137 : decode cX8_told 137 = .ok (.iaload, 1) := by decide +kernel
theorem dX8_told_138 : decode cX8_told 138 = .ok (.i2l, 1) := by decide +kernel
theorem dX8_told_139 : decode cX8_told 139 = .ok (.lreturn, 1) := by decide +kernel
theorem dX8_told_140 : decode cX8_told 140 = .ok (.aload_n 0, 1) := by decide +kernel
theorem dX8_told_141 : decode cX8_told 141 = .ok (.getfield 74, 3) := by decide +kernel
theorem dX8_told_144 : decode cX8_told 144 = .ok (.i2l, 1) := by decide +kernel
theorem dX8_told_145 : decode cX8_told 145 = .ok (.lreturn, 1) := by decide +kernel
theorem dX8_told_146 : decode cX8_told 146 = .ok (.aload_n 0, 1) := by decide +kernel
theorem dX8_told_147 : decode cX8_told 147 = .ok (.getfield 7, 3) := by decide +kernel
theorem dX8_told_150 : decode cX8_told 150 = .ok (.sipush 132, 3) := by decide +kernel
theorem dX8_told_153 : decode cX8_told 153 = .ok (.laload, 1) := by decide +kernel
theorem dX8_told_154 : decode cX8_told 154 = .ok (.lreturn, 1) := by decide +kernel
theorem dX8_told_155 : decode cX8_told 155 = .ok (.aload_n 0, 1) := by decide +kernel
theorem dX8_told_156 : decode cX8_told 156 = .ok (.getfield 7, 3) := by decide +kernel
theorem dX8_told_159 : decode cX8_told 159 = .ok (.sipush 134, 3) := by decide +kernel
theorem dX8_told_162 : decode cX8_told 162 = .ok (.laload, 1) := by decide +kernel
theorem dX8_told_163 : decode cX8_told 163 = .ok (.lreturn, 1) := by decide +kernel
theorem dX8_told_164 : decode cX8_told 164 = .ok (.aload_n 0, 1) := by decide +kernel
theorem dX8_told_165 : decode cX8_told 165 = .ok (.getfield 39, 3) := by decide +kernel
theorem dX8_told_168 : decode cX8_told 168 = .ok (.i2l, 1) := by decide +kernel
theorem dX8_told_169 : decode cX8_told 169 = .ok (.lreturn, 1) := by decide +kernel
theorem dX8_told_170 : decode cX8_told 170 = .ok (.aload_n 0, 1) := by decide +kernel
theorem dX8_told_171 : decode cX8_told 171 = .ok (.getfield 43, 3) := by decide +kernel
theorem dX8_told_174 : decode cX8_told 174 = .ok (.i2l, 1) := by decide +kernel
theorem dX8_told_175 : decode cX8_told 175 = .ok (.lreturn, 1) := by decide +kernel
theorem dX8_told_176 : decode cX8_told 176 = .ok (.aload_n 0, 1) := by decide +kernel
theorem dX8_told_177 : decode cX8_told 177 = .ok (.getfield 146, 3) := by decide +kernel
theorem dX8_told_180 : decode cX8_told 180 = .ok (.i2l, 1) := by decide +kernel
theorem dX8_told_181 : decode cX8_told 181 = .ok (.lreturn, 1) := by decide +kernel
theorem dX8_told_182 : decode cX8_told 182 = .ok (.aload_n 0, 1) := by decide +kernel
theorem dX8_told_183 : decode cX8_told 183 = .ok (.getfield 149, 3) := by decide +kernel
theorem dX8_told_186 : decode cX8_told 186 = .ok (.i2l, 1) := by decide +kernel
theorem dX8_told_187 : decode cX8_told 187 = .ok (.lreturn, 1) := by decide +kernel
theorem dX8_told_188 : decode cX8_told 188 = .ok (.aload_n 0, 1) := by decide +kernel
theorem dX8_told_189 : decode cX8_told 189 = .ok (.iconst 0, 1) := by decide +kernel
theorem dX8_told_190 : decode cX8_told 190 = .ok (.invokevirtual 154, 3) := by decide +kernel
theorem dX8_told_193 : decode cX8_told 193 = .ok (.lreturn, 1) := by decide +kernel
theorem dX8_told_194 : decode cX8_told 194 = .ok (.lload_n 2, 1) := by decide +kernel
theorem dX8_told_195 : decode cX8_told 195 = .ok (.lreturn, 1) := by decide +kernel
theorem dX8_told_196 : decode cX8_told 196 = .ok (.ldc2_w 158, 3) := by decide +kernel
theorem dX8_told_199 : decode cX8_told 199 = .ok (.lreturn, 1) := by decide +kernel
set_option maxRecDepth 20000 in
theorem ggX8_stone_X8_isStone : GoodIn wsX8_stone wsX8_isStone := goodIn_r _ [10, 11, 12, 13, 9, 14, 19, 20, 21, 22, 23, 24, 25, 26, 27, 28, 29, 30, 31, 32, 33, 34, 35, 36, 37, 38, 39, 40, 41, 42, 43, 44, 45, 46, 47] (by decide +kernel) (by decide +kernel)
set_option maxRecDepth 20000 in
theorem gX8_stone_X8_isStone : GoodIn wsX8_stone (wsV RX8 160 RX8 yX8_isStone wsX8_isStone) := goodIn_app (goodIn_of _ (by decide +kernel)) ggX8_stone_X8_isStone
set_option maxRecDepth 20000 in
theorem ggX8_stone_X8_sitter : GoodIn wsX8_stone wsX8_sitter := goodIn_r _ [18, 11, 4, 19, 20, 21, 22, 23, 24, 25, 26, 27, 28, 29, 30, 31, 32, 33, 34, 35, 36, 37, 38, 39, 40, 41, 42, 43, 44, 45, 46, 47] (by decide +kernel) (by decide +kernel)
set_option maxRecDepth 20000 in
theorem gX8_stone_X8_sitter : GoodIn wsX8_stone (wsV RX8 165 RX8 yX8_sitter wsX8_sitter) := goodIn_app (goodIn_of _ (by decide +kernel)) ggX8_stone_X8_sitter
theorem dX8_stone_0 : decode cX8_stone 0 = .ok (.aload_n 0, 1) := by decide +kernel
theorem dX8_stone_1 : decode cX8_stone 1 = .ok (.iload_n 1, 1) := by decide +kernel
theorem dX8_stone_2 : decode cX8_stone 2 = .ok (.invokevirtual 160, 3) := by decide +kernel
theorem dX8_stone_5 : decode cX8_stone 5 = .ok (.ifCond .ne 6, 3) := by decide +kernel
theorem dX8_stone_8 : decode cX8_stone 8 = .ok (.ldc 164, 2) := by decide +kernel
theorem dX8_stone_10 : decode cX8_stone 10 = .ok (.ireturn, 1) := by decide +kernel
theorem dX8_stone_11 : decode cX8_stone 11 = .ok (.iload_n 2, 1) := by decide +kernel
theorem dX8_stone_12 : decode cX8_stone 12 = .ok (.ifCond .ne 12, 3) := by decide +kernel
theorem dX8_stone_15 : decode cX8_stone 15 = .ok (.aload_n 0, 1) := by decide +kernel
theorem dX8_stone_16 : decode cX8_stone 16 = .ok (.getfield 17, 3) := by decide +kernel
theorem dX8_stone_19 : decode cX8_stone 19 = .ok (.iload_n 1, 1) := by decide +kernel
theorem dX8_stone_20 : decode cX8_stone 20 = .ok (.iaload, 1) := by decide +kernel
theorem dX8_stone_21 : decode cX8_stone 21 = .ok (.goto 48, 3) := by decide +kernel
theorem dX8_stone_24 : decode cX8_stone 24 = .ok (.iload_n 2, 1) := by decide +kernel
theorem dX8_stone_25 : decode cX8_stone 25 = .ok (.iconst 1, 1) := by decide +kernel
theorem dX8_stone_26 : decode cX8_stone 26 = .ok (.if_icmp .ne 12, 3) := by decide +kernel
theorem dX8_stone_29 : decode cX8_stone 29 = .ok (.aload_n 0, 1) := by decide +kernel
theorem dX8_stone_30 : decode cX8_stone 30 = .ok (.getfield 21, 3) := by decide +kernel
theorem dX8_stone_33 : decode cX8_stone 33 = .ok (.iload_n 1, 1) := by decide +kernel
theorem dX8_stone_34 : decode cX8_stone 34 = .ok (.iaload, 1) := by decide +kernel
theorem dX8_stone_35 : decode cX8_stone 35 = .ok (.goto 34, 3) := by decide +kernel
theorem dX8_stone_38 : decode cX8_stone 38 = .ok (.iload_n 2, 1) := by decide +kernel
theorem dX8_stone_39 : decode cX8_stone 39 = .ok (.iconst 2, 1) := by decide +kernel
theorem dX8_stone_40 : decode cX8_stone 40 = .ok (.if_icmp .ne 13, 3) := by decide +kernel
theorem dX8_stone_43 : decode cX8_stone 43 = .ok (.aload_n 0, 1) := by decide +kernel
theorem dX8_stone_44 : decode cX8_stone 44 = .ok (.getfield 7, 3) := by decide +kernel
theorem dX8_stone_47 : decode cX8_stone 47 = .ok (.iload_n 1, 1) := by decide +kernel
theorem dX8_stone_48 : decode cX8_stone 48 = .ok (.laload, 1) := by decide +kernel
theorem dX8_stone_49 : decode cX8_stone 49 = .ok (.l2i, 1) := by decide +kernel
theorem dX8_stone_50 : decode cX8_stone 50 = .ok (.goto 19, 3) := by decide +kernel
theorem dX8_stone_53 : decode cX8_stone 53 = .ok (.iload_n 2, 1) := by decide +kernel
theorem dX8_stone_54 : decode cX8_stone 54 = .ok (.iconst 3, 1) := by decide +kernel
theorem dX8_stone_55 : decode cX8_stone 55 = .ok (.if_icmp .ne 12, 3) := by decide +kernel
theorem dX8_stone_58 : decode cX8_stone 58 = .ok (.aload_n 0, 1) := by decide +kernel
theorem dX8_stone_59 : decode cX8_stone 59 = .ok (.iconst 0, 1) := by decide +kernel
theorem dX8_stone_60 : decode cX8_stone 60 = .ok (.iload_n 1, 1) := by decide +kernel
theorem dX8_stone_61 : decode cX8_stone 61 = .ok (.invokevirtual 165, 3) := by decide +kernel
theorem dX8_stone_64 : decode cX8_stone 64 = .ok (.goto 5, 3) := by decide +kernel
theorem dX8_stone_67 : decode cX8_stone 67 = .ok (.ldc 73, 2) := by decide +kernel
theorem dX8_stone_69 : decode cX8_stone 69 = .ok (.ireturn, 1) := by decide +kernel
set_option maxRecDepth 20000 in
theorem ggX8_person_X8_isPerson : GoodIn wsX8_person wsX8_isPerson := goodIn_r _ [10, 11, 12, 13, 9, 14, 15, 16, 17, 18, 19, 20, 21, 22, 23, 24, 25, 26, 27, 28, 29, 30, 31, 32, 33, 34, 35, 36, 37, 38, 39, 40, 41, 42, 43] (by decide +kernel) (by decide +kernel)
set_option maxRecDepth 20000 in
theorem gX8_person_X8_isPerson : GoodIn wsX8_person (wsV RX8 168 RX8 yX8_isPerson wsX8_isPerson) := goodIn_app (goodIn_of _ (by decide +kernel)) ggX8_person_X8_isPerson
theorem dX8_person_0 : decode cX8_person 0 = .ok (.aload_n 0, 1) := by decide +kernel
theorem dX8_person_1 : decode cX8_person 1 = .ok (.iload_n 1, 1) := by decide +kernel
theorem dX8_person_2 : decode cX8_person 2 = .ok (.invokevirtual 168, 3) := by decide +kernel
theorem dX8_person_5 : decode cX8_person 5 = .ok (.ifCond .ne 6, 3) := by decide +kernel
theorem dX8_person_8 : decode cX8_person 8 = .ok (.ldc 164, 2) := by decide +kernel
theorem dX8_person_10 : decode cX8_person 10 = .ok (.ireturn, 1) := by decide +kernel
theorem dX8_person_11 : decode cX8_person 11 = .ok (.iload_n 2, 1) := by decide +kernel
theorem dX8_person_12 : decode cX8_person 12 = .ok (.tableswitch 113 0 6 #[44, 51, 58, 69, 80, 91, 102], 44) := by decide +kernel
theorem dX8_person_56 : decode cX8_person 56 = .ok (.aload_n 0, 1) := by decide +kernel
theorem dX8_person_57 : decode cX8_person 57 = .ok (.getfield 27, 3) := by decide +kernel
theorem dX8_person_60 : decode cX8_person 60 = .ok (.iload_n 1, 1) := by decide +kernel
theorem dX8_person_61 : decode cX8_person 61 = .ok (.iaload, 1) := by decide +kernel
theorem dX8_person_62 : decode cX8_person 62 = .ok (.ireturn, 1) := by decide +kernel
theorem dX8_person_63 : decode cX8_person 63 = .ok (.aload_n 0, 1) := by decide +kernel
theorem dX8_person_64 : decode cX8_person 64 = .ok (.getfield 33, 3) := by decide +kernel
theorem dX8_person_67 : decode cX8_person 67 = .ok (.iload_n 1, 1) := by decide +kernel
theorem dX8_person_68 : decode cX8_person 68 = .ok (.iaload, 1) := by decide +kernel
theorem dX8_person_69 : decode cX8_person 69 = .ok (.ireturn, 1) := by decide +kernel
theorem dX8_person_70 : decode cX8_person 70 = .ok (.aload_n 0, 1) := by decide +kernel
theorem dX8_person_71 : decode cX8_person 71 = .ok (.getfield 7, 3) := by decide +kernel
theorem dX8_person_74 : decode cX8_person 74 = .ok (.bipush 10, 2) := by decide +kernel
theorem dX8_person_76 : decode cX8_person 76 = .ok (.iload_n 1, 1) := by decide +kernel
theorem dX8_person_77 : decode cX8_person 77 = .ok (.iadd, 1) := by decide +kernel
theorem dX8_person_78 : decode cX8_person 78 = .ok (.laload, 1) := by decide +kernel
theorem dX8_person_79 : decode cX8_person 79 = .ok (.l2i, 1) := by decide +kernel
theorem dX8_person_80 : decode cX8_person 80 = .ok (.ireturn, 1) := by decide +kernel
theorem dX8_person_81 : decode cX8_person 81 = .ok (.aload_n 0, 1) := by decide +kernel
theorem dX8_person_82 : decode cX8_person 82 = .ok (.getfield 7, 3) := by decide +kernel
theorem dX8_person_85 : decode cX8_person 85 = .ok (.bipush 20, 2) := by decide +kernel
theorem dX8_person_87 : decode cX8_person 87 = .ok (.iload_n 1, 1) := by decide +kernel
theorem dX8_person_88 : decode cX8_person 88 = .ok (.iadd, 1) := by decide +kernel
theorem dX8_person_89 : decode cX8_person 89 = .ok (.laload, 1) := by decide +kernel
theorem dX8_person_90 : decode cX8_person 90 = .ok (.l2i, 1) := by decide +kernel
theorem dX8_person_91 : decode cX8_person 91 = .ok (.ireturn, 1) := by decide +kernel
theorem dX8_person_92 : decode cX8_person 92 = .ok (.aload_n 0, 1) := by decide +kernel
theorem dX8_person_93 : decode cX8_person 93 = .ok (.getfield 7, 3) := by decide +kernel
theorem dX8_person_96 : decode cX8_person 96 = .ok (.bipush 30, 2) := by decide +kernel
theorem dX8_person_98 : decode cX8_person 98 = .ok (.iload_n 1, 1) := by decide +kernel
theorem dX8_person_99 : decode cX8_person 99 = .ok (.iadd, 1) := by decide +kernel
theorem dX8_person_100 : decode cX8_person 100 = .ok (.laload, 1) := by decide +kernel
theorem dX8_person_101 : decode cX8_person 101 = .ok (.l2i, 1) := by decide +kernel
theorem dX8_person_102 : decode cX8_person 102 = .ok (.ireturn, 1) := by decide +kernel
theorem dX8_person_103 : decode cX8_person 103 = .ok (.aload_n 0, 1) := by decide +kernel
theorem dX8_person_104 : decode cX8_person 104 = .ok (.getfield 7, 3) := by decide +kernel
theorem dX8_person_107 : decode cX8_person 107 = .ok (.bipush 40, 2) := by decide +kernel
theorem dX8_person_109 : decode cX8_person 109 = .ok (.iload_n 1, 1) := by decide +kernel
theorem dX8_person_110 : decode cX8_person 110 = .ok (.iadd, 1) := by decide +kernel
theorem dX8_person_111 : decode cX8_person 111 = .ok (.laload, 1) := by decide +kernel
theorem dX8_person_112 : decode cX8_person 112 = .ok (.l2i, 1) := by decide +kernel
theorem dX8_person_113 : decode cX8_person 113 = .ok (.ireturn, 1) := by decide +kernel
theorem dX8_person_114 : decode cX8_person 114 = .ok (.aload_n 0, 1) := by decide +kernel
theorem dX8_person_115 : decode cX8_person 115 = .ok (.getfield 7, 3) := by decide +kernel
theorem dX8_person_118 : decode cX8_person 118 = .ok (.bipush 50, 2) := by decide +kernel
