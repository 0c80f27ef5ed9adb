theorem dX4_passMinute_39 : decode cX4_passMinute 39 = .ok (.aload_n 0, 1) := by decide +kernel
theorem dX4_passMinute_40 : decode cX4_passMinute 40 = .ok (.dup, 1) := by decide +kernel
theorem dX4_passMinute_41 : decode cX4_passMinute 41 = .ok (.getfield 13, 3) := by decide +kernel
theorem dX4_passMinute_44 : decode cX4_passMinute 44 = .ok (.iload 5, 2) := by decide +kernel
theorem dX4_passMinute_46 : decode cX4_passMinute 46 = .ok (.iadd, 1) := by decide +kernel
theorem dX4_passMinute_47 : decode cX4_passMinute 47 = .ok (.putfield 13, 3) := by decide +kernel
theorem dX4_passMinute_50 : decode cX4_passMinute 50 = .ok (.aload_n 0, 1) := by decide +kernel
theorem dX4_passMinute_51 : decode cX4_passMinute 51 = .ok (.dup, 1) := by decide +kernel
theorem dX4_passMinute_52 : decode cX4_passMinute 52 = .ok (.getfield 7, 3) := by decide +kernel
theorem dX4_passMinute_55 : decode cX4_passMinute 55 = .ok (.aload_n 0, 1) := by decide +kernel
theorem dX4_passMinute_56 : decode cX4_passMinute 56 = .ok (.getfield 7, 3) := by decide +kernel
theorem dX4_passMinute_59 : decode cX4_passMinute 59 = .ok (.aload_n 1, 1) := by decide +kernel
theorem dX4_passMinute_60 : decode cX4_passMinute 60 = .ok (.iload_n 2, 1) := by decide +kernel
theorem dX4_passMinute_61 : decode cX4_passMinute 61 = .ok (.iload 4, 2) := by decide +kernel
theorem dX4_passMinute_63 : decode cX4_passMinute 63 = .ok (.invokevirtual 26, 3) := by decide +kernel
theorem dX4_passMinute_66 : decode cX4_passMinute 66 = .ok (.invokestatic 30, 3) := by decide +kernel
theorem dX4_passMinute_69 : decode cX4_passMinute 69 = .ok (.isub, 1) := by decide +kernel
theorem dX4_passMinute_70 : decode cX4_passMinute 70 = .ok (.putfield 7, 3) := by decide +kernel
theorem dX4_passMinute_73 : decode cX4_passMinute 73 = .ok (.return_, 1) := by decide +kernel
theorem dX5_init_0 : decode cX5_init 0 = .ok (.aload_n 0, 1) := by decide +kernel
theorem dX5_init_1 : decode cX5_init 1 = .ok (.invokespecial 3, 3) := by decide +kernel
theorem dX5_init_4 : decode cX5_init 4 = .ok (.aload_n 0, 1) := by decide +kernel
theorem dX5_init_5 : decode cX5_init 5 = .ok (.sipush 400, 3) := by decide +kernel
theorem dX5_init_8 : decode cX5_init 8 = .ok (.newarray .byte, 2) := by decide +kernel
theorem dX5_init_10 : decode cX5_init 10 = .ok (.putfield 9, 3) := by decide +kernel
theorem dX5_init_13 : decode cX5_init 13 = .ok (.aload_n 0, 1) := by decide +kernel
theorem dX5_init_14 : decode cX5_init 14 = .ok (.iconst (-1), 1) := by decide +kernel
theorem dX5_init_15 : decode cX5_init 15 = .ok (.putfield 15, 3) := by decide +kernel
theorem dX5_init_18 : decode cX5_init 18 = .ok (.return_, 1) := by decide +kernel
theorem dX5_hasRoomFor_0 : decode cX5_hasRoomFor 0 = .ok (.aload_n 0, 1) := by decide +kernel
theorem dX5_hasRoomFor_1 : decode cX5_hasRoomFor 1 = .ok (.getfield 19, 3) := by decide +kernel
theorem dX5_hasRoomFor_4 : decode cX5_hasRoomFor 4 = .ok (.iload_n 1, 1) := by decide +kernel
theorem dX5_hasRoomFor_5 : decode cX5_hasRoomFor 5 = .ok (.iadd, 1) := by decide +kernel
theorem dX5_hasRoomFor_6 : decode cX5_hasRoomFor 6 = .ok (.sipush 400, 3) := by decide +kernel
theorem dX5_hasRoomFor_9 : decode cX5_hasRoomFor 9 = .ok (.if_icmp .gt 7, 3) := by decide +kernel
theorem dX5_hasRoomFor_12 : decode cX5_hasRoomFor 12 = .ok (.iconst 1, 1) := by decide +kernel
theorem dX5_hasRoomFor_13 : decode cX5_hasRoomFor 13 = .ok (.goto 4, 3) := by decide +kernel
theorem dX5_hasRoomFor_16 : decode cX5_hasRoomFor 16 = .ok (.iconst 0, 1) := by decide +kernel
theorem dX5_hasRoomFor_17 : decode cX5_hasRoomFor 17 = .ok (.ireturn, 1) := by decide +kernel
theorem dX5_append_0 : decode cX5_append 0 = .ok (.iload_n 1, 1) := by decide +kernel
theorem dX5_append_1 : decode cX5_append 1 = .ok (.iconst 1, 1) := by decide +kernel
theorem dX5_append_2 : decode cX5_append 2 = .ok (.isub, 1) := by decide +kernel
theorem dX5_append_3 : decode cX5_append 3 = .ok (.istore 4, 2) := by decide +kernel
theorem dX5_append_5 : decode cX5_append 5 = .ok (.iload 4, 2) := by decide +kernel
theorem dX5_append_7 : decode cX5_append 7 = .ok (.ifCond .lt 47, 3) := by decide +kernel
theorem dX5_append_10 : decode cX5_append 10 = .ok (.aload_n 0, 1) := by decide +kernel
theorem dX5_append_11 : decode cX5_append 11 = .ok (.getfield 19, 3) := by decide +kernel
theorem dX5_append_14 : decode cX5_append 14 = .ok (.sipush 400, 3) := by decide +kernel
theorem dX5_append_17 : decode cX5_append 17 = .ok (.if_icmp .ge 37, 3) := by decide +kernel
theorem dX5_append_20 : decode cX5_append 20 = .ok (.aload_n 0, 1) := by decide +kernel
theorem dX5_append_21 : decode cX5_append 21 = .ok (.getfield 9, 3) := by decide +kernel
theorem dX5_append_24 : decode cX5_append 24 = .ok (.aload_n 0, 1) := by decide +kernel
theorem dX5_append_25 : decode cX5_append 25 = .ok (.getfield 19, 3) := by decide +kernel
theorem dX5_append_28 : decode cX5_append 28 = .ok (.lload_n 2, 1) := by decide +kernel
theorem dX5_append_29 : decode cX5_append 29 = .ok (.bipush 8, 2) := by decide +kernel
theorem dX5_append_31 : decode cX5_append 31 = .ok (.iload 4, 2) := by decide +kernel
theorem dX5_append_33 : decode cX5_append 33 = .ok (.imul, 1) := by decide +kernel
theorem dX5_append_34 : decode cX5_append 34 = .ok (.lushr, 1) := by decide +kernel
theorem dX5_append_35 : decode cX5_append 35 = .ok (.l2i, 1) := by decide +kernel
theorem dX5_append_36 : decode cX5_append 36 = .ok (.i2b, 1) := by decide +kernel
theorem dX5_append_37 : decode cX5_append 37 = .ok (.bastore, 1) := by decide +kernel
theorem dX5_append_38 : decode cX5_append 38 = .ok (.aload_n 0, 1) := by decide +kernel
theorem dX5_append_39 : decode cX5_append 39 = .ok (.dup, 1) := by decide +kernel
theorem dX5_append_40 : decode cX5_append 40 = .ok (.getfield 19, 3) := by decide +kernel
theorem dX5_append_43 : decode cX5_append 43 = .ok (.iconst 1, 1) := by decide +kernel
theorem dX5_append_44 : decode cX5_append 44 = .ok (.iadd, 1) := by decide +kernel
theorem dX5_append_45 : decode cX5_append 45 = .ok (.putfield 19, 3) := by decide +kernel
theorem dX5_append_48 : decode cX5_append 48 = .ok (.iinc 4 (-1), 3) := by decide +kernel
theorem dX5_append_51 : decode cX5_append 51 = .ok (.goto (-46), 3) := by decide +kernel
theorem dX5_append_54 : decode cX5_append 54 = .ok (.return_, 1) := by decide +kernel
set_option maxRecDepth 20000 in
theorem ggX5_readInto_X6_clear : GoodIn wsX5_readInto wsX6_clear := goodIn_r _ [11, 12, 13, 14, 15, 16, 151, 152, 153, 154, 155, 156, 157, 158, 159, 160, 161] (by decide +kernel) (by decide +kernel)
set_option maxRecDepth 20000 in
theorem gX5_readInto_X6_clear : GoodIn wsX5_readInto (wsV RX5 35 RX6 yX6_clear wsX6_clear) := goodIn_app (goodIn_of _ (by decide +kernel)) ggX5_readInto_X6_clear
set_option maxRecDepth 20000 in
theorem ggX5_readInto_X5_hasMore : GoodIn wsX5_readInto wsX5_hasMore := goodIn_r _ [21, 2, 1, 6, 22, 23, 24, 20, 25, 26, 143, 144, 145, 146, 147, 148, 149, 150] (by decide +kernel) (by decide +kernel)
set_option maxRecDepth 20000 in
theorem gX5_readInto_X5_hasMore : GoodIn wsX5_readInto (wsV RX5 40 RX5 yX5_hasMore wsX5_hasMore) := goodIn_app (goodIn_of _ (by decide +kernel)) ggX5_readInto_X5_hasMore
set_option maxRecDepth 20000 in
theorem ggX5_readInto_X5_readClause : GoodIn wsX5_readInto wsX5_readClause := goodIn_r _ [30, 31, 32, 33, 20, 34, 1, 35, 6, 26, 22, 23, 24, 25, 36, 37, 38, 39, 40, 41, 42, 43, 44, 45, 46, 47, 48, 49, 50, 51, 52, 53, 54, 55, 56, 57, 58, 59, 60, 61, 62, 63, 64, 65, 66, 67, 68, 69, 70, 71, 72, 73, 74, 75, 76, 77, 78, 79, 80, 81, 82, 83, 84, 85, 86, 87, 88, 89, 90, 91, 92, 93, 2, 94, 95, 96, 97, 3, 98, 99, 100, 101, 102, 103, 104, 105, 106, 107, 108, 109, 110, 111, 10, 112, 12, 113, 114, 115, 116, 117, 118, 119, 120, 121, 122, 123, 124, 125, 126, 127, 128, 13, 129, 130, 131, 132, 133, 134, 135, 4, 136, 137, 138, 139, 140, 141, 5, 142, 143, 144, 145, 146, 147, 148, 149, 150, 151, 152, 153, 154, 155, 156, 157, 158, 159, 160, 161] (by decide +kernel) (by decide +kernel)
set_option maxRecDepth 20000 in
theorem gX5_readInto_X5_readClause : GoodIn wsX5_readInto (wsV RX5 44 RX5 yX5_readClause wsX5_readClause) := goodIn_app (goodIn_of _ (by decide +kernel)) ggX5_readInto_X5_readClause
theorem dX5_readInto_0 : decode cX5_readInto 0 = .ok (.aload_n 0, 1) := by decide +kernel
theorem dX5_readInto_1 : decode cX5_readInto 1 = .ok (.iconst 0, 1) := by decide +kernel
theorem dX5_readInto_2 : decode cX5_readInto 2 = .ok (.putfield 22, 3) := by decide +kernel
theorem dX5_readInto_5 : decode cX5_readInto 5 = .ok (.aload_n 0, 1) := by decide +kernel
theorem dX5_readInto_6 : decode cX5_readInto 6 = .ok (.iconst 0, 1) := by decide +kernel
theorem dX5_readInto_7 : decode cX5_readInto 7 = .ok (.putfield 25, 3) := by decide +kernel
theorem dX5_readInto_10 : decode cX5_readInto 10 = .ok (.aload_n 0, 1) := by decide +kernel
theorem dX5_readInto_11 : decode cX5_readInto 11 = .ok (.iconst (-1), 1) := by decide +kernel
theorem dX5_readInto_12 : decode cX5_readInto 12 = .ok (.putfield 15, 3) := by decide +kernel
theorem dX5_readInto_15 : decode cX5_readInto 15 = .ok (.aload_n 0, 1) := by decide +kernel
theorem dX5_readInto_16 : decode cX5_readInto 16 = .ok (.iconst 0, 1) := by decide +kernel
theorem dX5_readInto_17 : decode cX5_readInto 17 = .ok (.putfield 28, 3) := by decide +kernel
theorem dX5_readInto_20 : decode cX5_readInto 20 = .ok (.aload_n 0, 1) := by decide +kernel
theorem dX5_readInto_21 : decode cX5_readInto 21 = .ok (.iconst 0, 1) := by decide +kernel
theorem dX5_readInto_22 : decode cX5_readInto 22 = .ok (.putfield 32, 3) := by decide +kernel
theorem dX5_readInto_25 : decode cX5_readInto 25 = .ok (.aload_n 1, 1) := by decide +kernel
theorem dX5_readInto_26 : decode cX5_readInto 26 = .ok (.invokevirtual 35, 3) := by decide +kernel
theorem dX5_readInto_29 : decode cX5_readInto 29 = .ok (.iconst 0, 1) := by decide +kernel
theorem dX5_readInto_30 : decode cX5_readInto 30 = .ok (.istore_n 2, 1) := by decide +kernel
theorem dX5_readInto_31 : decode cX5_readInto 31 = .ok (.iload_n 2, 1) := by decide +kernel
theorem dX5_readInto_32 : decode cX5_readInto 32 = .ok (.sipush 400, 3) := by decide +kernel
theorem dX5_readInto_35 : decode cX5_readInto 35 = .ok (.if_icmp .ge 21, 3) := by decide +kernel
theorem dX5_readInto_38 : decode cX5_readInto 38 = .ok (.aload_n 0, 1) := by decide +kernel
theorem dX5_readInto_39 : decode cX5_readInto 39 = .ok (.invokevirtual 40, 3) := by decide +kernel
theorem dX5_readInto_42 : decode cX5_readInto 42 = .ok (.ifCond .eq 14, 3) := by decide +kernel
theorem dX5_readInto_45 : decode cX5_readInto 45 = .ok (.aload_n 0, 1) := by decide +kernel
theorem dX5_readInto_46 : decode cX5_readInto 46 = .ok (.aload_n 1, 1) := by decide +kernel
theorem dX5_readInto_47 : decode cX5_readInto 47 = .ok (.invokevirtual 44, 3) := by decide +kernel
theorem dX5_readInto_50 : decode cX5_readInto 50 = .ok (.iinc 2 1, 3) := by decide +kernel
theorem dX5_readInto_53 : decode cX5_readInto 53 = .ok (.goto (-22), 3) := by decide +kernel
theorem dX5_readInto_56 : decode cX5_readInto 56 = .ok (.aload_n 0, 1) := by decide +kernel
theorem dX5_readInto_57 : decode cX5_readInto 57 = .ok (.iconst 0, 1) := by decide +kernel
theorem dX5_readInto_58 : decode cX5_readInto 58 = .ok (.putfield 19, 3) := by decide +kernel
theorem dX5_readInto_61 : decode cX5_readInto 61 = .ok (.aload_n 0, 1) := by decide +kernel
theorem dX5_readInto_62 : decode cX5_readInto 62 = .ok (.getfield 25, 3) := by decide +kernel
theorem dX5_readInto_65 : decode cX5_readInto 65 = .ok (.ireturn, 1) := by decide +kernel
set_option maxRecDepth 20000 in
theorem ggX5_hasMore_X5_skipBlanks : GoodIn wsX5_hasMore wsX5_skipBlanks := goodIn_r _ [8, 2, 3, 9, 10, 11, 12, 13, 14, 15, 16, 17] (by decide +kernel) (by decide +kernel)
set_option maxRecDepth 20000 in
theorem gX5_hasMore_X5_skipBlanks : GoodIn wsX5_hasMore (wsV RX5 48 RX5 yX5_skipBlanks wsX5_skipBlanks) := goodIn_app (goodIn_of _ (by decide +kernel)) ggX5_hasMore_X5_skipBlanks
theorem dX5_hasMore_0 : decode cX5_hasMore 0 = .ok (.aload_n 0, 1) := by decide +kernel
theorem dX5_hasMore_1 : decode cX5_hasMore 1 = .ok (.invokevirtual 48, 3) := by decide +kernel
theorem dX5_hasMore_4 : decode cX5_hasMore 4 = .ok (.aload_n 0, 1) := by decide +kernel
theorem dX5_hasMore_5 : decode cX5_hasMore 5 = .ok (.getfield 25, 3) := by decide +kernel
theorem dX5_hasMore_8 : decode cX5_hasMore 8 = .ok (.ifCond .ne 18, 3) := by decide +kernel
theorem dX5_hasMore_11 : decode cX5_hasMore 11 = .ok (.aload_n 0, 1) := by decide +kernel
theorem dX5_hasMore_12 : decode cX5_hasMore 12 = .ok (.getfield 22, 3) := by decide +kernel
theorem dX5_hasMore_15 : decode cX5_hasMore 15 = .ok (.aload_n 0, 1) := by decide +kernel
theorem dX5_hasMore_16 : decode cX5_hasMore 16 = .ok (.getfield 19, 3) := by decide +kernel
theorem dX5_hasMore_19 : decode cX5_hasMore 19 = .ok (.if_icmp .ge 7, 3) := by decide +kernel
theorem dX5_hasMore_22 : decode cX5_hasMore 22 = .ok (.iconst 1, 1) := by decide +kernel
theorem dX5_hasMore_23 : decode cX5_hasMore 23 = .ok (.goto 4, 3) := by decide +kernel
theorem dX5_hasMore_26 : decode cX5_hasMore 26 = .ok (.iconst 0, 1) := by decide +kernel
theorem dX5_hasMore_27 : decode cX5_hasMore 27 = .ok (.ireturn, 1) := by decide +kernel
set_option maxRecDepth 20000 in
theorem ggX5_readClause_X5_readWord : GoodIn wsX5_readClause wsX5_readWord := goodIn_r _ [5, 6, 7, 8, 9, 10, 11, 12, 4, 13, 128, 129, 130, 131, 132, 133, 134, 135] (by decide +kernel) (by decide +kernel)
set_option maxRecDepth 20000 in
theorem gX5_readClause_X5_readWord : GoodIn wsX5_readClause (wsV RX5 51 RX5 yX5_readWord wsX5_readWord) := goodIn_app (goodIn_of _ (by decide +kernel)) ggX5_readClause_X5_readWord
set_option maxRecDepth 20000 in
theorem ggX5_readClause_X5_wordIs : GoodIn wsX5_readClause wsX5_wordIs := goodIn_r _ [17, 6, 7, 9, 18, 19, 20, 21, 22, 23, 24, 25, 26, 27, 28, 29, 30, 31, 32, 33, 34, 35, 36, 37, 38, 39, 40, 41, 42, 43, 44, 45, 46, 47, 48, 49, 50, 51, 52, 53, 54, 55, 56, 57, 58, 59, 60, 61, 62, 63, 64, 65, 66, 128, 129, 130, 131, 132, 133, 134, 135] (by decide +kernel) (by decide +kernel)
set_option maxRecDepth 20000 in
theorem gX5_readClause_X5_wordIs : GoodIn wsX5_readClause (wsV RX5 56 RX5 yX5_wordIs wsX5_wordIs) := goodIn_app (goodIn_of _ (by decide +kernel)) ggX5_readClause_X5_wordIs
set_option maxRecDepth 20000 in
theorem ggX5_readClause_X5_readStone : GoodIn wsX5_readClause wsX5_readStone := goodIn_r _ [70, 71, 72, 73, 74, 75, 4, 76, 7, 77, 78, 79, 80, 81, 6, 8, 9, 10, 11, 12, 13, 82, 83, 84, 85, 86, 87, 88, 89, 90, 91, 92, 93, 94, 95, 96, 97, 136, 137, 138, 139, 140, 141, 142, 143, 144, 145, 146, 128, 129, 130, 131, 132, 133, 134, 135] (by decide +kernel) (by decide +kernel)
set_option maxRecDepth 20000 in
theorem gX5_readClause_X5_readStone : GoodIn wsX5_readClause (wsV RX5 60 RX5 yX5_readStone wsX5_readStone) := goodIn_app (goodIn_of _ (by decide +kernel)) ggX5_readClause_X5_readStone
set_option maxRecDepth 20000 in
theorem ggX5_readClause_X5_readPerson : GoodIn wsX5_readClause wsX5_readPerson := goodIn_r _ [101, 102, 72, 73, 74, 75, 4, 76, 7, 77, 103, 104, 105, 106, 1, 2, 3, 5, 6, 8, 9, 10, 11, 12, 13, 14, 15, 16, 17, 18, 19, 20, 21, 22, 23, 24, 25, 26, 27, 28, 29, 30, 31, 32, 33, 34, 35, 36, 37, 38, 39, 40, 41, 42, 43, 44, 45, 46, 47, 48, 49, 50, 51, 52, 53, 54, 55, 56, 57, 58, 59, 60, 61, 62, 63, 64, 65, 66, 78, 79, 80, 81, 82, 83, 84, 85, 86, 87, 88, 107, 108, 109, 92, 110, 111, 112, 113, 114, 136, 137, 138, 139, 140, 141, 142, 143, 144, 145, 146, 128, 129, 130, 131, 132, 133, 134, 135] (by decide +kernel) (by decide +kernel)
set_option maxRecDepth 20000 in
theorem gX5_readClause_X5_readPerson : GoodIn wsX5_readClause (wsV RX5 65 RX5 yX5_readPerson wsX5_readPerson) := goodIn_app (goodIn_of _ (by decide +kernel)) ggX5_readClause_X5_readPerson
set_option maxRecDepth 20000 in
theorem ggX5_readClause_X5_readFrost : GoodIn wsX5_readClause wsX5_readFrost := goodIn_r _ [118, 119, 120, 121, 73, 74, 75, 4, 76, 72, 7, 77, 78, 79, 80, 81, 6, 8, 9, 10, 11, 12, 13, 82, 83, 84, 85, 86, 87, 88, 128, 129, 130, 131, 132, 133, 134, 135, 136, 137, 138, 139, 140, 141, 142, 143, 144, 145, 146] (by decide +kernel) (by decide +kernel)
set_option maxRecDepth 20000 in
theorem gX5_readClause_X5_readFrost : GoodIn wsX5_readClause (wsV RX5 70 RX5 yX5_readFrost wsX5_readFrost) := goodIn_app (goodIn_of _ (by decide +kernel)) ggX5_readClause_X5_readFrost
set_option maxRecDepth 20000 in
theorem ggX5_readClause_X5_readFine : GoodIn wsX5_readClause wsX5_readFine := goodIn_r _ [125, 126, 127, 73, 74, 75, 4, 76, 72, 7, 77, 78, 79, 80, 81, 6, 8, 9, 10, 11, 12, 13, 82, 83, 84, 85, 86, 87, 88, 128, 129, 130, 131, 132, 133, 134, 135, 136, 137, 138, 139, 140, 141, 142, 143, 144, 145, 146] (by decide +kernel) (by decide +kernel)
set_option maxRecDepth 20000 in
theorem gX5_readClause_X5_readFine : GoodIn wsX5_readClause (wsV RX5 75 RX5 yX5_readFine wsX5_readFine) := goodIn_app (goodIn_of _ (by decide +kernel)) ggX5_readClause_X5_readFine
set_option maxRecDepth 20000 in
theorem ggX5_readClause_X5_fail : GoodIn wsX5_readClause wsX5_fail := goodIn_r _ [76, 72, 7, 77, 128, 129, 130, 131, 132, 133, 134, 135] (by decide +kernel) (by decide +kernel)
set_option maxRecDepth 20000 in
theorem gX5_readClause_X5_fail : GoodIn wsX5_readClause (wsV RX5 78 RX5 yX5_fail wsX5_fail) := goodIn_app (goodIn_of _ (by decide +kernel)) ggX5_readClause_X5_fail
theorem dX5_readClause_0 : decode cX5_readClause 0 = .ok (.aload_n 0, 1) := by decide +kernel
theorem dX5_readClause_1 : decode cX5_readClause 1 = .ok (.invokevirtual 51, 3) := by decide +kernel
theorem dX5_readClause_4 : decode cX5_readClause 4 = .ok (.aload_n 0, 1) := by decide +kernel
theorem dX5_readClause_5 : decode cX5_readClause 5 = .ok (.ldc 54, 2) := by decide +kernel
theorem dX5_readClause_7 : decode cX5_readClause 7 = .ok (.invokevirtual 56, 3) := by decide +kernel
theorem dX5_readClause_10 : decode cX5_readClause 10 = .ok (.ifCond .eq 11, 3) := by decide +kernel
theorem dX5_readClause_13 : decode cX5_readClause 13 = .ok (.aload_n 0, 1) := by decide +kernel
theorem dX5_readClause_14 : decode cX5_readClause 14 = .ok (.aload_n 1, 1) := by decide +kernel
theorem dX5_readClause_15 : decode cX5_readClause 15 = .ok (.invokevirtual 60, 3) := by decide +kernel
theorem dX5_readClause_18 : decode cX5_readClause 18 = .ok (.goto 59, 3) := by decide +kernel
theorem dX5_readClause_21 : decode cX5_readClause 21 = .ok (.aload_n 0, 1) := by decide +kernel
theorem dX5_readClause_22 : decode cX5_readClause 22 = .ok (.ldc 63, 2) := by decide +kernel
theorem dX5_readClause_24 : decode cX5_readClause 24 = .ok (.invokevirtual 56, 3) := by decide +kernel
theorem dX5_readClause_27 : decode cX5_readClause 27 = .ok (.ifCond .eq 11, 3) := by decide +kernel
theorem dX5_readClause_30 : decode cX5_readClause 30 = .ok (.aload_n 0, 1) := by decide +kernel
theorem dX5_readClause_31 : decode cX5_readClause 31 = .ok (.aload_n 1, 1) := by decide +kernel
theorem dX5_readClause_32 : decode cX5_readClause 32 = .ok (.invokevirtual 65, 3) := by decide +kernel
theorem dX5_readClause_35 : decode cX5_readClause 35 = .ok (.goto 42, 3) := by decide +kernel
theorem dX5_readClause_38 : decode cX5_readClause 38 = .ok (.aload_n 0, 1) := by decide +kernel
theorem dX5_readClause_39 : decode cX5_readClause 39 = .ok (.ldc 68, 2) := by decide +kernel
theorem dX5_readClause_41 : decode cX5_readClause 41 = .ok (.invokevirtual 56, 3) := by decide +kernel
theorem dX5_readClause_44 : decode cX5_readClause 44 = .ok (.ifCond .eq 11, 3) := by decide +kernel
theorem dX5_readClause_47 : decode cX5_readClause 47 = .ok (.aload_n 0, 1) := by decide +kernel
theorem dX5_readClause_48 : decode cX5_readClause 48 = .ok (.aload_n 1, 1) := by decide +kernel
theorem dX5_readClause_49 : decode cX5_readClause 49 = .ok (.invokevirtual 70, 3) := by decide +kernel
theorem dX5_readClause_52 : decode cX5_readClause 52 = .ok (.goto 25, 3) := by decide +kernel
theorem dX5_readClause_55 : decode cX5_readClause 55 = .ok (.aload_n 0, 1) := by decide +kernel
theorem dX5_readClause_56 : decode cX5_readClause 56 = .ok (.ldc 73, 2) := by decide +kernel
theorem dX5_readClause_58 : decode cX5_readClause 58 = .ok (.invokevirtual 56, 3) := by decide +kernel
theorem dX5_readClause_61 : decode cX5_readClause 61 = .ok (.ifCond .eq 11, 3) := by decide +kernel
theorem dX5_readClause_64 : decode cX5_readClause 64 = .ok (.aload_n 0, 1) := by decide +kernel
theorem dX5_readClause_65 : decode cX5_readClause 65 = .ok (.aload_n 1, 1) := by decide +kernel
theorem dX5_readClause_66 : decode cX5_readClause 66 = .ok (.invokevirtual 75, 3) := by decide +kernel
theorem dX5_readClause_69 : decode cX5_readClause 69 = .ok (.goto 8, 3) := by decide +kernel
theorem dX5_readClause_72 : decode cX5_readClause 72 = .ok (.aload_n 0, 1) := by decide +kernel
theorem dX5_readClause_73 : decode cX5_readClause 73 = .ok (.iconst 1, 1) := by decide +kernel
theorem dX5_readClause_74 : decode cX5_readClause 74 = .ok (.invokevirtual 78, 3) := by decide +kernel
theorem dX5_readClause_77 : decode cX5_readClause 77 = .ok (.return_, 1) := by decide +kernel
set_option maxRecDepth 20000 in
theorem ggX5_readStone_X5_fail : GoodIn wsX5_readStone wsX5_fail := goodIn_r _ [7, 2, 8, 9, 48, 49, 50, 51, 52, 53, 54, 55] (by decide +kernel) (by decide +kernel)
set_option maxRecDepth 20000 in
theorem gX5_readStone_X5_fail : GoodIn wsX5_readStone (wsV RX5 78 RX5 yX5_fail wsX5_fail) := goodIn_app (goodIn_of _ (by decide +kernel)) ggX5_readStone_X5_fail
set_option maxRecDepth 20000 in
theorem ggX5_readStone_X5_readNumber : GoodIn wsX5_readStone wsX5_readNumber := goodIn_r _ [13, 2, 14, 8, 15, 16, 17, 18, 19, 6, 20, 3, 4, 5, 7, 9, 21, 22, 23, 48, 49, 50, 51, 52, 53, 54, 55] (by decide +kernel) (by decide +kernel)
set_option maxRecDepth 20000 in
theorem gX5_readStone_X5_readNumber : GoodIn wsX5_readStone (wsV RX5 85 RX5 yX5_readNumber wsX5_readNumber) := goodIn_app (goodIn_of _ (by decide +kernel)) ggX5_readStone_X5_readNumber
set_option maxRecDepth 20000 in
theorem ggX5_readStone_X5_readEnd : GoodIn wsX5_readStone wsX5_readEnd := goodIn_r _ [27, 2, 14, 8, 15, 16, 17, 18, 19, 6, 20, 3, 4, 5, 7, 9, 48, 49, 50, 51, 52, 53, 54, 55] (by decide +kernel) (by decide +kernel)
set_option maxRecDepth 20000 in
theorem gX5_readStone_X5_readEnd : GoodIn wsX5_readStone (wsV RX5 89 RX5 yX5_readEnd wsX5_readEnd) := goodIn_app (goodIn_of _ (by decide +kernel)) ggX5_readStone_X5_readEnd
set_option maxRecDepth 20000 in
theorem ggX5_readStone_X6_addStone : GoodIn wsX5_readStone wsX6_addStone := goodIn_r _ [32, 33, 34, 35, 36, 37, 38, 39, 40, 41, 42, 43, 44, 45, 46, 47] (by decide +kernel) (by decide +kernel)
set_option maxRecDepth 20000 in
theorem gX5_readStone_X6_addStone : GoodIn wsX5_readStone (wsV RX5 92 RX6 yX6_addStone wsX6_addStone) := goodIn_app (goodIn_of _ (by decide +kernel)) ggX5_readStone_X6_addStone
theorem dX5_readStone_0 : decode cX5_readStone 0 = .ok (.aload_n 1, 1) := by decide +kernel
theorem dX5_readStone_1 : decode cX5_readStone 1 = .ok (.getfield 82, 3) := by decide +kernel
theorem dX5_readStone_4 : decode cX5_readStone 4 = .ok (.bipush 9, 2) := by decide +kernel
theorem dX5_readStone_6 : decode cX5_readStone 6 = .ok (.if_icmp .lt 9, 3) := by decide +kernel
theorem dX5_readStone_9 : decode cX5_readStone 9 = .ok (.aload_n 0, 1) := by decide +kernel
theorem dX5_readStone_10 : decode cX5_readStone 10 = .ok (.iconst 3, 1) := by decide +kernel
theorem dX5_readStone_11 : decode cX5_readStone 11 = .ok (.invokevirtual 78, 3) := by decide +kernel
theorem dX5_readStone_14 : decode cX5_readStone 14 = .ok (.return_, 1) := by decide +kernel
theorem dX5_readStone_15 : decode cX5_readStone 15 = .ok (.aload_n 0, 1) := by decide +kernel
theorem dX5_readStone_16 : decode cX5_readStone 16 = .ok (.iconst 1, 1) := by decide +kernel
theorem dX5_readStone_17 : decode cX5_readStone 17 = .ok (.sipush 9999, 3) := by decide +kernel
theorem dX5_readStone_20 : decode cX5_readStone 20 = .ok (.invokevirtual 85, 3) := by decide +kernel
theorem dX5_readStone_23 : decode cX5_readStone 23 = .ok (.istore_n 2, 1) := by decide +kernel
theorem dX5_readStone_24 : decode cX5_readStone 24 = .ok (.aload_n 0, 1) := by decide +kernel
theorem dX5_readStone_25 : decode cX5_readStone 25 = .ok (.iconst 2, 1) := by decide +kernel
theorem dX5_readStone_26 : decode cX5_readStone 26 = .ok (.sipush 999, 3) := by decide +kernel
theorem dX5_readStone_29 : decode cX5_readStone 29 = .ok (.invokevirtual 85, 3) := by decide +kernel
theorem dX5_readStone_32 : decode cX5_readStone 32 = .ok (.istore_n 3, 1) := by decide +kernel
theorem dX5_readStone_33 : decode cX5_readStone 33 = .ok (.aload_n 0, 1) := by decide +kernel
theorem dX5_readStone_34 : decode cX5_readStone 34 = .ok (.iconst 0, 1) := by decide +kernel
theorem dX5_readStone_35 : decode cX5_readStone 35 = .ok (.sipush 9999, 3) := by decide +kernel
theorem dX5_readStone_38 : decode cX5_readStone 38 = .ok (.invokevirtual 85, 3) := by decide +kernel
theorem dX5_readStone_41 : decode cX5_readStone 41 = .ok (.istore 4, 2) := by decide +kernel
theorem dX5_readStone_43 : decode cX5_readStone 43 = .ok (.iload 4, 2) := by decide +kernel
theorem dX5_readStone_45 : decode cX5_readStone 45 = .ok (.iload_n 2, 1) := by decide +kernel
theorem dX5_readStone_46 : decode cX5_readStone 46 = .ok (.if_icmp .le 8, 3) := by decide +kernel
theorem dX5_readStone_49 : decode cX5_readStone 49 = .ok (.aload_n 0, 1) := by decide +kernel
theorem dX5_readStone_50 : decode cX5_readStone 50 = .ok (.iconst 4, 1) := by decide +kernel
theorem dX5_readStone_51 : decode cX5_readStone 51 = .ok (.invokevirtual 78, 3) := by decide +kernel
theorem dX5_readStone_54 : decode cX5_readStone 54 = .ok (.aload_n 0, 1) := by decide +kernel
theorem dX5_readStone_55 : decode cX5_readStone 55 = .ok (.invokevirtual 89, 3) := by decide +kernel
theorem dX5_readStone_58 : decode cX5_readStone 58 = .ok (.aload_n 0, 1) := by decide +kernel
theorem dX5_readStone_59 : decode cX5_readStone 59 = .ok (.getfield 25, 3) := by decide +kernel
theorem dX5_readStone_62 : decode cX5_readStone 62 = .ok (.ifCond .ne 11, 3) := by decide +kernel
theorem dX5_readStone_65 : decode cX5_readStone 65 = .ok (.aload_n 1, 1) := by decide +kernel
theorem dX5_readStone_66 : decode cX5_readStone 66 = .ok (.iload_n 2, 1) := by decide +kernel
theorem dX5_readStone_67 : decode cX5_readStone 67 = .ok (.iload_n 3, 1) := by decide +kernel
theorem dX5_readStone_68 : decode cX5_readStone 68 = .ok (.iload 4, 2) := by decide +kernel
theorem dX5_readStone_70 : decode cX5_readStone 70 = .ok (.invokevirtual 92, 3) := by decide +kernel
theorem dX5_readStone_73 : decode cX5_readStone 73 = .ok (.return_, 1) := by decide +kernel
set_option maxRecDepth 20000 in
theorem ggX5_readPerson_X5_fail : GoodIn wsX5_readPerson wsX5_fail := goodIn_r _ [7, 2, 8, 9, 109, 110, 111, 112, 113, 114, 115, 116] (by decide +kernel) (by decide +kernel)
set_option maxRecDepth 20000 in
theorem gX5_readPerson_X5_fail : GoodIn wsX5_readPerson (wsV RX5 78 RX5 yX5_fail wsX5_fail) := goodIn_app (goodIn_of _ (by decide +kernel)) ggX5_readPerson_X5_fail
set_option maxRecDepth 20000 in
theorem ggX5_readPerson_X5_readKind : GoodIn wsX5_readPerson wsX5_readKind := goodIn_r _ [13, 14, 15, 16, 6, 17, 18, 8, 19, 20, 21, 22, 23, 24, 25, 26, 27, 28, 29, 30, 31, 32, 33, 34, 35, 36, 37, 38, 39, 40, 41, 42, 43, 44, 45, 46, 47, 48, 49, 50, 51, 52, 53, 54, 55, 56, 57, 58, 59, 60, 61, 62, 63, 64, 65, 66, 67, 68, 69, 70, 71, 72, 73, 74, 75, 76, 77, 3, 4, 5, 7, 2, 9, 109, 110, 111, 112, 113, 114, 115, 116] (by decide +kernel) (by decide +kernel)
set_option maxRecDepth 20000 in
theorem gX5_readPerson_X5_readKind : GoodIn wsX5_readPerson (wsV RX5 99 RX5 yX5_readKind wsX5_readKind) := goodIn_app (goodIn_of _ (by decide +kernel)) ggX5_readPerson_X5_readKind
set_option maxRecDepth 20000 in
theorem ggX5_readPerson_X5_readNumber : GoodIn wsX5_readPerson wsX5_readNumber := goodIn_r _ [81, 2, 18, 8, 19, 20, 21, 22, 23, 6, 24, 3, 4, 5, 7, 9, 82, 83, 84, 109, 110, 111, 112, 113, 114, 115, 116] (by decide +kernel) (by decide +kernel)
set_option maxRecDepth 20000 in
theorem gX5_readPerson_X5_readNumber : GoodIn wsX5_readPerson (wsV RX5 85 RX5 yX5_readNumber wsX5_readNumber) := goodIn_app (goodIn_of _ (by decide +kernel)) ggX5_readPerson_X5_readNumber
set_option maxRecDepth 20000 in
theorem ggX5_readPerson_X5_readEnd : GoodIn wsX5_readPerson wsX5_readEnd := goodIn_r _ [88, 2, 18, 8, 19, 20, 21, 22, 23, 6, 24, 3, 4, 5, 7, 9, 109, 110, 111, 112, 113, 114, 115, 116] (by decide +kernel) (by decide +kernel)
set_option maxRecDepth 20000 in
theorem gX5_readPerson_X5_readEnd : GoodIn wsX5_readPerson (wsV RX5 89 RX5 yX5_readEnd wsX5_readEnd) := goodIn_app (goodIn_of _ (by decide +kernel)) ggX5_readPerson_X5_readEnd
set_option maxRecDepth 20000 in
theorem ggX5_readPerson_X6_addPerson : GoodIn wsX5_readPerson wsX6_addPerson := goodIn_r _ [93, 94, 95, 96, 97, 98, 99, 100, 101, 102, 103, 104, 105, 106, 107, 108] (by decide +kernel) (by decide +kernel)
set_option maxRecDepth 20000 in
theorem gX5_readPerson_X6_addPerson : GoodIn wsX5_readPerson (wsV RX5 103 RX6 yX6_addPerson wsX6_addPerson) := goodIn_app (goodIn_of _ (by decide +kernel)) ggX5_readPerson_X6_addPerson
theorem dX5_readPerson_0 : decode cX5_readPerson 0 = .ok (.aload_n 1, 1) := by decide +kernel
theorem dX5_readPerson_1 : decode cX5_readPerson 1 = .ok (.getfield 96, 3) := by decide +kernel
theorem dX5_readPerson_4 : decode cX5_readPerson 4 = .ok (.bipush 8, 2) := by decide +kernel
theorem dX5_readPerson_6 : decode cX5_readPerson 6 = .ok (.if_icmp .lt 9, 3) := by decide +kernel
theorem dX5_readPerson_9 : decode cX5_readPerson 9 = .ok (.aload_n 0, 1) := by decide +kernel
theorem dX5_readPerson_10 : decode cX5_readPerson 10 = .ok (.iconst 3, 1) := by decide +kernel
theorem dX5_readPerson_11 : decode cX5_readPerson 11 = .ok (.invokevirtual 78, 3) := by decide +kernel
theorem dX5_readPerson_14 : decode cX5_readPerson 14 = .ok (.return_, 1) := by decide +kernel
theorem dX5_readPerson_15 : decode cX5_readPerson 15 = .ok (.aload_n 0, 1) := by decide +kernel
theorem dX5_readPerson_16 : decode cX5_readPerson 16 = .ok (.invokevirtual 99, 3) := by decide +kernel
theorem dX5_readPerson_19 : decode cX5_readPerson 19 = .ok (.istore_n 2, 1) := by decide +kernel
theorem dX5_readPerson_20 : decode cX5_readPerson 20 = .ok (.aload_n 0, 1) := by decide +kernel
theorem dX5_readPerson_21 : decode cX5_readPerson 21 = .ok (.iconst 0, 1) := by decide +kernel
theorem dX5_readPerson_22 : decode cX5_readPerson 22 = .ok (.sipush 9999, 3) := by decide +kernel
theorem dX5_readPerson_25 : decode cX5_readPerson 25 = .ok (.invokevirtual 85, 3) := by decide +kernel
theorem dX5_readPerson_28 : decode cX5_readPerson 28 = .ok (.istore_n 3, 1) := by decide +kernel
theorem dX5_readPerson_29 : decode cX5_readPerson 29 = .ok (.aload_n 0, 1) := by decide +kernel
theorem dX5_readPerson_30 : decode cX5_readPerson 30 = .ok (.iconst 0, 1) := by decide +kernel
theorem dX5_readPerson_31 : decode cX5_readPerson 31 = .ok (.sipush 9999, 3) := by decide +kernel
theorem dX5_readPerson_34 : decode cX5_readPerson 34 = .ok (.invokevirtual 85, 3) := by decide +kernel
theorem dX5_readPerson_37 : decode cX5_readPerson 37 = .ok (.istore 4, 2) := by decide +kernel
theorem dX5_readPerson_39 : decode cX5_readPerson 39 = .ok (.aload_n 0, 1) := by decide +kernel
theorem dX5_readPerson_40 : decode cX5_readPerson 40 = .ok (.invokevirtual 89, 3) := by decide +kernel
theorem dX5_readPerson_43 : decode cX5_readPerson 43 = .ok (.aload_n 0, 1) := by decide +kernel
theorem dX5_readPerson_44 : decode cX5_readPerson 44 = .ok (.getfield 25, 3) := by decide +kernel
theorem dX5_readPerson_47 : decode cX5_readPerson 47 = .ok (.ifCond .ne 11, 3) := by decide +kernel
theorem dX5_readPerson_50 : decode cX5_readPerson 50 = .ok (.aload_n 1, 1) := by decide +kernel
theorem dX5_readPerson_51 : decode cX5_readPerson 51 = .ok (.iload_n 2, 1) := by decide +kernel
theorem dX5_readPerson_52 : decode cX5_readPerson 52 = .ok (.iload_n 3, 1) := by decide +kernel
theorem dX5_readPerson_53 : decode cX5_readPerson 53 = .ok (.iload 4, 2) := by decide +kernel
theorem dX5_readPerson_55 : decode cX5_readPerson 55 = .ok (.invokevirtual 103, 3) := by decide +kernel
theorem dX5_readPerson_58 : decode cX5_readPerson 58 = .ok (.return_, 1) := by decide +kernel
set_option maxRecDepth 20000 in
theorem ggX5_readFrost_X5_fail : GoodIn wsX5_readFrost wsX5_fail := goodIn_r _ [8, 9, 10, 11, 30, 31, 32, 33, 34, 35, 36, 37] (by decide +kernel) (by decide +kernel)
set_option maxRecDepth 20000 in
theorem gX5_readFrost_X5_fail : GoodIn wsX5_readFrost (wsV RX5 78 RX5 yX5_fail wsX5_fail) := goodIn_app (goodIn_of _ (by decide +kernel)) ggX5_readFrost_X5_fail
set_option maxRecDepth 20000 in
theorem ggX5_readFrost_X5_readNumber : GoodIn wsX5_readFrost wsX5_readNumber := goodIn_r _ [15, 9, 16, 10, 17, 18, 19, 20, 21, 7, 22, 4, 5, 6, 8, 11, 23, 24, 25, 30, 31, 32, 33, 34, 35, 36, 37] (by decide +kernel) (by decide +kernel)
set_option maxRecDepth 20000 in
theorem gX5_readFrost_X5_readNumber : GoodIn wsX5_readFrost (wsV RX5 85 RX5 yX5_readNumber wsX5_readNumber) := goodIn_app (goodIn_of _ (by decide +kernel)) ggX5_readFrost_X5_readNumber
set_option maxRecDepth 20000 in
theorem ggX5_readFrost_X5_readEnd : GoodIn wsX5_readFrost wsX5_readEnd := goodIn_r _ [29, 9, 16, 10, 17, 18, 19, 20, 21, 7, 22, 4, 5, 6, 8, 11, 30, 31, 32, 33, 34, 35, 36, 37] (by decide +kernel) (by decide +kernel)
set_option maxRecDepth 20000 in
theorem gX5_readFrost_X5_readEnd : GoodIn wsX5_readFrost (wsV RX5 89 RX5 yX5_readEnd wsX5_readEnd) := goodIn_app (goodIn_of _ (by decide +kernel)) ggX5_readFrost_X5_readEnd
theorem dX5_readFrost_0 : decode cX5_readFrost 0 = .ok (.aload_n 0, 1) := by decide +kernel
theorem dX5_readFrost_1 : decode cX5_readFrost 1 = .ok (.getfield 28, 3) := by decide +kernel
theorem dX5_readFrost_4 : decode cX5_readFrost 4 = .ok (.ifCond .eq 9, 3) := by decide +kernel
theorem dX5_readFrost_7 : decode cX5_readFrost 7 = .ok (.aload_n 0, 1) := by decide +kernel
theorem dX5_readFrost_8 : decode cX5_readFrost 8 = .ok (.iconst 3, 1) := by decide +kernel
theorem dX5_readFrost_9 : decode cX5_readFrost 9 = .ok (.invokevirtual 78, 3) := by decide +kernel
theorem dX5_readFrost_12 : decode cX5_readFrost 12 = .ok (.return_, 1) := by decide +kernel
theorem dX5_readFrost_13 : decode cX5_readFrost 13 = .ok (.aload_n 0, 1) := by decide +kernel
theorem dX5_readFrost_14 : decode cX5_readFrost 14 = .ok (.iconst 1, 1) := by decide +kernel
theorem dX5_readFrost_15 : decode cX5_readFrost 15 = .ok (.putfield 28, 3) := by decide +kernel
theorem dX5_readFrost_18 : decode cX5_readFrost 18 = .ok (.aload_n 1, 1) := by decide +kernel
theorem dX5_readFrost_19 : decode cX5_readFrost 19 = .ok (.aload_n 0, 1) := by decide +kernel
theorem dX5_readFrost_20 : decode cX5_readFrost 20 = .ok (.iconst 0, 1) := by decide +kernel
theorem dX5_readFrost_21 : decode cX5_readFrost 21 = .ok (.bipush 99, 2) := by decide +kernel
theorem dX5_readFrost_23 : decode cX5_readFrost 23 = .ok (.invokevirtual 85, 3) := by decide +kernel
theorem dX5_readFrost_26 : decode cX5_readFrost 26 = .ok (.putfield 106, 3) := by decide +kernel
theorem dX5_readFrost_29 : decode cX5_readFrost 29 = .ok (.aload_n 1, 1) := by decide +kernel
theorem dX5_readFrost_30 : decode cX5_readFrost 30 = .ok (.aload_n 0, 1) := by decide +kernel
theorem dX5_readFrost_31 : decode cX5_readFrost 31 = .ok (.iconst 0, 1) := by decide +kernel
theorem dX5_readFrost_32 : decode cX5_readFrost 32 = .ok (.bipush 99, 2) := by decide +kernel
theorem dX5_readFrost_34 : decode cX5_readFrost 34 = .ok (.invokevirtual 85, 3) := by decide +kernel
theorem dX5_readFrost_37 : decode cX5_readFrost 37 = .ok (.putfield 109, 3) := by decide +kernel
theorem dX5_readFrost_40 : decode cX5_readFrost 40 = .ok (.aload_n 0, 1) := by decide +kernel
theorem dX5_readFrost_41 : decode cX5_readFrost 41 = .ok (.invokevirtual 89, 3) := by decide +kernel
theorem dX5_readFrost_44 : decode cX5_readFrost 44 = .ok (.return_, 1) := by decide +kernel
set_option maxRecDepth 20000 in
theorem ggX5_readFine_X5_fail : GoodIn wsX5_readFine wsX5_fail := goodIn_r _ [7, 8, 9, 10, 29, 30, 31, 32, 33, 34, 35, 36] (by decide +kernel) (by decide +kernel)
set_option maxRecDepth 20000 in
theorem gX5_readFine_X5_fail : GoodIn wsX5_readFine (wsV RX5 78 RX5 yX5_fail wsX5_fail) := goodIn_app (goodIn_of _ (by decide +kernel)) ggX5_readFine_X5_fail
set_option maxRecDepth 20000 in
theorem ggX5_readFine_X5_readNumber : GoodIn wsX5_readFine wsX5_readNumber := goodIn_r _ [14, 8, 15, 9, 16, 17, 18, 19, 20, 6, 21, 3, 4, 5, 7, 10, 22, 23, 24, 29, 30, 31, 32, 33, 34, 35, 36] (by decide +kernel) (by decide +kernel)
set_option maxRecDepth 20000 in
theorem gX5_readFine_X5_readNumber : GoodIn wsX5_readFine (wsV RX5 85 RX5 yX5_readNumber wsX5_readNumber) := goodIn_app (goodIn_of _ (by decide +kernel)) ggX5_readFine_X5_readNumber
set_option maxRecDepth 20000 in
theorem ggX5_readFine_X5_readEnd : GoodIn wsX5_readFine wsX5_readEnd := goodIn_r _ [28, 8, 15, 9, 16, 17, 18, 19, 20, 6, 21, 3, 4, 5, 7, 10, 29, 30, 31, 32, 33, 34, 35, 36] (by decide +kernel) (by decide +kernel)
set_option maxRecDepth 20000 in
theorem gX5_readFine_X5_readEnd : GoodIn wsX5_readFine (wsV RX5 89 RX5 yX5_readEnd wsX5_readEnd) := goodIn_app (goodIn_of _ (by decide +kernel)) ggX5_readFine_X5_readEnd
theorem dX5_readFine_0 : decode cX5_readFine 0 = .ok (.aload_n 0, 1) := by decide +kernel
theorem dX5_readFine_1 : decode cX5_readFine 1 = .ok (.getfield 32, 3) := by decide +kernel
theorem dX5_readFine_4 : decode cX5_readFine 4 = .ok (.ifCond .eq 9, 3) := by decide +kernel
theorem dX5_readFine_7 : decode cX5_readFine 7 = .ok (.aload_n 0, 1) := by decide +kernel
theorem dX5_readFine_8 : decode cX5_readFine 8 = .ok (.iconst 3, 1) := by decide +kernel
theorem dX5_readFine_9 : decode cX5_readFine 9 = .ok (.invokevirtual 78, 3) := by decide +kernel
theorem dX5_readFine_12 : decode cX5_readFine 12 = .ok (.return_, 1) := by decide +kernel
theorem dX5_readFine_13 : decode cX5_readFine 13 = .ok (.aload_n 0, 1) := by decide +kernel
theorem dX5_readFine_14 : decode cX5_readFine 14 = .ok (.iconst 1, 1) := by decide +kernel
theorem dX5_readFine_15 : decode cX5_readFine 15 = .ok (.putfield 32, 3) := by decide +kernel
theorem dX5_readFine_18 : decode cX5_readFine 18 = .ok (.aload_n 1, 1) := by decide +kernel
theorem dX5_readFine_19 : decode cX5_readFine 19 = .ok (.aload_n 0, 1) := by decide +kernel
theorem dX5_readFine_20 : decode cX5_readFine 20 = .ok (.iconst 0, 1) := by decide +kernel
theorem dX5_readFine_21 : decode cX5_readFine 21 = .ok (.bipush 99, 2) := by decide +kernel
theorem dX5_readFine_23 : decode cX5_readFine 23 = .ok (.invokevirtual 85, 3) := by decide +kernel
theorem dX5_readFine_26 : decode cX5_readFine 26 = .ok (.putfield 112, 3) := by decide +kernel
theorem dX5_readFine_29 : decode cX5_readFine 29 = .ok (.aload_n 0, 1) := by decide +kernel
theorem dX5_readFine_30 : decode cX5_readFine 30 = .ok (.invokevirtual 89, 3) := by decide +kernel
theorem dX5_readFine_33 : decode cX5_readFine 33 = .ok (.return_, 1) := by decide +kernel
set_option maxRecDepth 20000 in
theorem ggX5_readKind_X5_readWord : GoodIn wsX5_readKind wsX5_readWord := goodIn_r _ [5, 6, 7, 8, 9, 10, 11, 12, 4, 13, 73, 74, 75, 76, 77, 78, 79, 80] (by decide +kernel) (by decide +kernel)
set_option maxRecDepth 20000 in
theorem gX5_readKind_X5_readWord : GoodIn wsX5_readKind (wsV RX5 51 RX5 yX5_readWord wsX5_readWord) := goodIn_app (goodIn_of _ (by decide +kernel)) ggX5_readKind_X5_readWord
set_option maxRecDepth 20000 in
theorem ggX5_readKind_X5_wordIs : GoodIn wsX5_readKind wsX5_wordIs := goodIn_r _ [17, 6, 7, 9, 18, 19, 20, 21, 22, 23, 24, 25, 26, 27, 28, 29, 30, 31, 32, 33, 34, 35, 36, 37, 38, 39, 40, 41, 42, 43, 44, 45, 46, 47, 48, 49, 50, 51, 52, 53, 54, 55, 56, 57, 58, 59, 60, 61, 62, 63, 64, 65, 66, 73, 74, 75, 76, 77, 78, 79, 80] (by decide +kernel) (by decide +kernel)
set_option maxRecDepth 20000 in
theorem gX5_readKind_X5_wordIs : GoodIn wsX5_readKind (wsV RX5 56 RX5 yX5_wordIs wsX5_wordIs) := goodIn_app (goodIn_of _ (by decide +kernel)) ggX5_readKind_X5_wordIs
set_option maxRecDepth 20000 in
theorem ggX5_readKind_X5_fail : GoodIn wsX5_readKind wsX5_fail := goodIn_r _ [70, 71, 7, 72, 73, 74, 75, 76, 77, 78, 79, 80] (by decide +kernel) (by decide +kernel)
set_option maxRecDepth 20000 in
theorem gX5_readKind_X5_fail : GoodIn wsX5_readKind (wsV RX5 78 RX5 yX5_fail wsX5_fail) := goodIn_app (goodIn_of _ (by decide +kernel)) ggX5_readKind_X5_fail
theorem dX5_readKind_0 : decode cX5_readKind 0 = .ok (.aload_n 0, 1) := by decide +kernel
theorem dX5_readKind_1 : decode cX5_readKind 1 = .ok (.invokevirtual 51, 3) := by decide +kernel
theorem dX5_readKind_4 : decode cX5_readKind 4 = .ok (.aload_n 0, 1) := by decide +kernel
theorem dX5_readKind_5 : decode cX5_readKind 5 = .ok (.ldc 114, 2) := by decide +kernel
theorem dX5_readKind_7 : decode cX5_readKind 7 = .ok (.invokevirtual 56, 3) := by decide +kernel
theorem dX5_readKind_10 : decode cX5_readKind 10 = .ok (.ifCond .eq 5, 3) := by decide +kernel
theorem dX5_readKind_13 : decode cX5_readKind 13 = .ok (.iconst 0, 1) := by decide +kernel
theorem dX5_readKind_14 : decode cX5_readKind 14 = .ok (.ireturn, 1) := by decide +kernel
theorem dX5_readKind_15 : decode cX5_readKind 15 = .ok (.aload_n 0, 1) := by decide +kernel
theorem dX5_readKind_16 : decode cX5_readKind 16 = .ok (.ldc 116, 2) := by decide +kernel
theorem dX5_readKind_18 : decode cX5_readKind 18 = .ok (.invokevirtual 56, 3) := by decide +kernel
theorem dX5_readKind_21 : decode cX5_readKind 21 = .ok (.ifCond .eq 5, 3) := by decide +kernel
theorem dX5_readKind_24 : decode cX5_readKind 24 = .ok (.iconst 1, 1) := by decide +kernel
theorem dX5_readKind_25 : decode cX5_readKind 25 = .ok (.ireturn, 1) := by decide +kernel
theorem dX5_readKind_26 : decode cX5_readKind 26 = .ok (.aload_n 0, 1) := by decide +kernel
theorem dX5_readKind_27 : decode cX5_readKind 27 = .ok (.ldc 118, 2) := by decide +kernel
theorem dX5_readKind_29 : decode cX5_readKind 29 = .ok (.invokevirtual 56, 3) := by decide +kernel
theorem dX5_readKind_32 : decode cX5_readKind 32 = .ok (.ifCond .eq 5, 3) := by decide +kernel
theorem dX5_readKind_35 : decode cX5_readKind 35 = .ok (.iconst 2, 1) := by decide +kernel
theorem dX5_readKind_36 : decode cX5_readKind 36 = .ok (.ireturn, 1) := by decide +kernel
theorem dX5_readKind_37 : decode cX5_readKind 37 = .ok (.aload_n 0, 1) := by decide +kernel
theorem dX5_readKind_38 : decode cX5_readKind 38 = .ok (.ldc 120, 2) := by decide +kernel
theorem dX5_readKind_40 : decode cX5_readKind 40 = .ok (.invokevirtual 56, 3) := by decide +kernel
theorem dX5_readKind_43 : decode cX5_readKind 43 = .ok (.ifCond .eq 5, 3) := by decide +kernel
theorem dX5_readKind_46 : decode cX5_readKind 46 = .ok (.iconst 3, 1) := by decide +kernel
theorem dX5_readKind_47 : decode cX5_readKind 47 = .ok (.ireturn, 1) := by decide +kernel
theorem dX5_readKind_48 : decode cX5_readKind 48 = .ok (.aload_n 0, 1) := by decide +kernel
theorem dX5_readKind_49 : decode cX5_readKind 49 = .ok (.ldc 122, 2) := by decide +kernel
theorem dX5_readKind_51 : decode cX5_readKind 51 = .ok (.invokevirtual 56, 3) := by decide +kernel
theorem dX5_readKind_54 : decode cX5_readKind 54 = .ok (.ifCond .eq 5, 3) := by decide +kernel
theorem dX5_readKind_57 : decode cX5_readKind 57 = .ok (.iconst 4, 1) := by decide +kernel
theorem dX5_readKind_58 : decode cX5_readKind 58 = .ok (.ireturn, 1) := by decide +kernel
theorem dX5_readKind_59 : decode cX5_readKind 59 = .ok (.aload_n 0, 1) := by decide +kernel
theorem dX5_readKind_60 : decode cX5_readKind 60 = .ok (.iconst 1, 1) := by decide +kernel
theorem dX5_readKind_61 : decode cX5_readKind 61 = .ok (.invokevirtual 78, 3) := by decide +kernel
theorem dX5_readKind_64 : decode cX5_readKind 64 = .ok (.iconst 0, 1) := by decide +kernel
theorem dX5_readKind_65 : decode cX5_readKind 65 = .ok (.ireturn, 1) := by decide +kernel
set_option maxRecDepth 20000 in
theorem ggX5_readWord_X5_skipBlanks : GoodIn wsX5_readWord wsX5_skipBlanks := goodIn_r _ [9, 1, 3, 4, 10, 11, 12, 13, 14, 15, 16, 17] (by decide +kernel) (by decide +kernel)
set_option maxRecDepth 20000 in
theorem gX5_readWord_X5_skipBlanks : GoodIn wsX5_readWord (wsV RX5 48 RX5 yX5_skipBlanks wsX5_skipBlanks) := goodIn_app (goodIn_of _ (by decide +kernel)) ggX5_readWord_X5_skipBlanks
theorem dX5_readWord_0 : decode cX5_readWord 0 = .ok (.aload_n 0, 1) := by decide +kernel
theorem dX5_readWord_1 : decode cX5_readWord 1 = .ok (.invokevirtual 48, 3) := by decide +kernel
theorem dX5_readWord_4 : decode cX5_readWord 4 = .ok (.aload_n 0, 1) := by decide +kernel
theorem dX5_readWord_5 : decode cX5_readWord 5 = .ok (.aload_n 0, 1) := by decide +kernel
theorem dX5_readWord_6 : decode cX5_readWord 6 = .ok (.getfield 22, 3) := by decide +kernel
theorem dX5_readWord_9 : decode cX5_readWord 9 = .ok (.putfield 124, 3) := by decide +kernel
theorem dX5_readWord_12 : decode cX5_readWord 12 = .ok (.aload_n 0, 1) := by decide +kernel
theorem dX5_readWord_13 : decode cX5_readWord 13 = .ok (.getfield 22, 3) := by decide +kernel
theorem dX5_readWord_16 : decode cX5_readWord 16 = .ok (.aload_n 0, 1) := by decide +kernel
theorem dX5_readWord_17 : decode cX5_readWord 17 = .ok (.getfield 19, 3) := by decide +kernel
theorem dX5_readWord_20 : decode cX5_readWord 20 = .ok (.if_icmp .ge 44, 3) := by decide +kernel
theorem dX5_readWord_23 : decode cX5_readWord 23 = .ok (.aload_n 0, 1) := by decide +kernel
theorem dX5_readWord_24 : decode cX5_readWord 24 = .ok (.getfield 9, 3) := by decide +kernel
theorem dX5_readWord_27 : decode cX5_readWord 27 = .ok (.aload_n 0, 1) := by decide +kernel
theorem dX5_readWord_28 : decode cX5_readWord 28 = .ok (.getfield 22, 3) := by decide +kernel
theorem dX5_readWord_31 : decode cX5_readWord 31 = .ok (.baload, 1) := by decide +kernel
theorem dX5_readWord_32 : decode cX5_readWord 32 = .ok (.bipush 97, 2) := by decide +kernel
theorem dX5_readWord_34 : decode cX5_readWord 34 = .ok (.if_icmp .lt 30, 3) := by decide +kernel
theorem dX5_readWord_37 : decode cX5_readWord 37 = .ok (.aload_n 0, 1) := by decide +kernel
theorem dX5_readWord_38 : decode cX5_readWord 38 = .ok (.getfield 9, 3) := by decide +kernel
theorem dX5_readWord_41 : decode cX5_readWord 41 = .ok (.aload_n 0, 1) := by decide +kernel
theorem dX5_readWord_42 : decode cX5_readWord 42 = .ok (.getfield 22, 3) := by decide +kernel
theorem dX5_readWord_45 : decode cX5_readWord 45 = .ok (.baload, 1) := by decide +kernel
theorem dX5_readWord_46 : decode cX5_readWord 46 = .ok (.bipush 122, 2) := by decide +kernel
theorem dX5_readWord_48 : decode cX5_readWord 48 = .ok (.if_icmp .gt 16, 3) := by decide +kernel
theorem dX5_readWord_51 : decode cX5_readWord 51 = .ok (.aload_n 0, 1) := by decide +kernel
theorem dX5_readWord_52 : decode cX5_readWord 52 = .ok (.dup, 1) := by decide +kernel
theorem dX5_readWord_53 : decode cX5_readWord 53 = .ok (.getfield 22, 3) := by decide +kernel
theorem dX5_readWord_56 : decode cX5_readWord 56 = .ok (.iconst 1, 1) := by decide +kernel
theorem dX5_readWord_57 : decode cX5_readWord 57 = .ok (.iadd, 1) := by decide +kernel
theorem dX5_readWord_58 : decode cX5_readWord 58 = .ok (.putfield 22, 3) := by decide +kernel
theorem dX5_readWord_61 : decode cX5_readWord 61 = .ok (.goto (-49), 3) := by decide +kernel
theorem dX5_readWord_64 : decode cX5_readWord 64 = .ok (.return_, 1) := by decide +kernel
set_option maxRecDepth 20000 in
theorem ggX5_wordIs_J0_length_8abf5 : GoodIn wsX5_wordIs wsJ0_length_8abf5 := goodIn_r _ [8, 9, 10, 11, 12, 7, 13, 14, 15] (by decide +kernel) (by decide +kernel)
set_option maxRecDepth 20000 in
theorem gX5_wordIs_J0_length_8abf5 : GoodIn wsX5_wordIs (wsV RX5 127 RJ0 yJ0_length_8abf5 wsJ0_length_8abf5) := goodIn_app (goodIn_of _ (by decide +kernel)) ggX5_wordIs_J0_length_8abf5
set_option maxRecDepth 20000 in
theorem ggX5_wordIs_J0_charAt_5068e : GoodIn wsX5_wordIs wsJ0_charAt_5068e := goodIn_r _ [19, 9, 20, 21, 22, 7, 23, 14, 15, 24, 25, 26, 27, 28, 29, 30, 31, 32, 33, 34, 35, 36, 37, 38, 39, 40, 41, 42, 43, 44, 45, 46, 47, 48, 49, 50, 51, 52] (by decide +kernel) (by decide +kernel)
set_option maxRecDepth 20000 in
theorem gX5_wordIs_J0_charAt_5068e : GoodIn wsX5_wordIs (wsV RX5 131 RJ0 yJ0_charAt_5068e wsJ0_charAt_5068e) := goodIn_app (goodIn_of _ (by decide +kernel)) ggX5_wordIs_J0_charAt_5068e
theorem dX5_wordIs_0 : decode cX5_wordIs 0 = .ok (.aload_n 0, 1) := by decide +kernel
theorem dX5_wordIs_1 : decode cX5_wordIs 1 = .ok (.getfield 22, 3) := by decide +kernel
theorem dX5_wordIs_4 : decode cX5_wordIs 4 = .ok (.aload_n 0, 1) := by decide +kernel
theorem dX5_wordIs_5 : decode cX5_wordIs 5 = .ok (.getfield 124, 3) := by decide +kernel
theorem dX5_wordIs_8 : decode cX5_wordIs 8 = .ok (.isub, 1) := by decide +kernel
theorem dX5_wordIs_9 : decode cX5_wordIs 9 = .ok (.aload_n 1, 1) := by decide +kernel
theorem dX5_wordIs_10 : decode cX5_wordIs 10 = .ok (.invokevirtual 127, 3) := by decide +kernel
theorem dX5_wordIs_13 : decode cX5_wordIs 13 = .ok (.if_icmp .eq 5, 3) := by decide +kernel
theorem dX5_wordIs_16 : decode cX5_wordIs 16 = .ok (.iconst 0, 1) := by decide +kernel
theorem dX5_wordIs_17 : decode cX5_wordIs 17 = .ok (.ireturn, 1) := by decide +kernel
theorem dX5_wordIs_18 : decode cX5_wordIs 18 = .ok (.iconst 0, 1) := by decide +kernel
theorem dX5_wordIs_19 : decode cX5_wordIs 19 = .ok (.istore_n 2, 1) := by decide +kernel
theorem dX5_wordIs_20 : decode cX5_wordIs 20 = .ok (.iload_n 2, 1) := by decide +kernel
theorem dX5_wordIs_21 : decode cX5_wordIs 21 = .ok (.aload_n 1, 1) := by decide +kernel
theorem dX5_wordIs_22 : decode cX5_wordIs 22 = .ok (.invokevirtual 127, 3) := by decide +kernel
theorem dX5_wordIs_25 : decode cX5_wordIs 25 = .ok (.if_icmp .ge 30, 3) := by decide +kernel
theorem dX5_wordIs_28 : decode cX5_wordIs 28 = .ok (.aload_n 0, 1) := by decide +kernel
theorem dX5_wordIs_29 : decode cX5_wordIs 29 = .ok (.getfield 9, 3) := by decide +kernel
theorem dX5_wordIs_32 : decode cX5_wordIs 32 = .ok (.aload_n 0, 1) := by decide +kernel
theorem dX5_wordIs_33 : decode cX5_wordIs 33 = .ok (.getfield 124, 3) := by decide +kernel
theorem dX5_wordIs_36 : decode cX5_wordIs 36 = .ok (.iload_n 2, 1) := by decide +kernel
theorem dX5_wordIs_37 : decode cX5_wordIs 37 = .ok (.iadd, 1) := by decide +kernel
theorem dX5_wordIs_38 : decode cX5_wordIs 38 = .ok (.baload, 1) := by decide +kernel
theorem dX5_wordIs_39 : decode cX5_wordIs 39 = .ok (.aload_n 1, 1) := by decide +kernel
theorem dX5_wordIs_40 : decode cX5_wordIs 40 = .ok (.iload_n 2, 1) := by decide +kernel
theorem dX5_wordIs_41 : decode cX5_wordIs 41 = .ok (.invokevirtual 131, 3) := by decide +kernel
theorem dX5_wordIs_44 : decode cX5_wordIs 44 = .ok (.if_icmp .eq 5, 3) := by decide +kernel
theorem dX5_wordIs_47 : decode cX5_wordIs 47 = .ok (.iconst 0, 1) := by decide +kernel
theorem dX5_wordIs_48 : decode cX5_wordIs 48 = .ok (.ireturn, 1) := by decide +kernel
theorem dX5_wordIs_49 : decode cX5_wordIs 49 = .ok (.iinc 2 1, 3) := by decide +kernel
theorem dX5_wordIs_52 : decode cX5_wordIs 52 = .ok (.goto (-32), 3) := by decide +kernel
theorem dX5_wordIs_55 : decode cX5_wordIs 55 = .ok (.iconst 1, 1) := by decide +kernel
theorem dX5_wordIs_56 : decode cX5_wordIs 56 = .ok (.ireturn, 1) := by decide +kernel
set_option maxRecDepth 20000 in
theorem ggX5_readNumber_X5_skipBlanks : GoodIn wsX5_readNumber wsX5_skipBlanks := goodIn_r _ [10, 2, 4, 5, 19, 20, 21, 22, 23, 24, 25, 26] (by decide +kernel) (by decide +kernel)
set_option maxRecDepth 20000 in
theorem gX5_readNumber_X5_skipBlanks : GoodIn wsX5_readNumber (wsV RX5 48 RX5 yX5_skipBlanks wsX5_skipBlanks) := goodIn_app (goodIn_of _ (by decide +kernel)) ggX5_readNumber_X5_skipBlanks
set_option maxRecDepth 20000 in
theorem ggX5_readNumber_X5_fail : GoodIn wsX5_readNumber wsX5_fail := goodIn_r _ [14, 1, 3, 15, 19, 20, 21, 22, 23, 24, 25, 26] (by decide +kernel) (by decide +kernel)
set_option maxRecDepth 20000 in
theorem gX5_readNumber_X5_fail : GoodIn wsX5_readNumber (wsV RX5 78 RX5 yX5_fail wsX5_fail) := goodIn_app (goodIn_of _ (by decide +kernel)) ggX5_readNumber_X5_fail
set_option maxRecDepth 20000 in
theorem ggX5_readNumber_X7_within : GoodIn wsX5_readNumber wsX7_within := goodIn_r _ [18] (by decide +kernel) (by decide +kernel)
set_option maxRecDepth 20000 in
theorem gX5_readNumber_X7_within_n135 : GoodIn wsX5_readNumber (wsX7_within) := ggX5_readNumber_X7_within
theorem dX5_readNumber_0 : decode cX5_readNumber 0 = .ok (.aload_n 0, 1) := by decide +kernel
theorem dX5_readNumber_1 : decode cX5_readNumber 1 = .ok (.getfield 25, 3) := by decide +kernel
theorem dX5_readNumber_4 : decode cX5_readNumber 4 = .ok (.ifCond .eq 5, 3) := by decide +kernel
theorem dX5_readNumber_7 : decode cX5_readNumber 7 = .ok (.iload_n 1, 1) := by decide +kernel
theorem dX5_readNumber_8 : decode cX5_readNumber 8 = .ok (.ireturn, 1) := by decide +kernel
theorem dX5_readNumber_9 : decode cX5_readNumber 9 = .ok (.aload_n 0, 1) := by decide +kernel
theorem dX5_readNumber_10 : decode cX5_readNumber 10 = .ok (.invokevirtual 48, 3) := by decide +kernel
theorem dX5_readNumber_13 : decode cX5_readNumber 13 = .ok (.aload_n 0, 1) := by decide +kernel
theorem dX5_readNumber_14 : decode cX5_readNumber 14 = .ok (.aload_n 0, 1) := by decide +kernel
theorem dX5_readNumber_15 : decode cX5_readNumber 15 = .ok (.getfield 22, 3) := by decide +kernel
theorem dX5_readNumber_18 : decode cX5_readNumber 18 = .ok (.putfield 124, 3) := by decide +kernel
theorem dX5_readNumber_21 : decode cX5_readNumber 21 = .ok (.iconst 0, 1) := by decide +kernel
theorem dX5_readNumber_22 : decode cX5_readNumber 22 = .ok (.istore_n 3, 1) := by decide +kernel
theorem dX5_readNumber_23 : decode cX5_readNumber 23 = .ok (.aload_n 0, 1) := by decide +kernel
theorem dX5_readNumber_24 : decode cX5_readNumber 24 = .ok (.getfield 22, 3) := by decide +kernel
theorem dX5_readNumber_27 : decode cX5_readNumber 27 = .ok (.aload_n 0, 1) := by decide +kernel
theorem dX5_readNumber_28 : decode cX5_readNumber 28 = .ok (.getfield 19, 3) := by decide +kernel
theorem dX5_readNumber_31 : decode cX5_readNumber 31 = .ok (.if_icmp .ge 62, 3) := by decide +kernel
theorem dX5_readNumber_34 : decode cX5_readNumber 34 = .ok (.aload_n 0, 1) := by decide +kernel
theorem dX5_readNumber_35 : decode cX5_readNumber 35 = .ok (.getfield 9, 3) := by decide +kernel
theorem dX5_readNumber_38 : decode cX5_readNumber 38 = .ok (.aload_n 0, 1) := by decide +kernel
theorem dX5_readNumber_39 : decode cX5_readNumber 39 = .ok (.getfield 22, 3) := by decide +kernel
theorem dX5_readNumber_42 : decode cX5_readNumber 42 = .ok (.baload, 1) := by decide +kernel
theorem dX5_readNumber_43 : decode cX5_readNumber 43 = .ok (.bipush 48, 2) := by decide +kernel
theorem dX5_readNumber_45 : decode cX5_readNumber 45 = .ok (.if_icmp .lt 48, 3) := by decide +kernel
theorem dX5_readNumber_48 : decode cX5_readNumber 48 = .ok (.aload_n 0, 1) := by decide +kernel
theorem dX5_readNumber_49 : decode cX5_readNumber 49 = .ok (.getfield 9, 3) := by decide +kernel
theorem dX5_readNumber_52 : decode cX5_readNumber 52 = .ok (.aload_n 0, 1) := by decide +kernel
theorem dX5_readNumber_53 : decode cX5_readNumber 53 = .ok (.getfield 22, 3) := by decide +kernel
theorem dX5_readNumber_56 : decode cX5_readNumber 56 = .ok (.baload, 1) := by decide +kernel
theorem dX5_readNumber_57 : decode cX5_readNumber 57 = .ok (.bipush 57, 2) := by decide +kernel
theorem dX5_readNumber_59 : decode cX5_readNumber 59 = .ok (.if_icmp .gt 34, 3) := by decide +kernel
theorem dX5_readNumber_62 : decode cX5_readNumber 62 = .ok (.bipush 10, 2) := by decide +kernel
theorem dX5_readNumber_64 : decode cX5_readNumber 64 = .ok (.iload_n 3, 1) := by decide +kernel
theorem dX5_readNumber_65 : decode cX5_readNumber 65 = .ok (.imul, 1) := by decide +kernel
theorem dX5_readNumber_66 : decode cX5_readNumber 66 = .ok (.aload_n 0, 1) := by decide +kernel
theorem dX5_readNumber_67 : decode cX5_readNumber 67 = .ok (.getfield 9, 3) := by decide +kernel
theorem dX5_readNumber_70 : decode cX5_readNumber 70 = .ok (.aload_n 0, 1) := by decide +kernel
theorem dX5_readNumber_71 : decode cX5_readNumber 71 = .ok (.getfield 22, 3) := by decide +kernel
theorem dX5_readNumber_74 : decode cX5_readNumber 74 = .ok (.baload, 1) := by decide +kernel
theorem dX5_readNumber_75 : decode cX5_readNumber 75 = .ok (.iadd, 1) := by decide +kernel
theorem dX5_readNumber_76 : decode cX5_readNumber 76 = .ok (.bipush 48, 2) := by decide +kernel
theorem dX5_readNumber_78 : decode cX5_readNumber 78 = .ok (.isub, 1) := by decide +kernel
theorem dX5_readNumber_79 : decode cX5_readNumber 79 = .ok (.istore_n 3, 1) := by decide +kernel
theorem dX5_readNumber_80 : decode cX5_readNumber 80 = .ok (.aload_n 0, 1) := by decide +kernel
theorem dX5_readNumber_81 : decode cX5_readNumber 81 = .ok (.dup, 1) := by decide +kernel
theorem dX5_readNumber_82 : decode cX5_readNumber 82 = .ok (.getfield 22, 3) := by decide +kernel
theorem dX5_readNumber_85 : decode cX5_readNumber 85 = .ok (.iconst 1, 1) := by decide +kernel
theorem dX5_readNumber_86 : decode cX5_readNumber 86 = .ok (.iadd, 1) := by decide +kernel
theorem dX5_readNumber_87 : decode cX5_readNumber 87 = .ok (.putfield 22, 3) := by decide +kernel
theorem dX5_readNumber_90 : decode cX5_readNumber 90 = .ok (.goto (-67), 3) := by decide +kernel
theorem dX5_readNumber_93 : decode cX5_readNumber 93 = .ok (.aload_n 0, 1) := by decide +kernel
theorem dX5_readNumber_94 : decode cX5_readNumber 94 = .ok (.getfield 22, 3) := by decide +kernel
theorem dX5_readNumber_97 : decode cX5_readNumber 97 = .ok (.aload_n 0, 1) := by decide +kernel
theorem dX5_readNumber_98 : decode cX5_readNumber 98 = .ok (.getfield 124, 3) := by decide +kernel
theorem dX5_readNumber_101 : decode cX5_readNumber 101 = .ok (.if_icmp .ne 11, 3) := by decide +kernel
theorem dX5_readNumber_104 : decode cX5_readNumber 104 = .ok (.aload_n 0, 1) := by decide +kernel
theorem dX5_readNumber_105 : decode cX5_readNumber 105 = .ok (.iconst 1, 1) := by decide +kernel
theorem dX5_readNumber_106 : decode cX5_readNumber 106 = .ok (.invokevirtual 78, 3) := by decide +kernel
theorem dX5_readNumber_109 : decode cX5_readNumber 109 = .ok (.goto 30, 3) := by decide +kernel
theorem dX5_readNumber_112 : decode cX5_readNumber 112 = .ok (.aload_n 0, 1) := by decide +kernel
theorem dX5_readNumber_113 : decode cX5_readNumber 113 = .ok (.getfield 22, 3) := by decide +kernel
theorem dX5_readNumber_116 : decode cX5_readNumber 116 = .ok (.aload_n 0, 1) := by decide +kernel
theorem dX5_readNumber_117 : decode cX5_readNumber 117 = .ok (.getfield 124, 3) := by decide +kernel
theorem dX5_readNumber_120 : decode cX5_readNumber 120 = .ok (.isub, 1) := by decide +kernel
theorem dX5_readNumber_121 : decode cX5_readNumber 121 = .ok (.iconst 4, 1) := by decide +kernel
theorem dX5_readNumber_122 : decode cX5_readNumber 122 = .ok (.if_icmp .gt 12, 3) := by decide +kernel
theorem dX5_readNumber_125 : decode cX5_readNumber 125 = .ok (.iload_n 3, 1) := by decide +kernel
theorem dX5_readNumber_126 : decode cX5_readNumber 126 = .ok (.iload_n 1, 1) := by decide +kernel
theorem dX5_readNumber_127 : decode cX5_readNumber 127 = .ok (.iload_n 2, 1) := by decide +kernel
theorem dX5_readNumber_128 : decode cX5_readNumber 128 = .ok (.invokestatic 135, 3) := by decide +kernel
theorem dX5_readNumber_131 : decode cX5_readNumber 131 = .ok (.ifCond .ne 8, 3) := by decide +kernel
theorem dX5_readNumber_134 : decode cX5_readNumber 134 = .ok (.aload_n 0, 1) := by decide +kernel
theorem dX5_readNumber_135 : decode cX5_readNumber 135 = .ok (.iconst 2, 1) := by decide +kernel
theorem dX5_readNumber_136 : decode cX5_readNumber 136 = .ok (.invokevirtual 78, 3) := by decide +kernel
theorem dX5_readNumber_139 : decode cX5_readNumber 139 = .ok (.iload_n 3, 1) := by decide +kernel
theorem dX5_readNumber_140 : decode cX5_readNumber 140 = .ok (.ireturn, 1) := by decide +kernel
set_option maxRecDepth 20000 in
theorem ggX5_readEnd_X5_skipBlanks : GoodIn wsX5_readEnd wsX5_skipBlanks := goodIn_r _ [10, 2, 4, 5, 16, 17, 18, 19, 20, 21, 22, 23] (by decide +kernel) (by decide +kernel)
set_option maxRecDepth 20000 in
theorem gX5_readEnd_X5_skipBlanks : GoodIn wsX5_readEnd (wsV RX5 48 RX5 yX5_skipBlanks wsX5_skipBlanks) := goodIn_app (goodIn_of _ (by decide +kernel)) ggX5_readEnd_X5_skipBlanks
set_option maxRecDepth 20000 in
theorem ggX5_readEnd_X5_fail : GoodIn wsX5_readEnd wsX5_fail := goodIn_r _ [14, 1, 3, 15, 16, 17, 18, 19, 20, 21, 22, 23] (by decide +kernel) (by decide +kernel)
set_option maxRecDepth 20000 in
theorem gX5_readEnd_X5_fail : GoodIn wsX5_readEnd (wsV RX5 78 RX5 yX5_fail wsX5_fail) := goodIn_app (goodIn_of _ (by decide +kernel)) ggX5_readEnd_X5_fail
theorem dX5_readEnd_0 : decode cX5_readEnd 0 = .ok (.aload_n 0, 1) := by decide +kernel
theorem dX5_readEnd_1 : decode cX5_readEnd 1 = .ok (.getfield 25, 3) := by decide +kernel
theorem dX5_readEnd_4 : decode cX5_readEnd 4 = .ok (.ifCond .eq 4, 3) := by decide +kernel
theorem dX5_readEnd_7 : decode cX5_readEnd 7 = .ok (.return_, 1) := by decide +kernel
theorem dX5_readEnd_8 : decode cX5_readEnd 8 = .ok (.aload_n 0, 1) := by decide +kernel
theorem dX5_readEnd_9 : decode cX5_readEnd 9 = .ok (.invokevirtual 48, 3) := by decide +kernel
theorem dX5_readEnd_12 : decode cX5_readEnd 12 = .ok (.aload_n 0, 1) := by decide +kernel
theorem dX5_readEnd_13 : decode cX5_readEnd 13 = .ok (.aload_n 0, 1) := by decide +kernel
theorem dX5_readEnd_14 : decode cX5_readEnd 14 = .ok (.getfield 22, 3) := by decide +kernel
theorem dX5_readEnd_17 : decode cX5_readEnd 17 = .ok (.putfield 124, 3) := by decide +kernel
theorem dX5_readEnd_20 : decode cX5_readEnd 20 = .ok (.aload_n 0, 1) := by decide +kernel
theorem dX5_readEnd_21 : decode cX5_readEnd 21 = .ok (.getfield 22, 3) := by decide +kernel
theorem dX5_readEnd_24 : decode cX5_readEnd 24 = .ok (.aload_n 0, 1) := by decide +kernel
theorem dX5_readEnd_25 : decode cX5_readEnd 25 = .ok (.getfield 19, 3) := by decide +kernel
theorem dX5_readEnd_28 : decode cX5_readEnd 28 = .ok (.if_icmp .ge 30, 3) := by decide +kernel
theorem dX5_readEnd_31 : decode cX5_readEnd 31 = .ok (.aload_n 0, 1) := by decide +kernel
theorem dX5_readEnd_32 : decode cX5_readEnd 32 = .ok (.getfield 9, 3) := by decide +kernel
theorem dX5_readEnd_35 : decode cX5_readEnd 35 = .ok (.aload_n 0, 1) := by decide +kernel
theorem dX5_readEnd_36 : decode cX5_readEnd 36 = .ok (.getfield 22, 3) := by decide +kernel
theorem dX5_readEnd_39 : decode cX5_readEnd 39 = .ok (.baload, 1) := by decide +kernel
theorem dX5_readEnd_40 : decode cX5_readEnd 40 = .ok (.bipush 59, 2) := by decide +kernel
theorem dX5_readEnd_42 : decode cX5_readEnd 42 = .ok (.if_icmp .ne 16, 3) := by decide +kernel
theorem dX5_readEnd_45 : decode cX5_readEnd 45 = .ok (.aload_n 0, 1) := by decide +kernel
theorem dX5_readEnd_46 : decode cX5_readEnd 46 = .ok (.dup, 1) := by decide +kernel
theorem dX5_readEnd_47 : decode cX5_readEnd 47 = .ok (.getfield 22, 3) := by decide +kernel
theorem dX5_readEnd_50 : decode cX5_readEnd 50 = .ok (.iconst 1, 1) := by decide +kernel
theorem dX5_readEnd_51 : decode cX5_readEnd 51 = .ok (.iadd, 1) := by decide +kernel
theorem dX5_readEnd_52 : decode cX5_readEnd 52 = .ok (.putfield 22, 3) := by decide +kernel
theorem dX5_readEnd_55 : decode cX5_readEnd 55 = .ok (.goto 8, 3) := by decide +kernel
theorem dX5_readEnd_58 : decode cX5_readEnd 58 = .ok (.aload_n 0, 1) := by decide +kernel
theorem dX5_readEnd_59 : decode cX5_readEnd 59 = .ok (.iconst 1, 1) := by decide +kernel
theorem dX5_readEnd_60 : decode cX5_readEnd 60 = .ok (.invokevirtual 78, 3) := by decide +kernel
theorem dX5_readEnd_63 : decode cX5_readEnd 63 = .ok (.return_, 1) := by decide +kernel
theorem dX5_skipBlanks_0 : decode cX5_skipBlanks 0 = .ok (.aload_n 0, 1) := by decide +kernel
theorem dX5_skipBlanks_1 : decode cX5_skipBlanks 1 = .ok (.getfield 22, 3) := by decide +kernel
theorem dX5_skipBlanks_4 : decode cX5_skipBlanks 4 = .ok (.aload_n 0, 1) := by decide +kernel
theorem dX5_skipBlanks_5 : decode cX5_skipBlanks 5 = .ok (.getfield 19, 3) := by decide +kernel
theorem dX5_skipBlanks_8 : decode cX5_skipBlanks 8 = .ok (.if_icmp .ge 30, 3) := by decide +kernel
theorem dX5_skipBlanks_11 : decode cX5_skipBlanks 11 = .ok (.aload_n 0, 1) := by decide +kernel
theorem dX5_skipBlanks_12 : decode cX5_skipBlanks 12 = .ok (.getfield 9, 3) := by decide +kernel
theorem dX5_skipBlanks_15 : decode cX5_skipBlanks 15 = .ok (.aload_n 0, 1) := by decide +kernel
theorem dX5_skipBlanks_16 : decode cX5_skipBlanks 16 = .ok (.getfield 22, 3) := by decide +kernel
theorem dX5_skipBlanks_19 : decode cX5_skipBlanks 19 = .ok (.baload, 1) := by decide +kernel
theorem dX5_skipBlanks_20 : decode cX5_skipBlanks 20 = .ok (.bipush 32, 2) := by decide +kernel
theorem dX5_skipBlanks_22 : decode cX5_skipBlanks 22 = .ok (.if_icmp .ne 16, 3) := by decide +kernel
theorem dX5_skipBlanks_25 : decode cX5_skipBlanks 25 = .ok (.aload_n 0, 1) := by decide +kernel
theorem dX5_skipBlanks_26 : decode cX5_skipBlanks 26 = .ok (.dup, 1) := by decide +kernel
theorem dX5_skipBlanks_27 : decode cX5_skipBlanks 27 = .ok (.getfield 22, 3) := by decide +kernel
theorem dX5_skipBlanks_30 : decode cX5_skipBlanks 30 = .ok (.iconst 1, 1) := by decide +kernel
theorem dX5_skipBlanks_31 : decode cX5_skipBlanks 31 = .ok (.iadd, 1) := by decide +kernel
theorem dX5_skipBlanks_32 : decode cX5_skipBlanks 32 = .ok (.putfield 22, 3) := by decide +kernel
theorem dX5_skipBlanks_35 : decode cX5_skipBlanks 35 = .ok (.goto (-35), 3) := by decide +kernel
theorem dX5_skipBlanks_38 : decode cX5_skipBlanks 38 = .ok (.return_, 1) := by decide +kernel
theorem dX5_fail_0 : decode cX5_fail 0 = .ok (.aload_n 0, 1) := by decide +kernel
theorem dX5_fail_1 : decode cX5_fail 1 = .ok (.getfield 25, 3) := by decide +kernel
theorem dX5_fail_4 : decode cX5_fail 4 = .ok (.ifCond .ne 16, 3) := by decide +kernel
theorem dX5_fail_7 : decode cX5_fail 7 = .ok (.aload_n 0, 1) := by decide +kernel
theorem dX5_fail_8 : decode cX5_fail 8 = .ok (.iload_n 1, 1) := by decide +kernel
theorem dX5_fail_9 : decode cX5_fail 9 = .ok (.putfield 25, 3) := by decide +kernel
theorem dX5_fail_12 : decode cX5_fail 12 = .ok (.aload_n 0, 1) := by decide +kernel
theorem dX5_fail_13 : decode cX5_fail 13 = .ok (.aload_n 0, 1) := by decide +kernel
theorem dX5_fail_14 : decode cX5_fail 14 = .ok (.getfield 124, 3) := by decide +kernel
theorem dX5_fail_17 : decode cX5_fail 17 = .ok (.putfield 15, 3) := by decide +kernel
theorem dX5_fail_20 : decode cX5_fail 20 = .ok (.return_, 1) := by decide +kernel
theorem dX6_init_0 : decode cX6_init 0 = .ok (.aload_n 0, 1) := by decide +kernel
theorem dX6_init_1 : decode cX6_init 1 = .ok (.invokespecial 3, 3) := by decide +kernel
theorem dX6_init_4 : decode cX6_init 4 = .ok (.aload_n 0, 1) := by decide +kernel
theorem dX6_init_5 : decode cX6_init 5 = .ok (.iconst 3, 1) := by decide +kernel
theorem dX6_init_6 : decode cX6_init 6 = .ok (.putfield 9, 3) := by decide +kernel
theorem dX6_init_9 : decode cX6_init 9 = .ok (.aload_n 0, 1) := by decide +kernel
theorem dX6_init_10 : decode cX6_init 10 = .ok (.iconst 1, 1) := by decide +kernel
theorem dX6_init_11 : decode cX6_init 11 = .ok (.putfield 15, 3) := by decide +kernel
theorem dX6_init_14 : decode cX6_init 14 = .ok (.aload_n 0, 1) := by decide +kernel
theorem dX6_init_15 : decode cX6_init 15 = .ok (.bipush 9, 2) := by decide +kernel
theorem dX6_init_17 : decode cX6_init 17 = .ok (.newarray .int, 2) := by decide +kernel
theorem dX6_init_19 : decode cX6_init 19 = .ok (.putfield 18, 3) := by decide +kernel
theorem dX6_init_22 : decode cX6_init 22 = .ok (.aload_n 0, 1) := by decide +kernel
theorem dX6_init_23 : decode cX6_init 23 = .ok (.bipush 9, 2) := by decide +kernel
theorem dX6_init_25 : decode cX6_init 25 = .ok (.newarray .int, 2) := by decide +kernel
theorem dX6_init_27 : decode cX6_init 27 = .ok (.putfield 22, 3) := by decide +kernel
theorem dX6_init_30 : decode cX6_init 30 = .ok (.aload_n 0, 1) := by decide +kernel
theorem dX6_init_31 : decode cX6_init 31 = .ok (.bipush 9, 2) := by decide +kernel
theorem dX6_init_33 : decode cX6_init 33 = .ok (.newarray .int, 2) := by decide +kernel
theorem dX6_init_35 : decode cX6_init 35 = .ok (.putfield 25, 3) := by decide +kernel
theorem dX6_init_38 : decode cX6_init 38 = .ok (.aload_n 0, 1) := by decide +kernel
theorem dX6_init_39 : decode cX6_init 39 = .ok (.bipush 8, 2) := by decide +kernel
theorem dX6_init_41 : decode cX6_init 41 = .ok (.newarray .int, 2) := by decide +kernel
theorem dX6_init_43 : decode cX6_init 43 = .ok (.putfield 28, 3) := by decide +kernel
theorem dX6_init_46 : decode cX6_init 46 = .ok (.aload_n 0, 1) := by decide +kernel
theorem dX6_init_47 : decode cX6_init 47 = .ok (.bipush 8, 2) := by decide +kernel
theorem dX6_init_49 : decode cX6_init 49 = .ok (.newarray .int, 2) := by decide +kernel
theorem dX6_init_51 : decode cX6_init 51 = .ok (.putfield 31, 3) := by decide +kernel
theorem dX6_init_54 : decode cX6_init 54 = .ok (.aload_n 0, 1) := by decide +kernel
theorem dX6_init_55 : decode cX6_init 55 = .ok (.bipush 8, 2) := by decide +kernel
theorem dX6_init_57 : decode cX6_init 57 = .ok (.newarray .int, 2) := by decide +kernel
theorem dX6_init_59 : decode cX6_init 59 = .ok (.putfield 34, 3) := by decide +kernel
theorem dX6_init_62 : decode cX6_init 62 = .ok (.return_, 1) := by decide +kernel
theorem dX6_clear_0 : decode cX6_clear 0 = .ok (.aload_n 0, 1) := by decide +kernel
theorem dX6_clear_1 : decode cX6_clear 1 = .ok (.iconst 0, 1) := by decide +kernel
theorem dX6_clear_2 : decode cX6_clear 2 = .ok (.putfield 37, 3) := by decide +kernel
theorem dX6_clear_5 : decode cX6_clear 5 = .ok (.aload_n 0, 1) := by decide +kernel
theorem dX6_clear_6 : decode cX6_clear 6 = .ok (.iconst 0, 1) := by decide +kernel
theorem dX6_clear_7 : decode cX6_clear 7 = .ok (.putfield 40, 3) := by decide +kernel
theorem dX6_clear_10 : decode cX6_clear 10 = .ok (.aload_n 0, 1) := by decide +kernel
theorem dX6_clear_11 : decode cX6_clear 11 = .ok (.iconst 3, 1) := by decide +kernel
theorem dX6_clear_12 : decode cX6_clear 12 = .ok (.putfield 9, 3) := by decide +kernel
theorem dX6_clear_15 : decode cX6_clear 15 = .ok (.aload_n 0, 1) := by decide +kernel
theorem dX6_clear_16 : decode cX6_clear 16 = .ok (.iconst 1, 1) := by decide +kernel
theorem dX6_clear_17 : decode cX6_clear 17 = .ok (.putfield 15, 3) := by decide +kernel
theorem dX6_clear_20 : decode cX6_clear 20 = .ok (.aload_n 0, 1) := by decide +kernel
theorem dX6_clear_21 : decode cX6_clear 21 = .ok (.iconst 0, 1) := by decide +kernel
theorem dX6_clear_22 : decode cX6_clear 22 = .ok (.putfield 43, 3) := by decide +kernel
theorem dX6_clear_25 : decode cX6_clear 25 = .ok (.return_, 1) := by decide +kernel
theorem dX6_addStone_0 : decode cX6_addStone 0 = .ok (.aload_n 0, 1) := by decide +kernel
theorem dX6_addStone_1 : decode cX6_addStone 1 = .ok (.getfield 37, 3) := by decide +kernel
theorem dX6_addStone_4 : decode cX6_addStone 4 = .ok (.bipush 9, 2) := by decide +kernel
theorem dX6_addStone_6 : decode cX6_addStone 6 = .ok (.if_icmp .ge 43, 3) := by decide +kernel
theorem dX6_addStone_9 : decode cX6_addStone 9 = .ok (.aload_n 0, 1) := by decide +kernel
theorem dX6_addStone_10 : decode cX6_addStone 10 = .ok (.getfield 18, 3) := by decide +kernel
theorem dX6_addStone_13 : decode cX6_addStone 13 = .ok (.aload_n 0, 1) := by decide +kernel
theorem dX6_addStone_14 : decode cX6_addStone 14 = .ok (.getfield 37, 3) := by decide +kernel
theorem dX6_addStone_17 : decode cX6_addStone 17 = .ok (.iload_n 1, 1) := by decide +kernel
theorem dX6_addStone_18 : decode cX6_addStone 18 = .ok (.iastore, 1) := by decide +kernel
theorem dX6_addStone_19 : decode cX6_addStone 19 = .ok (.aload_n 0, 1) := by decide +kernel
theorem dX6_addStone_20 : decode cX6_addStone 20 = .ok (.getfield 22, 3) := by decide +kernel
theorem dX6_addStone_23 : decode cX6_addStone 23 = .ok (.aload_n 0, 1) := by decide +kernel
theorem dX6_addStone_24 : decode cX6_addStone 24 = .ok (.getfield 37, 3) := by decide +kernel
theorem dX6_addStone_27 : decode cX6_addStone 27 = .ok (.iload_n 2, 1) := by decide +kernel
theorem dX6_addStone_28 : decode cX6_addStone 28 = .ok (.iastore, 1) := by decide +kernel
theorem dX6_addStone_29 : decode cX6_addStone 29 = .ok (.aload_n 0, 1) := by decide +kernel
theorem dX6_addStone_30 : decode cX6_addStone 30 = .ok (.getfield 25, 3) := by decide +kernel
theorem dX6_addStone_33 : decode cX6_addStone 33 = .ok (.aload_n 0, 1) := by decide +kernel
theorem dX6_addStone_34 : decode cX6_addStone 34 = .ok (.getfield 37, 3) := by decide +kernel
theorem dX6_addStone_37 : decode cX6_addStone 37 = .ok (.iload_n 3, 1) := by decide +kernel
theorem dX6_addStone_38 : decode cX6_addStone 38 = .ok (.iastore, 1) := by decide +kernel
theorem dX6_addStone_39 : decode cX6_addStone 39 = .ok (.aload_n 0, 1) := by decide +kernel
theorem dX6_addStone_40 : decode cX6_addStone 40 = .ok (.dup, 1) := by decide +kernel
theorem dX6_addStone_41 : decode cX6_addStone 41 = .ok (.getfield 37, 3) := by decide +kernel
theorem dX6_addStone_44 : decode cX6_addStone 44 = .ok (.iconst 1, 1) := by decide +kernel
theorem dX6_addStone_45 : decode cX6_addStone 45 = .ok (.iadd, 1) := by decide +kernel
theorem dX6_addStone_46 : decode cX6_addStone 46 = .ok (.putfield 37, 3) := by decide +kernel
theorem dX6_addStone_49 : decode cX6_addStone 49 = .ok (.return_, 1) := by decide +kernel
theorem dX6_addPerson_0 : decode cX6_addPerson 0 = .ok (.aload_n 0, 1) := by decide +kernel
theorem dX6_addPerson_1 : decode cX6_addPerson 1 = .ok (.getfield 40, 3) := by decide +kernel
theorem dX6_addPerson_4 : decode cX6_addPerson 4 = .ok (.bipush 8, 2) := by decide +kernel
theorem dX6_addPerson_6 : decode cX6_addPerson 6 = .ok (.if_icmp .ge 43, 3) := by decide +kernel
theorem dX6_addPerson_9 : decode cX6_addPerson 9 = .ok (.aload_n 0, 1) := by decide +kernel
theorem dX6_addPerson_10 : decode cX6_addPerson 10 = .ok (.getfield 28, 3) := by decide +kernel
theorem dX6_addPerson_13 : decode cX6_addPerson 13 = .ok (.aload_n 0, 1) := by decide +kernel
theorem dX6_addPerson_14 : decode cX6_addPerson 14 = .ok (.getfield 40, 3) := by decide +kernel
theorem dX6_addPerson_17 : decode cX6_addPerson 17 = .ok (.iload_n 1, 1) := by decide +kernel
theorem dX6_addPerson_18 : decode cX6_addPerson 18 = .ok (.iastore, 1) := by decide +kernel
theorem dX6_addPerson_19 : decode cX6_addPerson 19 = .ok (.aload_n 0, 1) := by decide +kernel
theorem dX6_addPerson_20 : decode cX6_addPerson 20 = .ok (.getfield 34, 3) := by decide +kernel
theorem dX6_addPerson_23 : decode cX6_addPerson 23 = .ok (.aload_n 0, 1) := by decide +kernel
theorem dX6_addPerson_24 : decode cX6_addPerson 24 = .ok (.getfield 40, 3) := by decide +kernel
theorem dX6_addPerson_27 : decode cX6_addPerson 27 = .ok (.iload_n 2, 1) := by decide +kernel
theorem dX6_addPerson_28 : decode cX6_addPerson 28 = .ok (.iastore, 1) := by decide +kernel
theorem dX6_addPerson_29 : decode cX6_addPerson 29 = .ok (.aload_n 0, 1) := by decide +kernel
theorem dX6_addPerson_30 : decode cX6_addPerson 30 = .ok (.getfield 31, 3) := by decide +kernel
theorem dX6_addPerson_33 : decode cX6_addPerson 33 = .ok (.aload_n 0, 1) := by decide +kernel
theorem dX6_addPerson_34 : decode cX6_addPerson 34 = .ok (.getfield 40, 3) := by decide +kernel
theorem dX6_addPerson_37 : decode cX6_addPerson 37 = .ok (.iload_n 3, 1) := by decide +kernel
theorem dX6_addPerson_38 : decode cX6_addPerson 38 = .ok (.iastore, 1) := by decide +kernel
theorem dX6_addPerson_39 : decode cX6_addPerson 39 = .ok (.aload_n 0, 1) := by decide +kernel
theorem dX6_addPerson_40 : decode cX6_addPerson 40 = .ok (.dup, 1) := by decide +kernel
theorem dX6_addPerson_41 : decode cX6_addPerson 41 = .ok (.getfield 40, 3) := by decide +kernel
theorem dX6_addPerson_44 : decode cX6_addPerson 44 = .ok (.iconst 1, 1) := by decide +kernel
theorem dX6_addPerson_45 : decode cX6_addPerson 45 = .ok (.iadd, 1) := by decide +kernel
theorem dX6_addPerson_46 : decode cX6_addPerson 46 = .ok (.putfield 40, 3) := by decide +kernel
theorem dX6_addPerson_49 : decode cX6_addPerson 49 = .ok (.return_, 1) := by decide +kernel
theorem dX6_hasStone_0 : decode cX6_hasStone 0 = .ok (.iload_n 1, 1) := by decide +kernel
theorem dX6_hasStone_1 : decode cX6_hasStone 1 = .ok (.ifCond .lt 15, 3) := by decide +kernel
theorem dX6_hasStone_4 : decode cX6_hasStone 4 = .ok (.iload_n 1, 1) := by decide +kernel
theorem dX6_hasStone_5 : decode cX6_hasStone 5 = .ok (.aload_n 0, 1) := by decide +kernel
theorem dX6_hasStone_6 : decode cX6_hasStone 6 = .ok (.getfield 37, 3) := by decide +kernel
theorem dX6_hasStone_9 : decode cX6_hasStone 9 = .ok (.if_icmp .ge 7, 3) := by decide +kernel
theorem dX6_hasStone_12 : decode cX6_hasStone 12 = .ok (.iconst 1, 1) := by decide +kernel
theorem dX6_hasStone_13 : decode cX6_hasStone 13 = .ok (.goto 4, 3) := by decide +kernel
theorem dX6_hasStone_16 : decode cX6_hasStone 16 = .ok (.iconst 0, 1) := by decide +kernel
theorem dX6_hasStone_17 : decode cX6_hasStone 17 = .ok (.ireturn, 1) := by decide +kernel
theorem dX6_hasPerson_0 : decode cX6_hasPerson 0 = .ok (.iload_n 1, 1) := by decide +kernel
theorem dX6_hasPerson_1 : decode cX6_hasPerson 1 = .ok (.ifCond .lt 15, 3) := by decide +kernel
theorem dX6_hasPerson_4 : decode cX6_hasPerson 4 = .ok (.iload_n 1, 1) := by decide +kernel
theorem dX6_hasPerson_5 : decode cX6_hasPerson 5 = .ok (.aload_n 0, 1) := by decide +kernel
theorem dX6_hasPerson_6 : decode cX6_hasPerson 6 = .ok (.getfield 40, 3) := by decide +kernel
theorem dX6_hasPerson_9 : decode cX6_hasPerson 9 = .ok (.if_icmp .ge 7, 3) := by decide +kernel
theorem dX6_hasPerson_12 : decode cX6_hasPerson 12 = .ok (.iconst 1, 1) := by decide +kernel
theorem dX6_hasPerson_13 : decode cX6_hasPerson 13 = .ok (.goto 4, 3) := by decide +kernel
theorem dX6_hasPerson_16 : decode cX6_hasPerson 16 = .ok (.iconst 0, 1) := by decide +kernel
theorem dX6_hasPerson_17 : decode cX6_hasPerson 17 = .ok (.ireturn, 1) := by decide +kernel
set_option maxRecDepth 20000 in
theorem ggX6_flow_X6_resistance : GoodIn wsX6_flow wsX6_resistance := goodIn_r _ [13] (by decide +kernel) (by decide +kernel)
set_option maxRecDepth 20000 in
theorem gX6_flow_X6_resistance : GoodIn wsX6_flow (va_wsS RX6 46 yX6_resistance wsX6_resistance) := goodIn_app (goodIn_of _ (by decide +kernel)) ggX6_flow_X6_resistance
theorem dX6_flow_0 : decode cX6_flow 0 = .ok (.iload_n 3, 1) := by decide +kernel
theorem dX6_flow_1 : decode cX6_flow 1 = .ok (.iload 4, 2) := by decide +kernel
theorem dX6_flow_3 : decode cX6_flow 3 = .ok (.isub, 1) := by decide +kernel
theorem dX6_flow_4 : decode cX6_flow 4 = .ok (.aload_n 0, 1) := by decide +kernel
theorem dX6_flow_5 : decode cX6_flow 5 = .ok (.getfield 28, 3) := by decide +kernel
theorem dX6_flow_8 : decode cX6_flow 8 = .ok (.iload_n 1, 1) := by decide +kernel
theorem dX6_flow_9 : decode cX6_flow 9 = .ok (.iaload, 1) := by decide +kernel
theorem dX6_flow_10 : decode cX6_flow 10 = .ok (.invokestatic 46, 3) := by decide +kernel
theorem dX6_flow_13 : decode cX6_flow 13 = .ok (.idiv, 1) := by decide +kernel
theorem dX6_flow_14 : decode cX6_flow 14 = .ok (.istore 5, 2) := by decide +kernel
theorem dX6_flow_16 : decode cX6_flow 16 = .ok (.aload_n 0, 1) := by decide +kernel
theorem dX6_flow_17 : decode cX6_flow 17 = .ok (.getfield 28, 3) := by decide +kernel
theorem dX6_flow_20 : decode cX6_flow 20 = .ok (.iload_n 1, 1) := by decide +kernel
theorem dX6_flow_21 : decode cX6_flow 21 = .ok (.iaload, 1) := by decide +kernel
theorem dX6_flow_22 : decode cX6_flow 22 = .ok (.iconst 2, 1) := by decide +kernel
theorem dX6_flow_23 : decode cX6_flow 23 = .ok (.if_icmp .ne 11, 3) := by decide +kernel
theorem dX6_flow_26 : decode cX6_flow 26 = .ok (.iload 5, 2) := by decide +kernel
theorem dX6_flow_28 : decode cX6_flow 28 = .ok (.iconst 0, 1) := by decide +kernel
theorem dX6_flow_29 : decode cX6_flow 29 = .ok (.invokestatic 50, 3) := by decide +kernel
theorem dX6_flow_32 : decode cX6_flow 32 = .ok (.istore 5, 2) := by decide +kernel
theorem dX6_flow_34 : decode cX6_flow 34 = .ok (.aload_n 0, 1) := by decide +kernel
theorem dX6_flow_35 : decode cX6_flow 35 = .ok (.getfield 28, 3) := by decide +kernel
theorem dX6_flow_38 : decode cX6_flow 38 = .ok (.iload_n 1, 1) := by decide +kernel
theorem dX6_flow_39 : decode cX6_flow 39 = .ok (.iaload, 1) := by decide +kernel
theorem dX6_flow_40 : decode cX6_flow 40 = .ok (.iconst 3, 1) := by decide +kernel
theorem dX6_flow_41 : decode cX6_flow 41 = .ok (.if_icmp .ne 11, 3) := by decide +kernel
theorem dX6_flow_44 : decode cX6_flow 44 = .ok (.iload 5, 2) := by decide +kernel
theorem dX6_flow_46 : decode cX6_flow 46 = .ok (.iconst 0, 1) := by decide +kernel
theorem dX6_flow_47 : decode cX6_flow 47 = .ok (.invokestatic 56, 3) := by decide +kernel
theorem dX6_flow_50 : decode cX6_flow 50 = .ok (.istore 5, 2) := by decide +kernel
theorem dX6_flow_52 : decode cX6_flow 52 = .ok (.iload 5, 2) := by decide +kernel
theorem dX6_flow_54 : decode cX6_flow 54 = .ok (.aload_n 0, 1) := by decide +kernel
theorem dX6_flow_55 : decode cX6_flow 55 = .ok (.getfield 18, 3) := by decide +kernel
theorem dX6_flow_58 : decode cX6_flow 58 = .ok (.iload_n 2, 1) := by decide +kernel
theorem dX6_flow_59 : decode cX6_flow 59 = .ok (.iaload, 1) := by decide +kernel
theorem dX6_flow_60 : decode cX6_flow 60 = .ok (.iload 4, 2) := by decide +kernel
theorem dX6_flow_62 : decode cX6_flow 62 = .ok (.isub, 1) := by decide +kernel
theorem dX6_flow_63 : decode cX6_flow 63 = .ok (.invokestatic 50, 3) := by decide +kernel
theorem dX6_flow_66 : decode cX6_flow 66 = .ok (.ireturn, 1) := by decide +kernel
theorem dX6_resistance_0 : decode cX6_resistance 0 = .ok (.iload_n 0, 1) := by decide +kernel
theorem dX6_resistance_1 : decode cX6_resistance 1 = .ok (.lookupswitch 31 #[(1, 27), (3, 29)], 27) := by decide +kernel
theorem dX6_resistance_28 : decode cX6_resistance 28 = .ok (.iconst 4, 1) := by decide +kernel
theorem dX6_resistance_29 : decode cX6_resistance 29 = .ok (.ireturn, 1) := by decide +kernel
theorem dX6_resistance_30 : decode cX6_resistance 30 = .ok (.iconst 2, 1) := by decide +kernel
theorem dX6_resistance_31 : decode cX6_resistance 31 = .ok (.ireturn, 1) := by decide +kernel
theorem dX6_resistance_32 : decode cX6_resistance 32 = .ok (.bipush 8, 2) := by decide +kernel
theorem dX6_resistance_34 : decode cX6_resistance 34 = .ok (.ireturn, 1) := by decide +kernel
theorem dX6_frostOn_0 : decode cX6_frostOn 0 = .ok (.aload_n 0, 1) := by decide +kernel
theorem dX6_frostOn_1 : decode cX6_frostOn 1 = .ok (.getfield 28, 3) := by decide +kernel
theorem dX6_frostOn_4 : decode cX6_frostOn 4 = .ok (.iload_n 1, 1) := by decide +kernel
theorem dX6_frostOn_5 : decode cX6_frostOn 5 = .ok (.iaload, 1) := by decide +kernel
theorem dX6_frostOn_6 : decode cX6_frostOn 6 = .ok (.iconst 4, 1) := by decide +kernel
theorem dX6_frostOn_7 : decode cX6_frostOn 7 = .ok (.if_icmp .ne 10, 3) := by decide +kernel
theorem dX6_frostOn_10 : decode cX6_frostOn 10 = .ok (.aload_n 0, 1) := by decide +kernel
theorem dX6_frostOn_11 : decode cX6_frostOn 11 = .ok (.getfield 9, 3) := by decide +kernel
theorem dX6_frostOn_14 : decode cX6_frostOn 14 = .ok (.iconst 2, 1) := by decide +kernel
theorem dX6_frostOn_15 : decode cX6_frostOn 15 = .ok (.idiv, 1) := by decide +kernel
theorem dX6_frostOn_16 : decode cX6_frostOn 16 = .ok (.ireturn, 1) := by decide +kernel
theorem dX6_frostOn_17 : decode cX6_frostOn 17 = .ok (.iload_n 2, 1) := by decide +kernel
theorem dX6_frostOn_18 : decode cX6_frostOn 18 = .ok (.ifCond .eq 10, 3) := by decide +kernel
theorem dX6_frostOn_21 : decode cX6_frostOn 21 = .ok (.aload_n 0, 1) := by decide +kernel
theorem dX6_frostOn_22 : decode cX6_frostOn 22 = .ok (.getfield 15, 3) := by decide +kernel
theorem dX6_frostOn_25 : decode cX6_frostOn 25 = .ok (.goto 7, 3) := by decide +kernel
theorem dX6_frostOn_28 : decode cX6_frostOn 28 = .ok (.aload_n 0, 1) := by decide +kernel
theorem dX6_frostOn_29 : decode cX6_frostOn 29 = .ok (.getfield 9, 3) := by decide +kernel
theorem dX6_frostOn_32 : decode cX6_frostOn 32 = .ok (.ireturn, 1) := by decide +kernel
theorem dX6_lossOfEmpty_0 : decode cX6_lossOfEmpty 0 = .ok (.iload_n 2, 1) := by decide +kernel
theorem dX6_lossOfEmpty_1 : decode cX6_lossOfEmpty 1 = .ok (.ifCond .le 12, 3) := by decide +kernel
theorem dX6_lossOfEmpty_4 : decode cX6_lossOfEmpty 4 = .ok (.aload_n 0, 1) := by decide +kernel
theorem dX6_lossOfEmpty_5 : decode cX6_lossOfEmpty 5 = .ok (.getfield 22, 3) := by decide +kernel
theorem dX6_lossOfEmpty_8 : decode cX6_lossOfEmpty 8 = .ok (.iload_n 1, 1) := by decide +kernel
theorem dX6_lossOfEmpty_9 : decode cX6_lossOfEmpty 9 = .ok (.iaload, 1) := by decide +kernel
theorem dX6_lossOfEmpty_10 : decode cX6_lossOfEmpty 10 = .ok (.ifCond .gt 5, 3) := by decide +kernel
theorem dX6_lossOfEmpty_13 : decode cX6_lossOfEmpty 13 = .ok (.iconst 0, 1) := by decide +kernel
theorem dX6_lossOfEmpty_14 : decode cX6_lossOfEmpty 14 = .ok (.ireturn, 1) := by decide +kernel
theorem dX6_lossOfEmpty_15 : decode cX6_lossOfEmpty 15 = .ok (.iconst 1, 1) := by decide +kernel
theorem dX6_lossOfEmpty_16 : decode cX6_lossOfEmpty 16 = .ok (.iload_n 2, 1) := by decide +kernel
theorem dX6_lossOfEmpty_17 : decode cX6_lossOfEmpty 17 = .ok (.aload_n 0, 1) := by decide +kernel
theorem dX6_lossOfEmpty_18 : decode cX6_lossOfEmpty 18 = .ok (.getfield 22, 3) := by decide +kernel
theorem dX6_lossOfEmpty_21 : decode cX6_lossOfEmpty 21 = .ok (.iload_n 1, 1) := by decide +kernel
theorem dX6_lossOfEmpty_22 : decode cX6_lossOfEmpty 22 = .ok (.iaload, 1) := by decide +kernel
theorem dX6_lossOfEmpty_23 : decode cX6_lossOfEmpty 23 = .ok (.idiv, 1) := by decide +kernel
theorem dX6_lossOfEmpty_24 : decode cX6_lossOfEmpty 24 = .ok (.invokestatic 56, 3) := by decide +kernel
theorem dX6_lossOfEmpty_27 : decode cX6_lossOfEmpty 27 = .ok (.ireturn, 1) := by decide +kernel
set_option maxRecDepth 20000 in
theorem ggX6_heatLeft_X6_lossOfEmpty : GoodIn wsX6_heatLeft wsX6_lossOfEmpty := goodIn_r _ [5, 6, 7, 8, 9, 10, 11, 12, 13, 14, 15, 16, 17, 18, 19, 20, 21] (by decide +kernel) (by decide +kernel)
set_option maxRecDepth 20000 in
theorem gX6_heatLeft_X6_lossOfEmpty : GoodIn wsX6_heatLeft (wsV RX6 59 RX6 yX6_lossOfEmpty wsX6_lossOfEmpty) := goodIn_app (goodIn_of _ (by decide +kernel)) ggX6_heatLeft_X6_lossOfEmpty
theorem dX6_heatLeft_0 : decode cX6_heatLeft 0 = .ok (.iload_n 2, 1) := by decide +kernel
theorem dX6_heatLeft_1 : decode cX6_heatLeft 1 = .ok (.istore 4, 2) := by decide +kernel
theorem dX6_heatLeft_3 : decode cX6_heatLeft 3 = .ok (.iconst 0, 1) := by decide +kernel
theorem dX6_heatLeft_4 : decode cX6_heatLeft 4 = .ok (.istore 5, 2) := by decide +kernel
theorem dX6_heatLeft_6 : decode cX6_heatLeft 6 = .ok (.iload 5, 2) := by decide +kernel
theorem dX6_heatLeft_8 : decode cX6_heatLeft 8 = .ok (.iload_n 3, 1) := by decide +kernel
theorem dX6_heatLeft_9 : decode cX6_heatLeft 9 = .ok (.if_icmp .ge 21, 3) := by decide +kernel
theorem dX6_heatLeft_12 : decode cX6_heatLeft 12 = .ok (.iload 4, 2) := by decide +kernel
theorem dX6_heatLeft_14 : decode cX6_heatLeft 14 = .ok (.aload_n 0, 1) := by decide +kernel
theorem dX6_heatLeft_15 : decode cX6_heatLeft 15 = .ok (.iload_n 1, 1) := by decide +kernel
theorem dX6_heatLeft_16 : decode cX6_heatLeft 16 = .ok (.iload 4, 2) := by decide +kernel
theorem dX6_heatLeft_18 : decode cX6_heatLeft 18 = .ok (.invokevirtual 59, 3) := by decide +kernel
theorem dX6_heatLeft_21 : decode cX6_heatLeft 21 = .ok (.isub, 1) := by decide +kernel
theorem dX6_heatLeft_22 : decode cX6_heatLeft 22 = .ok (.istore 4, 2) := by decide +kernel
theorem dX6_heatLeft_24 : decode cX6_heatLeft 24 = .ok (.iinc 5 1, 3) := by decide +kernel
theorem dX6_heatLeft_27 : decode cX6_heatLeft 27 = .ok (.goto (-21), 3) := by decide +kernel
theorem dX6_heatLeft_30 : decode cX6_heatLeft 30 = .ok (.iload 4, 2) := by decide +kernel
theorem dX6_heatLeft_32 : decode cX6_heatLeft 32 = .ok (.ireturn, 1) := by decide +kernel
set_option maxRecDepth 20000 in
theorem ggX7_init_X5_init : GoodIn wsX7_init wsX5_init := goodIn_r _ [36, 37, 2, 3, 38, 39, 40, 88, 89, 90, 91, 92, 93, 94, 95] (by decide +kernel) (by decide +kernel)
set_option maxRecDepth 20000 in
theorem gX7_init_X5_init_n9 : GoodIn wsX7_init (wsX5_init) := ggX7_init_X5_init
set_option maxRecDepth 20000 in
theorem ggX7_init_X6_init : GoodIn wsX7_init wsX6_init := goodIn_r _ [42, 43, 2, 3, 44, 45, 46, 47, 48, 49, 50, 51, 52, 107, 108, 109, 110, 111, 112, 113, 114, 115, 116, 117] (by decide +kernel) (by decide +kernel)
set_option maxRecDepth 20000 in
theorem gX7_init_X6_init_n18 : GoodIn wsX7_init (wsX6_init) := ggX7_init_X6_init
set_option maxRecDepth 20000 in
theorem ggX7_init_X1_init : GoodIn wsX7_init wsX1_init := goodIn_r _ [54, 55, 2, 3, 46, 56, 57, 58, 59, 60, 61, 62, 118, 119, 120, 121, 122, 123, 124, 125, 126, 127] (by decide +kernel) (by decide +kernel)
set_option maxRecDepth 20000 in
theorem gX7_init_X1_init_n28 : GoodIn wsX7_init (wsX1_init) := ggX7_init_X1_init
set_option maxRecDepth 20000 in
theorem ggX7_init_X0_init : GoodIn wsX7_init wsX0_init := goodIn_r _ [64, 65, 2, 3, 46, 66, 67, 128, 129, 130] (by decide +kernel) (by decide +kernel)
set_option maxRecDepth 20000 in
theorem gX7_init_X0_init_n42 : GoodIn wsX7_init (wsX0_init) := ggX7_init_X0_init
set_option maxRecDepth 20000 in
theorem ggX7_init_X4_init : GoodIn wsX7_init wsX4_init := goodIn_r _ [69, 70, 2, 3] (by decide +kernel) (by decide +kernel)
set_option maxRecDepth 20000 in
theorem gX7_init_X4_init_n49 : GoodIn wsX7_init (wsX4_init) := ggX7_init_X4_init
set_option maxRecDepth 20000 in
theorem ggX7_init_X3_init : GoodIn wsX7_init wsX3_init := goodIn_r _ [72, 73, 2, 3, 74, 24, 25, 75, 46, 76, 77, 78, 79, 68, 69, 70, 131, 132, 133, 134, 135, 136, 137, 138, 139] (by decide +kernel) (by decide +kernel)
set_option maxRecDepth 20000 in
theorem gX7_init_X3_init_n56 : GoodIn wsX7_init (wsX3_init) := ggX7_init_X3_init
set_option maxRecDepth 20000 in
theorem ggX7_init_X2_init : GoodIn wsX7_init wsX2_init := goodIn_r _ [81, 82, 2, 3, 83, 24, 25, 84, 46, 85, 86, 87, 68, 69, 70, 131, 132, 140, 141, 142, 143, 144, 145, 146] (by decide +kernel) (by decide +kernel)
set_option maxRecDepth 20000 in
theorem gX7_init_X2_init_n63 : GoodIn wsX7_init (wsX2_init) := ggX7_init_X2_init
theorem dX7_init_0 : decode cX7_init 0 = .ok (.aload_n 0, 1) := by decide +kernel
theorem dX7_init_1 : decode cX7_init 1 = .ok (.invokespecial 1, 3) := by decide +kernel
theorem dX7_init_4 : decode cX7_init 4 = .ok (.aload_n 0, 1) := by decide +kernel
theorem dX7_init_5 : decode cX7_init 5 = .ok (.new 7, 3) := by decide +kernel
theorem dX7_init_8 : decode cX7_init 8 = .ok (.dup, 1) := by decide +kernel
theorem dX7_init_9 : decode cX7_init 9 = .ok (.invokespecial 9, 3) := by decide +kernel
theorem dX7_init_12 : decode cX7_init 12 = .ok (.putfield 10, 3) := by decide +kernel
theorem dX7_init_15 : decode cX7_init 15 = .ok (.aload_n 0, 1) := by decide +kernel
theorem dX7_init_16 : decode cX7_init 16 = .ok (.new 16, 3) := by decide +kernel
theorem dX7_init_19 : decode cX7_init 19 = .ok (.dup, 1) := by decide +kernel
theorem dX7_init_20 : decode cX7_init 20 = .ok (.invokespecial 18, 3) := by decide +kernel
theorem dX7_init_23 : decode cX7_init 23 = .ok (.putfield 19, 3) := by decide +kernel
theorem dX7_init_26 : decode cX7_init 26 = .ok (.aload_n 0, 1) := by decide +kernel
theorem dX7_init_27 : decode cX7_init 27 = .ok (.new 16, 3) := by decide +kernel
theorem dX7_init_30 : decode cX7_init 30 = .ok (.dup, 1) := by decide +kernel
theorem dX7_init_31 : decode cX7_init 31 = .ok (.invokespecial 18, 3) := by decide +kernel
theorem dX7_init_34 : decode cX7_init 34 = .ok (.putfield 23, 3) := by decide +kernel
theorem dX7_init_37 : decode cX7_init 37 = .ok (.aload_n 0, 1) := by decide +kernel
theorem dX7_init_38 : decode cX7_init 38 = .ok (.new 26, 3) := by decide +kernel
theorem dX7_init_41 : decode cX7_init 41 = .ok (.dup, 1) := by decide +kernel
theorem dX7_init_42 : decode cX7_init 42 = .ok (.invokespecial 28, 3) := by decide +kernel
theorem dX7_init_45 : decode cX7_init 45 = .ok (.putfield 29, 3) := by decide +kernel
theorem dX7_init_48 : decode cX7_init 48 = .ok (.aload_n 0, 1) := by decide +kernel
theorem dX7_init_49 : decode cX7_init 49 = .ok (.new 26, 3) := by decide +kernel
theorem dX7_init_52 : decode cX7_init 52 = .ok (.dup, 1) := by decide +kernel
theorem dX7_init_53 : decode cX7_init 53 = .ok (.invokespecial 28, 3) := by decide +kernel
theorem dX7_init_56 : decode cX7_init 56 = .ok (.putfield 33, 3) := by decide +kernel
theorem dX7_init_59 : decode cX7_init 59 = .ok (.aload_n 0, 1) := by decide +kernel
theorem dX7_init_60 : decode cX7_init 60 = .ok (.iconst 2, 1) := by decide +kernel
theorem dX7_init_61 : decode cX7_init 61 = .ok (.anewarray 26, 3) := by decide +kernel
theorem dX7_init_64 : decode cX7_init 64 = .ok (.dup, 1) := by decide +kernel
theorem dX7_init_65 : decode cX7_init 65 = .ok (.iconst 0, 1) := by decide +kernel
theorem dX7_init_66 : decode cX7_init 66 = .ok (.new 26, 3) := by decide +kernel
theorem dX7_init_69 : decode cX7_init 69 = .ok (.dup, 1) := by decide +kernel
theorem dX7_init_70 : decode cX7_init 70 = .ok (.invokespecial 28, 3) := by decide +kernel
theorem dX7_init_73 : decode cX7_init 73 = .ok (.aastore, 1) := by decide +kernel
theorem dX7_init_74 : decode cX7_init 74 = .ok (.dup, 1) := by decide +kernel
theorem dX7_init_75 : decode cX7_init 75 = .ok (.iconst 1, 1) := by decide +kernel
theorem dX7_init_76 : decode cX7_init 76 = .ok (.new 26, 3) := by decide +kernel
theorem dX7_init_79 : decode cX7_init 79 = .ok (.dup, 1) := by decide +kernel
theorem dX7_init_80 : decode cX7_init 80 = .ok (.invokespecial 28, 3) := by decide +kernel
theorem dX7_init_83 : decode cX7_init 83 = .ok (.aastore, 1) := by decide +kernel
theorem dX7_init_84 : decode cX7_init 84 = .ok (.putfield 36, 3) := by decide +kernel
theorem dX7_init_87 : decode cX7_init 87 = .ok (.aload_n 0, 1) := by decide +kernel
theorem dX7_init_88 : decode cX7_init 88 = .ok (.new 40, 3) := by decide +kernel
theorem dX7_init_91 : decode cX7_init 91 = .ok (.dup, 1) := by decide +kernel
theorem dX7_init_92 : decode cX7_init 92 = .ok (.invokespecial 42, 3) := by decide +kernel
theorem dX7_init_95 : decode cX7_init 95 = .ok (.putfield 43, 3) := by decide +kernel
theorem dX7_init_98 : decode cX7_init 98 = .ok (.aload_n 0, 1) := by decide +kernel
theorem dX7_init_99 : decode cX7_init 99 = .ok (.new 47, 3) := by decide +kernel
theorem dX7_init_102 : decode cX7_init 102 = .ok (.dup, 1) := by decide +kernel
theorem dX7_init_103 : decode cX7_init 103 = .ok (.invokespecial 49, 3) := by decide +kernel
theorem dX7_init_106 : decode cX7_init 106 = .ok (.putfield 50, 3) := by decide +kernel
theorem dX7_init_109 : decode cX7_init 109 = .ok (.aload_n 0, 1) := by decide +kernel
theorem dX7_init_110 : decode cX7_init 110 = .ok (.new 54, 3) := by decide +kernel
theorem dX7_init_113 : decode cX7_init 113 = .ok (.dup, 1) := by decide +kernel
theorem dX7_init_114 : decode cX7_init 114 = .ok (.invokespecial 56, 3) := by decide +kernel
theorem dX7_init_117 : decode cX7_init 117 = .ok (.putfield 57, 3) := by decide +kernel
theorem dX7_init_120 : decode cX7_init 120 = .ok (.aload_n 0, 1) := by decide +kernel
theorem dX7_init_121 : decode cX7_init 121 = .ok (.new 61, 3) := by decide +kernel
theorem dX7_init_124 : decode cX7_init 124 = .ok (.dup, 1) := by decide +kernel
theorem dX7_init_125 : decode cX7_init 125 = .ok (.invokespecial 63, 3) := by decide +kernel
theorem dX7_init_128 : decode cX7_init 128 = .ok (.putfield 64, 3) := by decide +kernel
theorem dX7_init_131 : decode cX7_init 131 = .ok (.return_, 1) := by decide +kernel
set_option maxRecDepth 20000 in
theorem ggX7_feed_X7_within : GoodIn wsX7_feed wsX7_within := goodIn_r _ [8] (by decide +kernel) (by decide +kernel)
set_option maxRecDepth 20000 in
theorem gX7_feed_X7_within : GoodIn wsX7_feed (va_wsS RX7 68 yX7_within wsX7_within) := goodIn_app (goodIn_of _ (by decide +kernel)) ggX7_feed_X7_within
set_option maxRecDepth 20000 in
theorem ggX7_feed_X5_hasRoomFor : GoodIn wsX7_feed wsX5_hasRoomFor := goodIn_r _ [13, 14, 31, 32, 33, 34, 35, 36, 37, 38] (by decide +kernel) (by decide +kernel)
set_option maxRecDepth 20000 in
theorem gX7_feed_X5_hasRoomFor : GoodIn wsX7_feed (wsV RX7 73 RX5 yX5_hasRoomFor wsX5_hasRoomFor) := goodIn_app (goodIn_of _ (by decide +kernel)) ggX7_feed_X5_hasRoomFor
set_option maxRecDepth 20000 in
theorem ggX7_feed_X5_append : GoodIn wsX7_feed wsX5_append := goodIn_r _ [18, 14, 19, 31, 32, 33, 34, 35, 36, 37, 38] (by decide +kernel) (by decide +kernel)
set_option maxRecDepth 20000 in
theorem gX7_feed_X5_append : GoodIn wsX7_feed (wsV RX7 78 RX5 yX5_append wsX5_append) := goodIn_app (goodIn_of _ (by decide +kernel)) ggX7_feed_X5_append
theorem dX7_feed_0 : decode cX7_feed 0 = .ok (.iload_n 1, 1) := by decide +kernel
theorem dX7_feed_1 : decode cX7_feed 1 = .ok (.iconst 1, 1) := by decide +kernel
theorem dX7_feed_2 : decode cX7_feed 2 = .ok (.bipush 8, 2) := by decide +kernel
theorem dX7_feed_4 : decode cX7_feed 4 = .ok (.invokestatic 68, 3) := by decide +kernel
theorem dX7_feed_7 : decode cX7_feed 7 = .ok (.ifCond .ne 6, 3) := by decide +kernel
theorem dX7_feed_10 : decode cX7_feed 10 = .ok (.ldc 72, 2) := by decide +kernel
theorem dX7_feed_12 : decode cX7_feed 12 = .ok (.ireturn, 1) := by decide +kernel
theorem dX7_feed_13 : decode cX7_feed 13 = .ok (.aload_n 0, 1) := by decide +kernel
theorem dX7_feed_14 : decode cX7_feed 14 = .ok (.getfield 10, 3) := by decide +kernel
theorem dX7_feed_17 : decode cX7_feed 17 = .ok (.iload_n 1, 1) := by decide +kernel
theorem dX7_feed_18 : decode cX7_feed 18 = .ok (.invokevirtual 73, 3) := by decide +kernel
theorem dX7_feed_21 : decode cX7_feed 21 = .ok (.ifCond .ne 6, 3) := by decide +kernel
theorem dX7_feed_24 : decode cX7_feed 24 = .ok (.ldc 77, 2) := by decide +kernel
theorem dX7_feed_26 : decode cX7_feed 26 = .ok (.ireturn, 1) := by decide +kernel
theorem dX7_feed_27 : decode cX7_feed 27 = .ok (.aload_n 0, 1) := by decide +kernel
theorem dX7_feed_28 : decode cX7_feed 28 = .ok (.getfield 10, 3) := by decide +kernel
theorem dX7_feed_31 : decode cX7_feed 31 = .ok (.iload_n 1, 1) := by decide +kernel
theorem dX7_feed_32 : decode cX7_feed 32 = .ok (.lload_n 2, 1) := by decide +kernel
theorem dX7_feed_33 : decode cX7_feed 33 = .ok (.invokevirtual 78, 3) := by decide +kernel
theorem dX7_feed_36 : decode cX7_feed 36 = .ok (.aload_n 0, 1) := by decide +kernel
theorem dX7_feed_37 : decode cX7_feed 37 = .ok (.getfield 10, 3) := by decide +kernel
theorem dX7_feed_40 : decode cX7_feed 40 = .ok (.getfield 82, 3) := by decide +kernel
theorem dX7_feed_43 : decode cX7_feed 43 = .ok (.ireturn, 1) := by decide +kernel
set_option maxRecDepth 20000 in
theorem ggX7_town_X5_readInto : GoodIn wsX7_town wsX5_readInto := goodIn_r _ [13, 14, 15, 16, 17, 18, 19, 20, 21, 22, 23, 24, 25, 26, 27, 28, 29, 30, 31, 32, 12, 33, 34, 35, 36, 37, 38, 39, 40, 41, 42, 43, 44, 45, 46, 47, 48, 49, 50, 51, 52, 53, 54, 55, 56, 57, 58, 59, 60, 61, 62, 63, 64, 65, 66, 67, 68, 69, 70, 71, 72, 73, 74, 75, 76, 77, 78, 79, 80, 81, 82, 83, 84, 85, 86, 87, 88, 89, 90, 91, 92, 93, 94, 95, 96, 97, 98, 99, 100, 101, 102, 103, 104, 105, 106, 107, 108, 109, 110, 111, 112, 113, 114, 115, 116, 117, 118, 119, 120, 121, 122, 123, 124, 125, 126, 127, 128, 129, 130, 131, 132, 133, 134, 135, 136, 137, 138, 139, 140, 141, 142, 143, 144, 145, 146, 147, 148, 149, 150, 151, 152, 153, 154, 198, 199, 200, 201, 202, 203, 204, 205, 187, 188, 189, 190, 191, 192, 193, 194, 195, 196, 197] (by decide +kernel) (by decide +kernel)
set_option maxRecDepth 20000 in
theorem gX7_town_X5_readInto : GoodIn wsX7_town (wsV RX7 86 RX5 yX5_readInto wsX5_readInto) := goodIn_app (goodIn_of _ (by decide +kernel)) ggX7_town_X5_readInto
set_option maxRecDepth 20000 in
theorem ggX7_town_X1_begin : GoodIn wsX7_town wsX1_begin := goodIn_r _ [159, 160, 161, 162, 163, 164, 165, 166, 167, 168, 169, 170, 171, 172, 206, 207, 208, 209, 210, 211, 212, 213, 214, 215, 187, 188, 189, 190, 191, 192, 193, 194, 195, 196, 197] (by decide +kernel) (by decide +kernel)
set_option maxRecDepth 20000 in
theorem gX7_town_X1_begin : GoodIn wsX7_town (wsV RX7 90 RX1 yX1_begin wsX1_begin) := goodIn_app (goodIn_of _ (by decide +kernel)) ggX7_town_X1_begin
theorem dX7_town_0 : decode cX7_town 0 = .ok (.aload_n 0, 1) := by decide +kernel
theorem dX7_town_1 : decode cX7_town 1 = .ok (.getfield 10, 3) := by decide +kernel
theorem dX7_town_4 : decode cX7_town 4 = .ok (.aload_n 0, 1) := by decide +kernel
theorem dX7_town_5 : decode cX7_town 5 = .ok (.getfield 23, 3) := by decide +kernel
theorem dX7_town_8 : decode cX7_town 8 = .ok (.invokevirtual 86, 3) := by decide +kernel
theorem dX7_town_11 : decode cX7_town 11 = .ok (.istore_n 1, 1) := by decide +kernel
theorem dX7_town_12 : decode cX7_town 12 = .ok (.iload_n 1, 1) := by decide +kernel
theorem dX7_town_13 : decode cX7_town 13 = .ok (.ifCond .eq 8, 3) := by decide +kernel
theorem dX7_town_16 : decode cX7_town 16 = .ok (.bipush (-10), 2) := by decide +kernel
theorem dX7_town_18 : decode cX7_town 18 = .ok (.iload_n 1, 1) := by decide +kernel
theorem dX7_town_19 : decode cX7_town 19 = .ok (.isub, 1) := by decide +kernel
theorem dX7_town_20 : decode cX7_town 20 = .ok (.ireturn, 1) := by decide +kernel
theorem dX7_town_21 : decode cX7_town 21 = .ok (.aload_n 0, 1) := by decide +kernel
theorem dX7_town_22 : decode cX7_town 22 = .ok (.getfield 19, 3) := by decide +kernel
theorem dX7_town_25 : decode cX7_town 25 = .ok (.astore_n 2, 1) := by decide +kernel
theorem dX7_town_26 : decode cX7_town 26 = .ok (.aload_n 0, 1) := by decide +kernel
theorem dX7_town_27 : decode cX7_town 27 = .ok (.aload_n 0, 1) := by decide +kernel
theorem dX7_town_28 : decode cX7_town 28 = .ok (.getfield 23, 3) := by decide +kernel
theorem dX7_town_31 : decode cX7_town 31 = .ok (.putfield 19, 3) := by decide +kernel
theorem dX7_town_34 : decode cX7_town 34 = .ok (.aload_n 0, 1) := by decide +kernel
theorem dX7_town_35 : decode cX7_town 35 = .ok (.aload_n 2, 1) := by decide +kernel
theorem dX7_town_36 : decode cX7_town 36 = .ok (.putfield 23, 3) := by decide +kernel
theorem dX7_town_39 : decode cX7_town 39 = .ok (.aload_n 0, 1) := by decide +kernel
theorem dX7_town_40 : decode cX7_town 40 = .ok (.getfield 29, 3) := by decide +kernel
theorem dX7_town_43 : decode cX7_town 43 = .ok (.aload_n 0, 1) := by decide +kernel
theorem dX7_town_44 : decode cX7_town 44 = .ok (.getfield 19, 3) := by decide +kernel
theorem dX7_town_47 : decode cX7_town 47 = .ok (.invokevirtual 90, 3) := by decide +kernel
theorem dX7_town_50 : decode cX7_town 50 = .ok (.aload_n 0, 1) := by decide +kernel
theorem dX7_town_51 : decode cX7_town 51 = .ok (.getfield 43, 3) := by decide +kernel
theorem dX7_town_54 : decode cX7_town 54 = .ok (.iconst 0, 1) := by decide +kernel
theorem dX7_town_55 : decode cX7_town 55 = .ok (.putfield 94, 3) := by decide +kernel
theorem dX7_town_58 : decode cX7_town 58 = .ok (.aload_n 0, 1) := by decide +kernel
theorem dX7_town_59 : decode cX7_town 59 = .ok (.iconst 0, 1) := by decide +kernel
theorem dX7_town_60 : decode cX7_town 60 = .ok (.putfield 97, 3) := by decide +kernel
theorem dX7_town_63 : decode cX7_town 63 = .ok (.aload_n 0, 1) := by decide +kernel
theorem dX7_town_64 : decode cX7_town 64 = .ok (.getfield 19, 3) := by decide +kernel
theorem dX7_town_67 : decode cX7_town 67 = .ok (.getfield 100, 3) := by decide +kernel
theorem dX7_town_70 : decode cX7_town 70 = .ok (.ireturn, 1) := by decide +kernel
theorem dX7_fault_0 : decode cX7_fault 0 = .ok (.aload_n 0, 1) := by decide +kernel
theorem dX7_fault_1 : decode cX7_fault 1 = .ok (.getfield 10, 3) := by decide +kernel
theorem dX7_fault_4 : decode cX7_fault 4 = .ok (.getfield 103, 3) := by decide +kernel
theorem dX7_fault_7 : decode cX7_fault 7 = .ok (.ireturn, 1) := by decide +kernel
set_option maxRecDepth 20000 in
theorem ggX7_told_X7_sumOf : GoodIn wsX7_told wsX7_sumOf := goodIn_r _ [21] (by decide +kernel) (by decide +kernel)
set_option maxRecDepth 20000 in
theorem gX7_told_X7_sumOf : GoodIn wsX7_told (va_wsS RX7 128 yX7_sumOf wsX7_sumOf) := goodIn_app (goodIn_of _ (by decide +kernel)) ggX7_told_X7_sumOf
theorem dX7_told_0 : decode cX7_told 0 = .ok (.iload_n 1, 1) := by decide +kernel
theorem dX7_told_1 : decode cX7_told 1 = .ok (.tableswitch 175 0 10 #[59, 68, 77, 86, 95, 104, 113, 122, 131, 140, 152], 59) := by decide +kernel
theorem dX7_told_60 : decode cX7_told 60 = .ok (.aload_n 0, 1) := by decide +kernel
theorem dX7_told_61 : decode cX7_told 61 = .ok (.getfield 19, 3) := by decide +kernel
theorem dX7_told_64 : decode cX7_told 64 = .ok (.getfield 100, 3) := by decide +kernel
theorem dX7_told_67 : decode cX7_told 67 = .ok (.i2l, 1) := by decide +kernel
theorem dX7_told_68 : decode cX7_told 68 = .ok (.lreturn, 1) := by decide +kernel
theorem dX7_told_69 : decode cX7_told 69 = .ok (.aload_n 0, 1) := by decide +kernel
theorem dX7_told_70 : decode cX7_told 70 = .ok (.getfield 19, 3) := by decide +kernel
theorem dX7_told_73 : decode cX7_told 73 = .ok (.getfield 106, 3) := by decide +kernel
theorem dX7_told_76 : decode cX7_told 76 = .ok (.i2l, 1) := by decide +kernel
theorem dX7_told_77 : decode cX7_told 77 = .ok (.lreturn, 1) := by decide +kernel
theorem dX7_told_78 : decode cX7_told 78 = .ok (.aload_n 0, 1) := by decide +kernel
theorem dX7_told_79 : decode cX7_told 79 = .ok (.getfield 10, 3) := by decide +kernel
theorem dX7_told_82 : decode cX7_told 82 = .ok (.getfield 82, 3) := by decide +kernel
theorem dX7_told_85 : decode cX7_told 85 = .ok (.i2l, 1) := by decide +kernel
theorem dX7_told_86 : decode cX7_told 86 = .ok (.lreturn, 1) := by decide +kernel
theorem dX7_told_87 : decode cX7_told 87 = .ok (.aload_n 0, 1) := by decide +kernel
theorem dX7_told_88 : decode cX7_told 88 = .ok (.getfield 29, 3) := by decide +kernel
theorem dX7_told_91 : decode cX7_told 91 = .ok (.getfield 109, 3) := by decide +kernel
theorem dX7_told_94 : decode cX7_told 94 = .ok (.i2l, 1) := by decide +kernel
theorem dX7_told_95 : decode cX7_told 95 = .ok (.lreturn, 1) := by decide +kernel
theorem dX7_told_96 : decode cX7_told 96 = .ok (.aload_n 0, 1) := by decide +kernel
theorem dX7_told_97 : decode cX7_told 97 = .ok (.getfield 29, 3) := by decide +kernel
theorem dX7_told_100 : decode cX7_told 100 = .ok (.getfield 112, 3) := by decide +kernel
theorem dX7_told_103 : decode cX7_told 103 = .ok (.i2l, 1) := by decide +kernel
theorem dX7_told_104 : decode cX7_told 104 = .ok (.lreturn, 1) := by decide +kernel
theorem dX7_told_105 : decode cX7_told 105 = .ok (.aload_n 0, 1) := by decide +kernel
theorem dX7_told_106 : decode cX7_told 106 = .ok (.getfield 19, 3) := by decide +kernel
theorem dX7_told_109 : decode cX7_told 109 = .ok (.getfield 115, 3) := by decide +kernel
theorem dX7_told_112 : decode cX7_told 112 = .ok (.i2l, 1) := by decide +kernel
theorem dX7_told_113 : decode cX7_told 113 = .ok (.lreturn, 1) := by decide +kernel
theorem dX7_told_114 : decode cX7_told 114 = .ok (.aload_n 0, 1) := by decide +kernel
theorem dX7_told_115 : decode cX7_told 115 = .ok (.getfield 19, 3) := by decide +kernel
theorem dX7_told_118 : decode cX7_told 118 = .ok (.getfield 118, 3) := by decide +kernel
theorem dX7_told_121 : decode cX7_told 121 = .ok (.i2l, 1) := by decide +kernel
theorem dX7_told_122 : decode cX7_told 122 = .ok (.lreturn, 1) := by decide +kernel
theorem dX7_told_123 : decode cX7_told 123 = .ok (.aload_n 0, 1) := by decide +kernel
theorem dX7_told_124 : decode cX7_told 124 = .ok (.getfield 19, 3) := by decide +kernel
theorem dX7_told_127 : decode cX7_told 127 = .ok (.getfield 121, 3) := by decide +kernel
theorem dX7_told_130 : decode cX7_told 130 = .ok (.i2l, 1) := by decide +kernel
theorem dX7_told_131 : decode cX7_told 131 = .ok (.lreturn, 1) := by decide +kernel
theorem dX7_told_132 : decode cX7_told 132 = .ok (.aload_n 0, 1) := by decide +kernel
theorem dX7_told_133 : decode cX7_told 133 = .ok (.getfield 43, 3) := by decide +kernel
theorem dX7_told_136 : decode cX7_told 136 = .ok (.getfield 94, 3) := by decide +kernel
theorem dX7_told_139 : decode cX7_told 139 = .ok (.i2l, 1) := by decide +kernel
theorem dX7_told_140 : decode cX7_told 140 = .ok (.lreturn, 1) := by decide +kernel
theorem dX7_told_141 : decode cX7_told 141 = .ok (.aload_n 0, 1) := by decide +kernel
theorem dX7_told_142 : decode cX7_told 142 = .ok (.getfield 29, 3) := by decide +kernel
theorem dX7_told_145 : decode cX7_told 145 = .ok (.getfield 124, 3) := by decide +kernel
theorem dX7_told_148 : decode cX7_told 148 = .ok (.invokestatic 128, 3) := by decide +kernel
theorem dX7_told_151 : decode cX7_told 151 = .ok (.i2l, 1) := by decide +kernel
theorem dX7_told_152 : decode cX7_told 152 = .ok (.lreturn, 1) := by decide +kernel
theorem dX7_told_153 : decode cX7_told 153 = .ok (.aload_n 0, 1) := by decide +kernel
theorem dX7_told_154 : decode cX7_told 154 = .ok (.getfield 29, 3) := by decide +kernel
theorem dX7_told_157 : decode cX7_told 157 = .ok (.getfield 132, 3) := by decide +kernel
theorem dX7_told_160 : decode cX7_told 160 = .ok (.invokestatic 128, 3) := by decide +kernel
theorem dX7_told_163 : decode cX7_told 163 = .ok (.aload_n 0, 1) := by decide +kernel
theorem dX7_told_164 : decode cX7_told 164 = .ok (.getfield 29, 3) := by decide +kernel
theorem dX7_told_167 : decode cX7_told 167 = .ok (.getfield 135, 3) := by decide +kernel
theorem dX7_told_170 : decode cX7_told 170 = .ok (.invokestatic 128, 3) := by decide +kernel
theorem dX7_told_173 : decode cX7_told 173 = .ok (.iadd, 1) := by decide +kernel
theorem dX7_told_174 : decode cX7_told 174 = .ok (.i2l, 1) := by decide +kernel
theorem dX7_told_175 : decode cX7_told 175 = .ok (.lreturn, 1) := by decide +kernel
theorem dX7_told_176 : decode cX7_told 176 = .ok (.ldc2_w 138, 3) := by decide +kernel
theorem dX7_told_179 : decode cX7_told 179 = .ok (.lreturn, 1) := by decide +kernel
set_option maxRecDepth 20000 in
theorem ggX7_stone_X6_hasStone : GoodIn wsX7_stone wsX6_hasStone := goodIn_r _ [12, 13, 31, 32, 33, 34, 35, 36, 37, 38, 39, 40, 41] (by decide +kernel) (by decide +kernel)
set_option maxRecDepth 20000 in
theorem gX7_stone_X6_hasStone : GoodIn wsX7_stone (wsV RX7 140 RX6 yX6_hasStone wsX6_hasStone) := goodIn_app (goodIn_of _ (by decide +kernel)) ggX7_stone_X6_hasStone
set_option maxRecDepth 20000 in
theorem ggX7_stone_X1_sitterOn : GoodIn wsX7_stone wsX1_sitterOn := goodIn_r _ [18, 19, 42, 43, 44, 45, 46, 47, 48, 49, 50, 51] (by decide +kernel) (by decide +kernel)
set_option maxRecDepth 20000 in
theorem gX7_stone_X1_sitterOn : GoodIn wsX7_stone (wsV RX7 150 RX1 yX1_sitterOn wsX1_sitterOn) := goodIn_app (goodIn_of _ (by decide +kernel)) ggX7_stone_X1_sitterOn
