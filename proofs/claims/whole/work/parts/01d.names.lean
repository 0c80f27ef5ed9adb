theorem dX7_stone_0 : decode cX7_stone 0 = .ok (.aload_n 0, 1) := by decide +kernel
theorem dX7_stone_1 : decode cX7_stone 1 = .ok (.getfield 19, 3) := by decide +kernel
theorem dX7_stone_4 : decode cX7_stone 4 = .ok (.iload_n 1, 1) := by decide +kernel
theorem dX7_stone_5 : decode cX7_stone 5 = .ok (.invokevirtual 140, 3) := by decide +kernel
theorem dX7_stone_8 : decode cX7_stone 8 = .ok (.ifCond .ne 6, 3) := by decide +kernel
theorem dX7_stone_11 : decode cX7_stone 11 = .ok (.ldc 143, 2) := by decide +kernel
theorem dX7_stone_13 : decode cX7_stone 13 = .ok (.ireturn, 1) := by decide +kernel
theorem dX7_stone_14 : decode cX7_stone 14 = .ok (.iload_n 2, 1) := by decide +kernel
theorem dX7_stone_15 : decode cX7_stone 15 = .ok (.tableswitch 68 0 3 #[29, 39, 49, 59], 29) := by decide +kernel
theorem dX7_stone_44 : decode cX7_stone 44 = .ok (.aload_n 0, 1) := by decide +kernel
theorem dX7_stone_45 : decode cX7_stone 45 = .ok (.getfield 19, 3) := by decide +kernel
theorem dX7_stone_48 : decode cX7_stone 48 = .ok (.getfield 144, 3) := by decide +kernel
theorem dX7_stone_51 : decode cX7_stone 51 = .ok (.iload_n 1, 1) := by decide +kernel
theorem dX7_stone_52 : decode cX7_stone 52 = .ok (.iaload, 1) := by decide +kernel
theorem dX7_stone_53 : decode cX7_stone 53 = .ok (.ireturn, 1) := by decide +kernel
theorem dX7_stone_54 : decode cX7_stone 54 = .ok (.aload_n 0, 1) := by decide +kernel
theorem dX7_stone_55 : decode cX7_stone 55 = .ok (.getfield 19, 3) := by decide +kernel
theorem dX7_stone_58 : decode cX7_stone 58 = .ok (.getfield 147, 3) := by decide +kernel
theorem dX7_stone_61 : decode cX7_stone 61 = .ok (.iload_n 1, 1) := by decide +kernel
theorem dX7_stone_62 : decode cX7_stone 62 = .ok (.iaload, 1) := by decide +kernel
theorem dX7_stone_63 : decode cX7_stone 63 = .ok (.ireturn, 1) := by decide +kernel
theorem dX7_stone_64 : decode cX7_stone 64 = .ok (.aload_n 0, 1) := by decide +kernel
theorem dX7_stone_65 : decode cX7_stone 65 = .ok (.getfield 29, 3) := by decide +kernel
theorem dX7_stone_68 : decode cX7_stone 68 = .ok (.getfield 132, 3) := by decide +kernel
theorem dX7_stone_71 : decode cX7_stone 71 = .ok (.iload_n 1, 1) := by decide +kernel
theorem dX7_stone_72 : decode cX7_stone 72 = .ok (.iaload, 1) := by decide +kernel
theorem dX7_stone_73 : decode cX7_stone 73 = .ok (.ireturn, 1) := by decide +kernel
theorem dX7_stone_74 : decode cX7_stone 74 = .ok (.aload_n 0, 1) := by decide +kernel
theorem dX7_stone_75 : decode cX7_stone 75 = .ok (.getfield 29, 3) := by decide +kernel
theorem dX7_stone_78 : decode cX7_stone 78 = .ok (.iload_n 1, 1) := by decide +kernel
theorem dX7_stone_79 : decode cX7_stone 79 = .ok (.invokevirtual 150, 3) := by decide +kernel
theorem dX7_stone_82 : decode cX7_stone 82 = .ok (.ireturn, 1) := by decide +kernel
theorem dX7_stone_83 : decode cX7_stone 83 = .ok (.ldc 72, 2) := by decide +kernel
theorem dX7_stone_85 : decode cX7_stone 85 = .ok (.ireturn, 1) := by decide +kernel
set_option maxRecDepth 20000 in
theorem ggX7_person_X6_hasPerson : GoodIn wsX7_person wsX6_hasPerson := goodIn_r _ [16, 17, 29, 30, 31, 32, 33, 34, 35, 36, 37, 38, 39] (by decide +kernel) (by decide +kernel)
set_option maxRecDepth 20000 in
theorem gX7_person_X6_hasPerson : GoodIn wsX7_person (wsV RX7 154 RX6 yX6_hasPerson wsX6_hasPerson) := goodIn_app (goodIn_of _ (by decide +kernel)) ggX7_person_X6_hasPerson
theorem dX7_person_0 : decode cX7_person 0 = .ok (.aload_n 0, 1) := by decide +kernel
theorem dX7_person_1 : decode cX7_person 1 = .ok (.getfield 19, 3) := by decide +kernel
theorem dX7_person_4 : decode cX7_person 4 = .ok (.iload_n 1, 1) := by decide +kernel
theorem dX7_person_5 : decode cX7_person 5 = .ok (.invokevirtual 154, 3) := by decide +kernel
theorem dX7_person_8 : decode cX7_person 8 = .ok (.ifCond .ne 6, 3) := by decide +kernel
theorem dX7_person_11 : decode cX7_person 11 = .ok (.ldc 143, 2) := by decide +kernel
theorem dX7_person_13 : decode cX7_person 13 = .ok (.ireturn, 1) := by decide +kernel
theorem dX7_person_14 : decode cX7_person 14 = .ok (.iload_n 2, 1) := by decide +kernel
theorem dX7_person_15 : decode cX7_person 15 = .ok (.tableswitch 111 0 6 #[41, 51, 61, 71, 81, 91, 101], 41) := by decide +kernel
theorem dX7_person_56 : decode cX7_person 56 = .ok (.aload_n 0, 1) := by decide +kernel
theorem dX7_person_57 : decode cX7_person 57 = .ok (.getfield 19, 3) := by decide +kernel
theorem dX7_person_60 : decode cX7_person 60 = .ok (.getfield 157, 3) := by decide +kernel
theorem dX7_person_63 : decode cX7_person 63 = .ok (.iload_n 1, 1) := by decide +kernel
theorem dX7_person_64 : decode cX7_person 64 = .ok (.iaload, 1) := by decide +kernel
theorem dX7_person_65 : decode cX7_person 65 = .ok (.ireturn, 1) := by decide +kernel
theorem dX7_person_66 : decode cX7_person 66 = .ok (.aload_n 0, 1) := by decide +kernel
theorem dX7_person_67 : decode cX7_person 67 = .ok (.getfield 19, 3) := by decide +kernel
theorem dX7_person_70 : decode cX7_person 70 = .ok (.getfield 160, 3) := by decide +kernel
theorem dX7_person_73 : decode cX7_person 73 = .ok (.iload_n 1, 1) := by decide +kernel
theorem dX7_person_74 : decode cX7_person 74 = .ok (.iaload, 1) := by decide +kernel
theorem dX7_person_75 : decode cX7_person 75 = .ok (.ireturn, 1) := by decide +kernel
theorem dX7_person_76 : decode cX7_person 76 = .ok (.aload_n 0, 1) := by decide +kernel
theorem dX7_person_77 : decode cX7_person 77 = .ok (.getfield 29, 3) := by decide +kernel
theorem dX7_person_80 : decode cX7_person 80 = .ok (.getfield 135, 3) := by decide +kernel
theorem dX7_person_83 : decode cX7_person 83 = .ok (.iload_n 1, 1) := by decide +kernel
theorem dX7_person_84 : decode cX7_person 84 = .ok (.iaload, 1) := by decide +kernel
theorem dX7_person_85 : decode cX7_person 85 = .ok (.ireturn, 1) := by decide +kernel
theorem dX7_person_86 : decode cX7_person 86 = .ok (.aload_n 0, 1) := by decide +kernel
theorem dX7_person_87 : decode cX7_person 87 = .ok (.getfield 29, 3) := by decide +kernel
theorem dX7_person_90 : decode cX7_person 90 = .ok (.getfield 163, 3) := by decide +kernel
theorem dX7_person_93 : decode cX7_person 93 = .ok (.iload_n 1, 1) := by decide +kernel
theorem dX7_person_94 : decode cX7_person 94 = .ok (.iaload, 1) := by decide +kernel
theorem dX7_person_95 : decode cX7_person 95 = .ok (.ireturn, 1) := by decide +kernel
theorem dX7_person_96 : decode cX7_person 96 = .ok (.aload_n 0, 1) := by decide +kernel
theorem dX7_person_97 : decode cX7_person 97 = .ok (.getfield 29, 3) := by decide +kernel
theorem dX7_person_100 : decode cX7_person 100 = .ok (.getfield 124, 3) := by decide +kernel
theorem dX7_person_103 : decode cX7_person 103 = .ok (.iload_n 1, 1) := by decide +kernel
theorem dX7_person_104 : decode cX7_person 104 = .ok (.iaload, 1) := by decide +kernel
theorem dX7_person_105 : decode cX7_person 105 = .ok (.ireturn, 1) := by decide +kernel
theorem dX7_person_106 : decode cX7_person 106 = .ok (.aload_n 0, 1) := by decide +kernel
theorem dX7_person_107 : decode cX7_person 107 = .ok (.getfield 29, 3) := by decide +kernel
theorem dX7_person_110 : decode cX7_person 110 = .ok (.getfield 166, 3) := by decide +kernel
theorem dX7_person_113 : decode cX7_person 113 = .ok (.iload_n 1, 1) := by decide +kernel
theorem dX7_person_114 : decode cX7_person 114 = .ok (.iaload, 1) := by decide +kernel
theorem dX7_person_115 : decode cX7_person 115 = .ok (.ireturn, 1) := by decide +kernel
theorem dX7_person_116 : decode cX7_person 116 = .ok (.aload_n 0, 1) := by decide +kernel
theorem dX7_person_117 : decode cX7_person 117 = .ok (.getfield 29, 3) := by decide +kernel
theorem dX7_person_120 : decode cX7_person 120 = .ok (.getfield 169, 3) := by decide +kernel
theorem dX7_person_123 : decode cX7_person 123 = .ok (.iload_n 1, 1) := by decide +kernel
theorem dX7_person_124 : decode cX7_person 124 = .ok (.iaload, 1) := by decide +kernel
theorem dX7_person_125 : decode cX7_person 125 = .ok (.ireturn, 1) := by decide +kernel
theorem dX7_person_126 : decode cX7_person 126 = .ok (.ldc 72, 2) := by decide +kernel
theorem dX7_person_128 : decode cX7_person 128 = .ok (.ireturn, 1) := by decide +kernel
set_option maxRecDepth 20000 in
theorem ggX7_owned_X6_hasPerson : GoodIn wsX7_owned wsX6_hasPerson := goodIn_r _ [9, 10, 41, 42, 43, 44, 45, 46, 47, 48, 49, 50, 51] (by decide +kernel) (by decide +kernel)
set_option maxRecDepth 20000 in
theorem gX7_owned_X6_hasPerson : GoodIn wsX7_owned (wsV RX7 154 RX6 yX6_hasPerson wsX6_hasPerson) := goodIn_app (goodIn_of _ (by decide +kernel)) ggX7_owned_X6_hasPerson
set_option maxRecDepth 20000 in
theorem ggX7_owned_X6_hasStone : GoodIn wsX7_owned wsX6_hasStone := goodIn_r _ [14, 15, 41, 42, 43, 44, 45, 46, 47, 48, 49, 50, 51] (by decide +kernel) (by decide +kernel)
set_option maxRecDepth 20000 in
theorem gX7_owned_X6_hasStone : GoodIn wsX7_owned (wsV RX7 140 RX6 yX6_hasStone wsX6_hasStone) := goodIn_app (goodIn_of _ (by decide +kernel)) ggX7_owned_X6_hasStone
set_option maxRecDepth 20000 in
theorem ggX7_owned_X7_ownedAt : GoodIn wsX7_owned wsX7_ownedAt := goodIn_r _ [19] (by decide +kernel) (by decide +kernel)
set_option maxRecDepth 20000 in
theorem gX7_owned_X7_ownedAt : GoodIn wsX7_owned (va_wsS RX7 175 yX7_ownedAt wsX7_ownedAt) := goodIn_app (goodIn_of _ (by decide +kernel)) ggX7_owned_X7_ownedAt
theorem dX7_owned_0 : decode cX7_owned 0 = .ok (.aload_n 0, 1) := by decide +kernel
theorem dX7_owned_1 : decode cX7_owned 1 = .ok (.getfield 19, 3) := by decide +kernel
theorem dX7_owned_4 : decode cX7_owned 4 = .ok (.iload_n 1, 1) := by decide +kernel
theorem dX7_owned_5 : decode cX7_owned 5 = .ok (.invokevirtual 154, 3) := by decide +kernel
theorem dX7_owned_8 : decode cX7_owned 8 = .ok (.ifCond .eq 14, 3) := by decide +kernel
theorem dX7_owned_11 : decode cX7_owned 11 = .ok (.aload_n 0, 1) := by decide +kernel
theorem dX7_owned_12 : decode cX7_owned 12 = .ok (.getfield 19, 3) := by decide +kernel
theorem dX7_owned_15 : decode cX7_owned 15 = .ok (.iload_n 2, 1) := by decide +kernel
theorem dX7_owned_16 : decode cX7_owned 16 = .ok (.invokevirtual 140, 3) := by decide +kernel
theorem dX7_owned_19 : decode cX7_owned 19 = .ok (.ifCond .ne 6, 3) := by decide +kernel
theorem dX7_owned_22 : decode cX7_owned 22 = .ok (.ldc 143, 2) := by decide +kernel
theorem dX7_owned_24 : decode cX7_owned 24 = .ok (.ireturn, 1) := by decide +kernel
theorem dX7_owned_25 : decode cX7_owned 25 = .ok (.aload_n 0, 1) := by decide +kernel
theorem dX7_owned_26 : decode cX7_owned 26 = .ok (.getfield 29, 3) := by decide +kernel
theorem dX7_owned_29 : decode cX7_owned 29 = .ok (.getfield 172, 3) := by decide +kernel
theorem dX7_owned_32 : decode cX7_owned 32 = .ok (.iload_n 1, 1) := by decide +kernel
theorem dX7_owned_33 : decode cX7_owned 33 = .ok (.iload_n 2, 1) := by decide +kernel
theorem dX7_owned_34 : decode cX7_owned 34 = .ok (.invokestatic 175, 3) := by decide +kernel
theorem dX7_owned_37 : decode cX7_owned 37 = .ok (.iaload, 1) := by decide +kernel
theorem dX7_owned_38 : decode cX7_owned 38 = .ok (.ireturn, 1) := by decide +kernel
set_option maxRecDepth 20000 in
theorem ggX7_sit_X6_hasPerson : GoodIn wsX7_sit wsX6_hasPerson := goodIn_r _ [10, 11, 44, 45, 46, 47, 48, 49, 50, 51, 52, 53, 54] (by decide +kernel) (by decide +kernel)
set_option maxRecDepth 20000 in
theorem gX7_sit_X6_hasPerson : GoodIn wsX7_sit (wsV RX7 154 RX6 yX6_hasPerson wsX6_hasPerson) := goodIn_app (goodIn_of _ (by decide +kernel)) ggX7_sit_X6_hasPerson
set_option maxRecDepth 20000 in
theorem ggX7_sit_X6_hasStone : GoodIn wsX7_sit wsX6_hasStone := goodIn_r _ [15, 16, 44, 45, 46, 47, 48, 49, 50, 51, 52, 53, 54] (by decide +kernel) (by decide +kernel)
set_option maxRecDepth 20000 in
theorem gX7_sit_X6_hasStone : GoodIn wsX7_sit (wsV RX7 140 RX6 yX6_hasStone wsX6_hasStone) := goodIn_app (goodIn_of _ (by decide +kernel)) ggX7_sit_X6_hasStone
set_option maxRecDepth 20000 in
theorem ggX7_sit_X1_sitterOn : GoodIn wsX7_sit wsX1_sitterOn := goodIn_r _ [21, 22, 34, 35, 36, 37, 38, 39, 40, 41, 42, 43] (by decide +kernel) (by decide +kernel)
set_option maxRecDepth 20000 in
theorem gX7_sit_X1_sitterOn : GoodIn wsX7_sit (wsV RX7 150 RX1 yX1_sitterOn wsX1_sitterOn) := goodIn_app (goodIn_of _ (by decide +kernel)) ggX7_sit_X1_sitterOn
theorem dX7_sit_0 : decode cX7_sit 0 = .ok (.aload_n 0, 1) := by decide +kernel
theorem dX7_sit_1 : decode cX7_sit 1 = .ok (.getfield 19, 3) := by decide +kernel
theorem dX7_sit_4 : decode cX7_sit 4 = .ok (.iload_n 1, 1) := by decide +kernel
theorem dX7_sit_5 : decode cX7_sit 5 = .ok (.invokevirtual 154, 3) := by decide +kernel
theorem dX7_sit_8 : decode cX7_sit 8 = .ok (.ifCond .eq 19, 3) := by decide +kernel
theorem dX7_sit_11 : decode cX7_sit 11 = .ok (.iload_n 2, 1) := by decide +kernel
theorem dX7_sit_12 : decode cX7_sit 12 = .ok (.iconst (-1), 1) := by decide +kernel
theorem dX7_sit_13 : decode cX7_sit 13 = .ok (.if_icmp .eq 17, 3) := by decide +kernel
theorem dX7_sit_16 : decode cX7_sit 16 = .ok (.aload_n 0, 1) := by decide +kernel
theorem dX7_sit_17 : decode cX7_sit 17 = .ok (.getfield 19, 3) := by decide +kernel
theorem dX7_sit_20 : decode cX7_sit 20 = .ok (.iload_n 2, 1) := by decide +kernel
theorem dX7_sit_21 : decode cX7_sit 21 = .ok (.invokevirtual 140, 3) := by decide +kernel
theorem dX7_sit_24 : decode cX7_sit 24 = .ok (.ifCond .ne 6, 3) := by decide +kernel
theorem dX7_sit_27 : decode cX7_sit 27 = .ok (.ldc 143, 2) := by decide +kernel
theorem dX7_sit_29 : decode cX7_sit 29 = .ok (.ireturn, 1) := by decide +kernel
theorem dX7_sit_30 : decode cX7_sit 30 = .ok (.aload_n 0, 1) := by decide +kernel
theorem dX7_sit_31 : decode cX7_sit 31 = .ok (.getfield 29, 3) := by decide +kernel
theorem dX7_sit_34 : decode cX7_sit 34 = .ok (.getfield 163, 3) := by decide +kernel
theorem dX7_sit_37 : decode cX7_sit 37 = .ok (.iload_n 1, 1) := by decide +kernel
theorem dX7_sit_38 : decode cX7_sit 38 = .ok (.iaload, 1) := by decide +kernel
theorem dX7_sit_39 : decode cX7_sit 39 = .ok (.istore_n 3, 1) := by decide +kernel
theorem dX7_sit_40 : decode cX7_sit 40 = .ok (.iload_n 2, 1) := by decide +kernel
theorem dX7_sit_41 : decode cX7_sit 41 = .ok (.iconst (-1), 1) := by decide +kernel
theorem dX7_sit_42 : decode cX7_sit 42 = .ok (.if_icmp .eq 23, 3) := by decide +kernel
theorem dX7_sit_45 : decode cX7_sit 45 = .ok (.iload_n 2, 1) := by decide +kernel
theorem dX7_sit_46 : decode cX7_sit 46 = .ok (.iload_n 3, 1) := by decide +kernel
theorem dX7_sit_47 : decode cX7_sit 47 = .ok (.if_icmp .eq 18, 3) := by decide +kernel
theorem dX7_sit_50 : decode cX7_sit 50 = .ok (.aload_n 0, 1) := by decide +kernel
theorem dX7_sit_51 : decode cX7_sit 51 = .ok (.getfield 29, 3) := by decide +kernel
theorem dX7_sit_54 : decode cX7_sit 54 = .ok (.iload_n 2, 1) := by decide +kernel
theorem dX7_sit_55 : decode cX7_sit 55 = .ok (.invokevirtual 150, 3) := by decide +kernel
theorem dX7_sit_58 : decode cX7_sit 58 = .ok (.iconst (-1), 1) := by decide +kernel
theorem dX7_sit_59 : decode cX7_sit 59 = .ok (.if_icmp .eq 6, 3) := by decide +kernel
theorem dX7_sit_62 : decode cX7_sit 62 = .ok (.ldc 179, 2) := by decide +kernel
theorem dX7_sit_64 : decode cX7_sit 64 = .ok (.ireturn, 1) := by decide +kernel
theorem dX7_sit_65 : decode cX7_sit 65 = .ok (.aload_n 0, 1) := by decide +kernel
theorem dX7_sit_66 : decode cX7_sit 66 = .ok (.getfield 29, 3) := by decide +kernel
theorem dX7_sit_69 : decode cX7_sit 69 = .ok (.getfield 163, 3) := by decide +kernel
theorem dX7_sit_72 : decode cX7_sit 72 = .ok (.iload_n 1, 1) := by decide +kernel
theorem dX7_sit_73 : decode cX7_sit 73 = .ok (.iload_n 2, 1) := by decide +kernel
theorem dX7_sit_74 : decode cX7_sit 74 = .ok (.iastore, 1) := by decide +kernel
theorem dX7_sit_75 : decode cX7_sit 75 = .ok (.iload_n 3, 1) := by decide +kernel
theorem dX7_sit_76 : decode cX7_sit 76 = .ok (.ireturn, 1) := by decide +kernel
set_option maxRecDepth 20000 in
theorem ggX7_go_X7_within : GoodIn wsX7_go wsX7_within := goodIn_r _ [7] (by decide +kernel) (by decide +kernel)
set_option maxRecDepth 20000 in
theorem gX7_go_X7_within : GoodIn wsX7_go (va_wsS RX7 68 yX7_within wsX7_within) := goodIn_app (goodIn_of _ (by decide +kernel)) ggX7_go_X7_within
set_option maxRecDepth 20000 in
theorem ggX7_go_X1_passMinute : GoodIn wsX7_go wsX1_passMinute := goodIn_r _ [12, 13, 14, 15, 16, 17, 18, 19, 20, 21, 22, 23, 24, 25, 26, 27, 28, 29, 11, 30, 31, 32, 33, 34, 35, 36, 37, 38, 39, 40, 41, 42, 43, 44, 45, 46, 47, 48, 49, 50, 51, 52, 53, 54, 6, 55, 56, 57, 58, 59, 60, 61, 62, 63, 64, 65, 66, 67, 68, 69, 70, 71, 72, 73, 74, 75, 76, 77, 89, 90, 91, 92, 93, 94, 95, 96, 97, 98, 99, 100, 101, 102, 103, 104, 105, 106, 107, 108, 109] (by decide +kernel) (by decide +kernel)
set_option maxRecDepth 20000 in
theorem gX7_go_X1_passMinute : GoodIn wsX7_go (wsV RX7 180 RX1 yX1_passMinute wsX1_passMinute) := goodIn_app (goodIn_of _ (by decide +kernel)) ggX7_go_X1_passMinute
theorem dX7_go_0 : decode cX7_go 0 = .ok (.iload_n 1, 1) := by decide +kernel
theorem dX7_go_1 : decode cX7_go 1 = .ok (.iconst 1, 1) := by decide +kernel
theorem dX7_go_2 : decode cX7_go 2 = .ok (.sipush 999, 3) := by decide +kernel
theorem dX7_go_5 : decode cX7_go 5 = .ok (.invokestatic 68, 3) := by decide +kernel
theorem dX7_go_8 : decode cX7_go 8 = .ok (.ifCond .ne 6, 3) := by decide +kernel
theorem dX7_go_11 : decode cX7_go 11 = .ok (.ldc 72, 2) := by decide +kernel
theorem dX7_go_13 : decode cX7_go 13 = .ok (.ireturn, 1) := by decide +kernel
theorem dX7_go_14 : decode cX7_go 14 = .ok (.iconst 0, 1) := by decide +kernel
theorem dX7_go_15 : decode cX7_go 15 = .ok (.istore_n 2, 1) := by decide +kernel
theorem dX7_go_16 : decode cX7_go 16 = .ok (.iconst 0, 1) := by decide +kernel
theorem dX7_go_17 : decode cX7_go 17 = .ok (.istore_n 3, 1) := by decide +kernel
theorem dX7_go_18 : decode cX7_go 18 = .ok (.iload_n 3, 1) := by decide +kernel
theorem dX7_go_19 : decode cX7_go 19 = .ok (.iload_n 1, 1) := by decide +kernel
theorem dX7_go_20 : decode cX7_go 20 = .ok (.if_icmp .ge 21, 3) := by decide +kernel
theorem dX7_go_23 : decode cX7_go 23 = .ok (.aload_n 0, 1) := by decide +kernel
theorem dX7_go_24 : decode cX7_go 24 = .ok (.getfield 29, 3) := by decide +kernel
theorem dX7_go_27 : decode cX7_go 27 = .ok (.aload_n 0, 1) := by decide +kernel
theorem dX7_go_28 : decode cX7_go 28 = .ok (.getfield 19, 3) := by decide +kernel
theorem dX7_go_31 : decode cX7_go 31 = .ok (.invokevirtual 180, 3) := by decide +kernel
theorem dX7_go_34 : decode cX7_go 34 = .ok (.istore_n 2, 1) := by decide +kernel
theorem dX7_go_35 : decode cX7_go 35 = .ok (.iinc 3 1, 3) := by decide +kernel
theorem dX7_go_38 : decode cX7_go 38 = .ok (.goto (-20), 3) := by decide +kernel
theorem dX7_go_41 : decode cX7_go 41 = .ok (.iload_n 2, 1) := by decide +kernel
theorem dX7_go_42 : decode cX7_go 42 = .ok (.ireturn, 1) := by decide +kernel
set_option maxRecDepth 20000 in
theorem ggX7_drift_X7_within : GoodIn wsX7_drift wsX7_within := goodIn_r _ [7] (by decide +kernel) (by decide +kernel)
set_option maxRecDepth 20000 in
theorem gX7_drift_X7_within : GoodIn wsX7_drift (va_wsS RX7 68 yX7_within wsX7_within) := goodIn_app (goodIn_of _ (by decide +kernel)) ggX7_drift_X7_within
set_option maxRecDepth 20000 in
theorem ggX7_drift_X1_moveByDraws : GoodIn wsX7_drift wsX1_moveByDraws := goodIn_r _ [12, 13, 14, 15, 16, 17, 18, 11, 19, 20, 21, 22, 23, 24, 25, 26, 27, 28, 29, 30, 31, 32, 33, 34, 106, 107, 108, 109, 110, 111, 112, 113, 114, 115, 116, 117, 118, 119, 120, 121, 122, 123, 124, 125, 126] (by decide +kernel) (by decide +kernel)
set_option maxRecDepth 20000 in
theorem gX7_drift_X1_moveByDraws : GoodIn wsX7_drift (wsV RX7 183 RX1 yX1_moveByDraws wsX1_moveByDraws) := goodIn_app (goodIn_of _ (by decide +kernel)) ggX7_drift_X1_moveByDraws
set_option maxRecDepth 20000 in
theorem ggX7_drift_X1_passMinute : GoodIn wsX7_drift wsX1_passMinute := goodIn_r _ [38, 13, 14, 39, 40, 41, 42, 43, 44, 25, 26, 27, 28, 29, 30, 45, 46, 47, 11, 48, 49, 50, 51, 52, 53, 54, 55, 56, 57, 58, 59, 60, 61, 62, 63, 64, 65, 66, 67, 68, 69, 70, 71, 72, 6, 73, 74, 75, 76, 77, 78, 79, 80, 81, 82, 83, 84, 85, 86, 87, 88, 89, 15, 90, 91, 92, 93, 94, 106, 107, 108, 109, 110, 111, 112, 113, 114, 115, 116, 117, 118, 119, 120, 121, 122, 123, 124, 125, 126] (by decide +kernel) (by decide +kernel)
set_option maxRecDepth 20000 in
theorem gX7_drift_X1_passMinute : GoodIn wsX7_drift (wsV RX7 180 RX1 yX1_passMinute wsX1_passMinute) := goodIn_app (goodIn_of _ (by decide +kernel)) ggX7_drift_X1_passMinute
theorem dX7_drift_0 : decode cX7_drift 0 = .ok (.iload_n 1, 1) := by decide +kernel
theorem dX7_drift_1 : decode cX7_drift 1 = .ok (.iconst 1, 1) := by decide +kernel
theorem dX7_drift_2 : decode cX7_drift 2 = .ok (.sipush 999, 3) := by decide +kernel
theorem dX7_drift_5 : decode cX7_drift 5 = .ok (.invokestatic 68, 3) := by decide +kernel
theorem dX7_drift_8 : decode cX7_drift 8 = .ok (.ifCond .ne 6, 3) := by decide +kernel
theorem dX7_drift_11 : decode cX7_drift 11 = .ok (.ldc 72, 2) := by decide +kernel
theorem dX7_drift_13 : decode cX7_drift 13 = .ok (.ireturn, 1) := by decide +kernel
theorem dX7_drift_14 : decode cX7_drift 14 = .ok (.iconst 0, 1) := by decide +kernel
theorem dX7_drift_15 : decode cX7_drift 15 = .ok (.istore_n 2, 1) := by decide +kernel
theorem dX7_drift_16 : decode cX7_drift 16 = .ok (.iconst 0, 1) := by decide +kernel
theorem dX7_drift_17 : decode cX7_drift 17 = .ok (.istore_n 3, 1) := by decide +kernel
theorem dX7_drift_18 : decode cX7_drift 18 = .ok (.iload_n 3, 1) := by decide +kernel
theorem dX7_drift_19 : decode cX7_drift 19 = .ok (.iload_n 1, 1) := by decide +kernel
theorem dX7_drift_20 : decode cX7_drift 20 = .ok (.if_icmp .ge 32, 3) := by decide +kernel
theorem dX7_drift_23 : decode cX7_drift 23 = .ok (.aload_n 0, 1) := by decide +kernel
theorem dX7_drift_24 : decode cX7_drift 24 = .ok (.getfield 29, 3) := by decide +kernel
theorem dX7_drift_27 : decode cX7_drift 27 = .ok (.aload_n 0, 1) := by decide +kernel
theorem dX7_drift_28 : decode cX7_drift 28 = .ok (.getfield 19, 3) := by decide +kernel
theorem dX7_drift_31 : decode cX7_drift 31 = .ok (.invokevirtual 183, 3) := by decide +kernel
theorem dX7_drift_34 : decode cX7_drift 34 = .ok (.aload_n 0, 1) := by decide +kernel
theorem dX7_drift_35 : decode cX7_drift 35 = .ok (.getfield 29, 3) := by decide +kernel
theorem dX7_drift_38 : decode cX7_drift 38 = .ok (.aload_n 0, 1) := by decide +kernel
theorem dX7_drift_39 : decode cX7_drift 39 = .ok (.getfield 19, 3) := by decide +kernel
theorem dX7_drift_42 : decode cX7_drift 42 = .ok (.invokevirtual 180, 3) := by decide +kernel
theorem dX7_drift_45 : decode cX7_drift 45 = .ok (.istore_n 2, 1) := by decide +kernel
theorem dX7_drift_46 : decode cX7_drift 46 = .ok (.iinc 3 1, 3) := by decide +kernel
theorem dX7_drift_49 : decode cX7_drift 49 = .ok (.goto (-31), 3) := by decide +kernel
theorem dX7_drift_52 : decode cX7_drift 52 = .ok (.iload_n 2, 1) := by decide +kernel
theorem dX7_drift_53 : decode cX7_drift 53 = .ok (.ireturn, 1) := by decide +kernel
set_option maxRecDepth 20000 in
theorem ggX7_own_X6_hasPerson : GoodIn wsX7_own wsX6_hasPerson := goodIn_r _ [15, 16, 50, 51, 52, 53, 54, 55, 56, 57, 58, 59, 60] (by decide +kernel) (by decide +kernel)
set_option maxRecDepth 20000 in
theorem gX7_own_X6_hasPerson : GoodIn wsX7_own (wsV RX7 154 RX6 yX6_hasPerson wsX6_hasPerson) := goodIn_app (goodIn_of _ (by decide +kernel)) ggX7_own_X6_hasPerson
set_option maxRecDepth 20000 in
theorem ggX7_own_X6_hasStone : GoodIn wsX7_own wsX6_hasStone := goodIn_r _ [20, 21, 50, 51, 52, 53, 54, 55, 56, 57, 58, 59, 60] (by decide +kernel) (by decide +kernel)
set_option maxRecDepth 20000 in
theorem gX7_own_X6_hasStone : GoodIn wsX7_own (wsV RX7 140 RX6 yX6_hasStone wsX6_hasStone) := goodIn_app (goodIn_of _ (by decide +kernel)) ggX7_own_X6_hasStone
set_option maxRecDepth 20000 in
theorem ggX7_own_X7_within : GoodIn wsX7_own wsX7_within := goodIn_r _ [25] (by decide +kernel) (by decide +kernel)
set_option maxRecDepth 20000 in
theorem gX7_own_X7_within : GoodIn wsX7_own (va_wsS RX7 68 yX7_within wsX7_within) := goodIn_app (goodIn_of _ (by decide +kernel)) ggX7_own_X7_within
set_option maxRecDepth 20000 in
theorem ggX7_own_X7_ownedAt : GoodIn wsX7_own wsX7_ownedAt := goodIn_r _ [28] (by decide +kernel) (by decide +kernel)
set_option maxRecDepth 20000 in
theorem gX7_own_X7_ownedAt : GoodIn wsX7_own (va_wsS RX7 175 yX7_ownedAt wsX7_ownedAt) := goodIn_app (goodIn_of _ (by decide +kernel)) ggX7_own_X7_ownedAt
theorem dX7_own_0 : decode cX7_own 0 = .ok (.aload_n 0, 1) := by decide +kernel
theorem dX7_own_1 : decode cX7_own 1 = .ok (.getfield 19, 3) := by decide +kernel
theorem dX7_own_4 : decode cX7_own 4 = .ok (.iload_n 1, 1) := by decide +kernel
theorem dX7_own_5 : decode cX7_own 5 = .ok (.invokevirtual 154, 3) := by decide +kernel
theorem dX7_own_8 : decode cX7_own 8 = .ok (.ifCond .eq 14, 3) := by decide +kernel
theorem dX7_own_11 : decode cX7_own 11 = .ok (.aload_n 0, 1) := by decide +kernel
theorem dX7_own_12 : decode cX7_own 12 = .ok (.getfield 19, 3) := by decide +kernel
theorem dX7_own_15 : decode cX7_own 15 = .ok (.iload_n 2, 1) := by decide +kernel
theorem dX7_own_16 : decode cX7_own 16 = .ok (.invokevirtual 140, 3) := by decide +kernel
theorem dX7_own_19 : decode cX7_own 19 = .ok (.ifCond .ne 6, 3) := by decide +kernel
theorem dX7_own_22 : decode cX7_own 22 = .ok (.ldc 143, 2) := by decide +kernel
theorem dX7_own_24 : decode cX7_own 24 = .ok (.ireturn, 1) := by decide +kernel
theorem dX7_own_25 : decode cX7_own 25 = .ok (.iload_n 3, 1) := by decide +kernel
theorem dX7_own_26 : decode cX7_own 26 = .ok (.iconst 1, 1) := by decide +kernel
theorem dX7_own_27 : decode cX7_own 27 = .ok (.sipush 9999, 3) := by decide +kernel
theorem dX7_own_30 : decode cX7_own 30 = .ok (.invokestatic 68, 3) := by decide +kernel
theorem dX7_own_33 : decode cX7_own 33 = .ok (.ifCond .ne 6, 3) := by decide +kernel
theorem dX7_own_36 : decode cX7_own 36 = .ok (.ldc 72, 2) := by decide +kernel
theorem dX7_own_38 : decode cX7_own 38 = .ok (.ireturn, 1) := by decide +kernel
theorem dX7_own_39 : decode cX7_own 39 = .ok (.iload_n 1, 1) := by decide +kernel
theorem dX7_own_40 : decode cX7_own 40 = .ok (.iload_n 2, 1) := by decide +kernel
theorem dX7_own_41 : decode cX7_own 41 = .ok (.invokestatic 175, 3) := by decide +kernel
theorem dX7_own_44 : decode cX7_own 44 = .ok (.istore 4, 2) := by decide +kernel
theorem dX7_own_46 : decode cX7_own 46 = .ok (.aload_n 0, 1) := by decide +kernel
theorem dX7_own_47 : decode cX7_own 47 = .ok (.getfield 29, 3) := by decide +kernel
theorem dX7_own_50 : decode cX7_own 50 = .ok (.getfield 172, 3) := by decide +kernel
theorem dX7_own_53 : decode cX7_own 53 = .ok (.iload 4, 2) := by decide +kernel
theorem dX7_own_55 : decode cX7_own 55 = .ok (.aload_n 0, 1) := by decide +kernel
theorem dX7_own_56 : decode cX7_own 56 = .ok (.getfield 29, 3) := by decide +kernel
theorem dX7_own_59 : decode cX7_own 59 = .ok (.getfield 172, 3) := by decide +kernel
theorem dX7_own_62 : decode cX7_own 62 = .ok (.iload 4, 2) := by decide +kernel
theorem dX7_own_64 : decode cX7_own 64 = .ok (.iaload, 1) := by decide +kernel
theorem dX7_own_65 : decode cX7_own 65 = .ok (.iload_n 3, 1) := by decide +kernel
theorem dX7_own_66 : decode cX7_own 66 = .ok (.iadd, 1) := by decide +kernel
theorem dX7_own_67 : decode cX7_own 67 = .ok (.ldc 186, 2) := by decide +kernel
theorem dX7_own_69 : decode cX7_own 69 = .ok (.invokestatic 187, 3) := by decide +kernel
theorem dX7_own_72 : decode cX7_own 72 = .ok (.iastore, 1) := by decide +kernel
theorem dX7_own_73 : decode cX7_own 73 = .ok (.aload_n 0, 1) := by decide +kernel
theorem dX7_own_74 : decode cX7_own 74 = .ok (.getfield 29, 3) := by decide +kernel
theorem dX7_own_77 : decode cX7_own 77 = .ok (.getfield 172, 3) := by decide +kernel
theorem dX7_own_80 : decode cX7_own 80 = .ok (.iload 4, 2) := by decide +kernel
theorem dX7_own_82 : decode cX7_own 82 = .ok (.iaload, 1) := by decide +kernel
theorem dX7_own_83 : decode cX7_own 83 = .ok (.ireturn, 1) := by decide +kernel
set_option maxRecDepth 20000 in
theorem ggX7_trade_X6_hasPerson : GoodIn wsX7_trade wsX6_hasPerson := goodIn_r _ [13, 14, 48, 49, 50, 51, 52, 53, 54, 55, 56, 57, 58] (by decide +kernel) (by decide +kernel)
set_option maxRecDepth 20000 in
theorem gX7_trade_X6_hasPerson : GoodIn wsX7_trade (wsV RX7 154 RX6 yX6_hasPerson wsX6_hasPerson) := goodIn_app (goodIn_of _ (by decide +kernel)) ggX7_trade_X6_hasPerson
set_option maxRecDepth 20000 in
theorem ggX7_trade_X6_hasStone : GoodIn wsX7_trade wsX6_hasStone := goodIn_r _ [18, 19, 48, 49, 50, 51, 52, 53, 54, 55, 56, 57, 58] (by decide +kernel) (by decide +kernel)
set_option maxRecDepth 20000 in
theorem gX7_trade_X6_hasStone : GoodIn wsX7_trade (wsV RX7 140 RX6 yX6_hasStone wsX6_hasStone) := goodIn_app (goodIn_of _ (by decide +kernel)) ggX7_trade_X6_hasStone
set_option maxRecDepth 20000 in
theorem ggX7_trade_X7_within : GoodIn wsX7_trade wsX7_within := goodIn_r _ [23] (by decide +kernel) (by decide +kernel)
set_option maxRecDepth 20000 in
theorem gX7_trade_X7_within : GoodIn wsX7_trade (va_wsS RX7 68 yX7_within wsX7_within) := goodIn_app (goodIn_of _ (by decide +kernel)) ggX7_trade_X7_within
set_option maxRecDepth 20000 in
theorem ggX7_trade_X7_ownedAt : GoodIn wsX7_trade wsX7_ownedAt := goodIn_r _ [26] (by decide +kernel) (by decide +kernel)
set_option maxRecDepth 20000 in
theorem gX7_trade_X7_ownedAt : GoodIn wsX7_trade (va_wsS RX7 175 yX7_ownedAt wsX7_ownedAt) := goodIn_app (goodIn_of _ (by decide +kernel)) ggX7_trade_X7_ownedAt
theorem dX7_trade_0 : decode cX7_trade 0 = .ok (.aload_n 0, 1) := by decide +kernel
theorem dX7_trade_1 : decode cX7_trade 1 = .ok (.getfield 19, 3) := by decide +kernel
theorem dX7_trade_4 : decode cX7_trade 4 = .ok (.iload_n 1, 1) := by decide +kernel
theorem dX7_trade_5 : decode cX7_trade 5 = .ok (.invokevirtual 154, 3) := by decide +kernel
theorem dX7_trade_8 : decode cX7_trade 8 = .ok (.ifCond .eq 30, 3) := by decide +kernel
theorem dX7_trade_11 : decode cX7_trade 11 = .ok (.aload_n 0, 1) := by decide +kernel
theorem dX7_trade_12 : decode cX7_trade 12 = .ok (.getfield 19, 3) := by decide +kernel
theorem dX7_trade_15 : decode cX7_trade 15 = .ok (.iload_n 2, 1) := by decide +kernel
theorem dX7_trade_16 : decode cX7_trade 16 = .ok (.invokevirtual 154, 3) := by decide +kernel
theorem dX7_trade_19 : decode cX7_trade 19 = .ok (.ifCond .eq 19, 3) := by decide +kernel
theorem dX7_trade_22 : decode cX7_trade 22 = .ok (.iload_n 1, 1) := by decide +kernel
theorem dX7_trade_23 : decode cX7_trade 23 = .ok (.iload_n 2, 1) := by decide +kernel
theorem dX7_trade_24 : decode cX7_trade 24 = .ok (.if_icmp .eq 14, 3) := by decide +kernel
theorem dX7_trade_27 : decode cX7_trade 27 = .ok (.aload_n 0, 1) := by decide +kernel
theorem dX7_trade_28 : decode cX7_trade 28 = .ok (.getfield 19, 3) := by decide +kernel
theorem dX7_trade_31 : decode cX7_trade 31 = .ok (.iload_n 3, 1) := by decide +kernel
theorem dX7_trade_32 : decode cX7_trade 32 = .ok (.invokevirtual 140, 3) := by decide +kernel
theorem dX7_trade_35 : decode cX7_trade 35 = .ok (.ifCond .ne 6, 3) := by decide +kernel
theorem dX7_trade_38 : decode cX7_trade 38 = .ok (.ldc 143, 2) := by decide +kernel
theorem dX7_trade_40 : decode cX7_trade 40 = .ok (.ireturn, 1) := by decide +kernel
theorem dX7_trade_41 : decode cX7_trade 41 = .ok (.iload 4, 2) := by decide +kernel
theorem dX7_trade_43 : decode cX7_trade 43 = .ok (.iconst 1, 1) := by decide +kernel
theorem dX7_trade_44 : decode cX7_trade 44 = .ok (.sipush 9999, 3) := by decide +kernel
theorem dX7_trade_47 : decode cX7_trade 47 = .ok (.invokestatic 68, 3) := by decide +kernel
theorem dX7_trade_50 : decode cX7_trade 50 = .ok (.ifCond .ne 6, 3) := by decide +kernel
theorem dX7_trade_53 : decode cX7_trade 53 = .ok (.ldc 72, 2) := by decide +kernel
theorem dX7_trade_55 : decode cX7_trade 55 = .ok (.ireturn, 1) := by decide +kernel
theorem dX7_trade_56 : decode cX7_trade 56 = .ok (.iload_n 1, 1) := by decide +kernel
theorem dX7_trade_57 : decode cX7_trade 57 = .ok (.iload_n 3, 1) := by decide +kernel
theorem dX7_trade_58 : decode cX7_trade 58 = .ok (.invokestatic 175, 3) := by decide +kernel
theorem dX7_trade_61 : decode cX7_trade 61 = .ok (.istore 5, 2) := by decide +kernel
theorem dX7_trade_63 : decode cX7_trade 63 = .ok (.iload_n 2, 1) := by decide +kernel
theorem dX7_trade_64 : decode cX7_trade 64 = .ok (.iload_n 3, 1) := by decide +kernel
theorem dX7_trade_65 : decode cX7_trade 65 = .ok (.invokestatic 175, 3) := by decide +kernel
theorem dX7_trade_68 : decode cX7_trade 68 = .ok (.istore 6, 2) := by decide +kernel
theorem dX7_trade_70 : decode cX7_trade 70 = .ok (.aload_n 0, 1) := by decide +kernel
theorem dX7_trade_71 : decode cX7_trade 71 = .ok (.getfield 29, 3) := by decide +kernel
theorem dX7_trade_74 : decode cX7_trade 74 = .ok (.getfield 172, 3) := by decide +kernel
theorem dX7_trade_77 : decode cX7_trade 77 = .ok (.iload 5, 2) := by decide +kernel
theorem dX7_trade_79 : decode cX7_trade 79 = .ok (.iaload, 1) := by decide +kernel
theorem dX7_trade_80 : decode cX7_trade 80 = .ok (.iload 4, 2) := by decide +kernel
theorem dX7_trade_82 : decode cX7_trade 82 = .ok (.if_icmp .ge 6, 3) := by decide +kernel
theorem dX7_trade_85 : decode cX7_trade 85 = .ok (.ldc 179, 2) := by decide +kernel
theorem dX7_trade_87 : decode cX7_trade 87 = .ok (.ireturn, 1) := by decide +kernel
theorem dX7_trade_88 : decode cX7_trade 88 = .ok (.aload_n 0, 1) := by decide +kernel
theorem dX7_trade_89 : decode cX7_trade 89 = .ok (.getfield 29, 3) := by decide +kernel
theorem dX7_trade_92 : decode cX7_trade 92 = .ok (.getfield 172, 3) := by decide +kernel
theorem dX7_trade_95 : decode cX7_trade 95 = .ok (.iload 6, 2) := by decide +kernel
theorem dX7_trade_97 : decode cX7_trade 97 = .ok (.iaload, 1) := by decide +kernel
theorem dX7_trade_98 : decode cX7_trade 98 = .ok (.iload 4, 2) := by decide +kernel
theorem dX7_trade_100 : decode cX7_trade 100 = .ok (.iadd, 1) := by decide +kernel
theorem dX7_trade_101 : decode cX7_trade 101 = .ok (.ldc 186, 2) := by decide +kernel
theorem dX7_trade_103 : decode cX7_trade 103 = .ok (.if_icmp .le 6, 3) := by decide +kernel
theorem dX7_trade_106 : decode cX7_trade 106 = .ok (.ldc 77, 2) := by decide +kernel
theorem dX7_trade_108 : decode cX7_trade 108 = .ok (.ireturn, 1) := by decide +kernel
theorem dX7_trade_109 : decode cX7_trade 109 = .ok (.aload_n 0, 1) := by decide +kernel
theorem dX7_trade_110 : decode cX7_trade 110 = .ok (.getfield 29, 3) := by decide +kernel
theorem dX7_trade_113 : decode cX7_trade 113 = .ok (.getfield 172, 3) := by decide +kernel
theorem dX7_trade_116 : decode cX7_trade 116 = .ok (.iload 5, 2) := by decide +kernel
theorem dX7_trade_118 : decode cX7_trade 118 = .ok (.dup2, 1) := by decide +kernel
theorem dX7_trade_119 : decode cX7_trade 119 = .ok (.iaload, 1) := by decide +kernel
theorem dX7_trade_120 : decode cX7_trade 120 = .ok (.iload 4, 2) := by decide +kernel
theorem dX7_trade_122 : decode cX7_trade 122 = .ok (.isub, 1) := by decide +kernel
theorem dX7_trade_123 : decode cX7_trade 123 = .ok (.iastore, 1) := by decide +kernel
theorem dX7_trade_124 : decode cX7_trade 124 = .ok (.aload_n 0, 1) := by decide +kernel
theorem dX7_trade_125 : decode cX7_trade 125 = .ok (.getfield 29, 3) := by decide +kernel
theorem dX7_trade_128 : decode cX7_trade 128 = .ok (.getfield 172, 3) := by decide +kernel
theorem dX7_trade_131 : decode cX7_trade 131 = .ok (.iload 6, 2) := by decide +kernel
theorem dX7_trade_133 : decode cX7_trade 133 = .ok (.dup2, 1) := by decide +kernel
theorem dX7_trade_134 : decode cX7_trade 134 = .ok (.iaload, 1) := by decide +kernel
theorem dX7_trade_135 : decode cX7_trade 135 = .ok (.iload 4, 2) := by decide +kernel
theorem dX7_trade_137 : decode cX7_trade 137 = .ok (.iadd, 1) := by decide +kernel
theorem dX7_trade_138 : decode cX7_trade 138 = .ok (.iastore, 1) := by decide +kernel
theorem dX7_trade_139 : decode cX7_trade 139 = .ok (.aload_n 0, 1) := by decide +kernel
theorem dX7_trade_140 : decode cX7_trade 140 = .ok (.getfield 29, 3) := by decide +kernel
theorem dX7_trade_143 : decode cX7_trade 143 = .ok (.getfield 172, 3) := by decide +kernel
theorem dX7_trade_146 : decode cX7_trade 146 = .ok (.iload 5, 2) := by decide +kernel
theorem dX7_trade_148 : decode cX7_trade 148 = .ok (.iaload, 1) := by decide +kernel
theorem dX7_trade_149 : decode cX7_trade 149 = .ok (.ireturn, 1) := by decide +kernel
set_option maxRecDepth 20000 in
theorem ggX7_forgive_X6_hasPerson : GoodIn wsX7_forgive wsX6_hasPerson := goodIn_r _ [10, 11, 33, 34, 35, 36, 37, 38, 39, 40, 41, 42, 43] (by decide +kernel) (by decide +kernel)
set_option maxRecDepth 20000 in
theorem gX7_forgive_X6_hasPerson : GoodIn wsX7_forgive (wsV RX7 154 RX6 yX6_hasPerson wsX6_hasPerson) := goodIn_app (goodIn_of _ (by decide +kernel)) ggX7_forgive_X6_hasPerson
theorem dX7_forgive_0 : decode cX7_forgive 0 = .ok (.aload_n 0, 1) := by decide +kernel
theorem dX7_forgive_1 : decode cX7_forgive 1 = .ok (.getfield 19, 3) := by decide +kernel
theorem dX7_forgive_4 : decode cX7_forgive 4 = .ok (.iload_n 1, 1) := by decide +kernel
theorem dX7_forgive_5 : decode cX7_forgive 5 = .ok (.invokevirtual 154, 3) := by decide +kernel
theorem dX7_forgive_8 : decode cX7_forgive 8 = .ok (.ifCond .ne 6, 3) := by decide +kernel
theorem dX7_forgive_11 : decode cX7_forgive 11 = .ok (.ldc 143, 2) := by decide +kernel
theorem dX7_forgive_13 : decode cX7_forgive 13 = .ok (.ireturn, 1) := by decide +kernel
theorem dX7_forgive_14 : decode cX7_forgive 14 = .ok (.aload_n 0, 1) := by decide +kernel
theorem dX7_forgive_15 : decode cX7_forgive 15 = .ok (.getfield 29, 3) := by decide +kernel
theorem dX7_forgive_18 : decode cX7_forgive 18 = .ok (.getfield 169, 3) := by decide +kernel
theorem dX7_forgive_21 : decode cX7_forgive 21 = .ok (.iload_n 1, 1) := by decide +kernel
theorem dX7_forgive_22 : decode cX7_forgive 22 = .ok (.iaload, 1) := by decide +kernel
theorem dX7_forgive_23 : decode cX7_forgive 23 = .ok (.istore_n 2, 1) := by decide +kernel
theorem dX7_forgive_24 : decode cX7_forgive 24 = .ok (.aload_n 0, 1) := by decide +kernel
theorem dX7_forgive_25 : decode cX7_forgive 25 = .ok (.getfield 29, 3) := by decide +kernel
theorem dX7_forgive_28 : decode cX7_forgive 28 = .ok (.getfield 169, 3) := by decide +kernel
theorem dX7_forgive_31 : decode cX7_forgive 31 = .ok (.iload_n 1, 1) := by decide +kernel
theorem dX7_forgive_32 : decode cX7_forgive 32 = .ok (.iconst 0, 1) := by decide +kernel
theorem dX7_forgive_33 : decode cX7_forgive 33 = .ok (.iastore, 1) := by decide +kernel
theorem dX7_forgive_34 : decode cX7_forgive 34 = .ok (.aload_n 0, 1) := by decide +kernel
theorem dX7_forgive_35 : decode cX7_forgive 35 = .ok (.getfield 29, 3) := by decide +kernel
theorem dX7_forgive_38 : decode cX7_forgive 38 = .ok (.getfield 166, 3) := by decide +kernel
theorem dX7_forgive_41 : decode cX7_forgive 41 = .ok (.iload_n 1, 1) := by decide +kernel
theorem dX7_forgive_42 : decode cX7_forgive 42 = .ok (.iconst 0, 1) := by decide +kernel
theorem dX7_forgive_43 : decode cX7_forgive 43 = .ok (.iastore, 1) := by decide +kernel
theorem dX7_forgive_44 : decode cX7_forgive 44 = .ok (.iload_n 2, 1) := by decide +kernel
theorem dX7_forgive_45 : decode cX7_forgive 45 = .ok (.ireturn, 1) := by decide +kernel
set_option maxRecDepth 20000 in
theorem ggX7_seating_X7_within : GoodIn wsX7_seating wsX7_within := goodIn_r _ [10] (by decide +kernel) (by decide +kernel)
set_option maxRecDepth 20000 in
theorem gX7_seating_X7_within : GoodIn wsX7_seating (va_wsS RX7 68 yX7_within wsX7_within) := goodIn_app (goodIn_of _ (by decide +kernel)) ggX7_seating_X7_within
set_option maxRecDepth 20000 in
theorem ggX7_seating_X6_hasPerson : GoodIn wsX7_seating wsX6_hasPerson := goodIn_r _ [15, 16, 110, 111, 112, 113, 114, 115, 116, 117, 118, 119, 120] (by decide +kernel) (by decide +kernel)
set_option maxRecDepth 20000 in
theorem gX7_seating_X6_hasPerson : GoodIn wsX7_seating (wsV RX7 154 RX6 yX6_hasPerson wsX6_hasPerson) := goodIn_app (goodIn_of _ (by decide +kernel)) ggX7_seating_X6_hasPerson
set_option maxRecDepth 20000 in
theorem ggX7_seating_X3_search : GoodIn wsX7_seating wsX3_search := goodIn_r _ [21, 22, 23, 24, 25, 26, 27, 20, 28, 29, 30, 31, 32, 33, 34, 35, 36, 37, 38, 39, 40, 41, 42, 43, 44, 45, 46, 47, 48, 49, 50, 51, 52, 53, 14, 54, 55, 56, 57, 58, 59, 60, 61, 62, 63, 64, 65, 66, 67, 68, 69, 70, 71, 72, 73, 74, 75, 76, 77, 78, 79, 80, 81, 82, 83, 84, 85, 86, 87, 88, 89, 90, 91, 92, 93, 110, 111, 112, 113, 114, 115, 116, 117, 118, 119, 120, 121, 122, 123, 124, 125, 126, 127, 128, 129, 130, 131, 132, 133, 134, 135, 136, 137, 138, 139] (by decide +kernel) (by decide +kernel)
set_option maxRecDepth 20000 in
theorem gX7_seating_X3_search : GoodIn wsX7_seating (wsV RX7 192 RX3 yX3_search wsX3_search) := goodIn_app (goodIn_of _ (by decide +kernel)) ggX7_seating_X3_search
set_option maxRecDepth 20000 in
theorem ggX7_seating_X3_answer : GoodIn wsX7_seating wsX3_answer := goodIn_r _ [97, 24, 88, 89, 98, 8, 9, 10, 121, 122, 123, 124, 125, 126, 127] (by decide +kernel) (by decide +kernel)
set_option maxRecDepth 20000 in
theorem gX7_seating_X3_answer : GoodIn wsX7_seating (wsV RX7 196 RX3 yX3_answer wsX3_answer) := goodIn_app (goodIn_of _ (by decide +kernel)) ggX7_seating_X3_answer
theorem dX7_seating_0 : decode cX7_seating 0 = .ok (.iload_n 1, 1) := by decide +kernel
theorem dX7_seating_1 : decode cX7_seating 1 = .ok (.iconst 1, 1) := by decide +kernel
theorem dX7_seating_2 : decode cX7_seating 2 = .ok (.bipush 60, 2) := by decide +kernel
theorem dX7_seating_4 : decode cX7_seating 4 = .ok (.invokestatic 68, 3) := by decide +kernel
theorem dX7_seating_7 : decode cX7_seating 7 = .ok (.ifCond .eq 25, 3) := by decide +kernel
theorem dX7_seating_10 : decode cX7_seating 10 = .ok (.iload_n 2, 1) := by decide +kernel
theorem dX7_seating_11 : decode cX7_seating 11 = .ok (.ifCond .lt 21, 3) := by decide +kernel
theorem dX7_seating_14 : decode cX7_seating 14 = .ok (.iload_n 2, 1) := by decide +kernel
theorem dX7_seating_15 : decode cX7_seating 15 = .ok (.iconst 1, 1) := by decide +kernel
theorem dX7_seating_16 : decode cX7_seating 16 = .ok (.if_icmp .le 19, 3) := by decide +kernel
theorem dX7_seating_19 : decode cX7_seating 19 = .ok (.aload_n 0, 1) := by decide +kernel
theorem dX7_seating_20 : decode cX7_seating 20 = .ok (.getfield 19, 3) := by decide +kernel
theorem dX7_seating_23 : decode cX7_seating 23 = .ok (.iload_n 2, 1) := by decide +kernel
theorem dX7_seating_24 : decode cX7_seating 24 = .ok (.iconst 2, 1) := by decide +kernel
theorem dX7_seating_25 : decode cX7_seating 25 = .ok (.isub, 1) := by decide +kernel
theorem dX7_seating_26 : decode cX7_seating 26 = .ok (.invokevirtual 154, 3) := by decide +kernel
theorem dX7_seating_29 : decode cX7_seating 29 = .ok (.ifCond .ne 6, 3) := by decide +kernel
theorem dX7_seating_32 : decode cX7_seating 32 = .ok (.ldc 72, 2) := by decide +kernel
theorem dX7_seating_34 : decode cX7_seating 34 = .ok (.ireturn, 1) := by decide +kernel
theorem dX7_seating_35 : decode cX7_seating 35 = .ok (.aload_n 0, 1) := by decide +kernel
theorem dX7_seating_36 : decode cX7_seating 36 = .ok (.getfield 19, 3) := by decide +kernel
theorem dX7_seating_39 : decode cX7_seating 39 = .ok (.getfield 106, 3) := by decide +kernel
theorem dX7_seating_42 : decode cX7_seating 42 = .ok (.iconst 1, 1) := by decide +kernel
theorem dX7_seating_43 : decode cX7_seating 43 = .ok (.iconst 4, 1) := by decide +kernel
theorem dX7_seating_44 : decode cX7_seating 44 = .ok (.invokestatic 68, 3) := by decide +kernel
theorem dX7_seating_47 : decode cX7_seating 47 = .ok (.ifCond .ne 6, 3) := by decide +kernel
theorem dX7_seating_50 : decode cX7_seating 50 = .ok (.ldc 179, 2) := by decide +kernel
theorem dX7_seating_52 : decode cX7_seating 52 = .ok (.ireturn, 1) := by decide +kernel
theorem dX7_seating_53 : decode cX7_seating 53 = .ok (.aload_n 0, 1) := by decide +kernel
theorem dX7_seating_54 : decode cX7_seating 54 = .ok (.getfield 57, 3) := by decide +kernel
theorem dX7_seating_57 : decode cX7_seating 57 = .ok (.aload_n 0, 1) := by decide +kernel
theorem dX7_seating_58 : decode cX7_seating 58 = .ok (.getfield 19, 3) := by decide +kernel
theorem dX7_seating_61 : decode cX7_seating 61 = .ok (.aload_n 0, 1) := by decide +kernel
theorem dX7_seating_62 : decode cX7_seating 62 = .ok (.getfield 29, 3) := by decide +kernel
theorem dX7_seating_65 : decode cX7_seating 65 = .ok (.iload_n 1, 1) := by decide +kernel
theorem dX7_seating_66 : decode cX7_seating 66 = .ok (.invokevirtual 192, 3) := by decide +kernel
theorem dX7_seating_69 : decode cX7_seating 69 = .ok (.aload_n 0, 1) := by decide +kernel
theorem dX7_seating_70 : decode cX7_seating 70 = .ok (.getfield 57, 3) := by decide +kernel
theorem dX7_seating_73 : decode cX7_seating 73 = .ok (.iload_n 2, 1) := by decide +kernel
theorem dX7_seating_74 : decode cX7_seating 74 = .ok (.invokevirtual 196, 3) := by decide +kernel
theorem dX7_seating_77 : decode cX7_seating 77 = .ok (.ireturn, 1) := by decide +kernel
set_option maxRecDepth 20000 in
theorem ggX7_passed_X6_hasStone : GoodIn wsX7_passed wsX6_hasStone := goodIn_r _ [11, 12, 109, 110, 111, 112, 113, 114, 115, 116, 117, 118, 119] (by decide +kernel) (by decide +kernel)
set_option maxRecDepth 20000 in
theorem gX7_passed_X6_hasStone : GoodIn wsX7_passed (wsV RX7 140 RX6 yX6_hasStone wsX6_hasStone) := goodIn_app (goodIn_of _ (by decide +kernel)) ggX7_passed_X6_hasStone
set_option maxRecDepth 20000 in
theorem ggX7_passed_J6_bitCount_0f7a4 : GoodIn wsX7_passed wsJ6_bitCount_0f7a4 := goodIn_r _ [16, 17, 18, 19] (by decide +kernel) (by decide +kernel)
set_option maxRecDepth 20000 in
theorem gX7_passed_J6_bitCount_0f7a4 : GoodIn wsX7_passed (va_wsS RX7 199 yJ6_bitCount_0f7a4 wsJ6_bitCount_0f7a4) := goodIn_app (goodIn_of _ (by decide +kernel)) ggX7_passed_J6_bitCount_0f7a4
set_option maxRecDepth 20000 in
theorem ggX7_passed_X7_within : GoodIn wsX7_passed wsX7_within := goodIn_r _ [23] (by decide +kernel) (by decide +kernel)
set_option maxRecDepth 20000 in
theorem gX7_passed_X7_within : GoodIn wsX7_passed (va_wsS RX7 68 yX7_within wsX7_within) := goodIn_app (goodIn_of _ (by decide +kernel)) ggX7_passed_X7_within
set_option maxRecDepth 20000 in
theorem ggX7_passed_X2_search : GoodIn wsX7_passed wsX2_search := goodIn_r _ [28, 29, 30, 31, 32, 33, 34, 35, 27, 36, 37, 38, 39, 40, 41, 42, 43, 44, 45, 46, 47, 48, 49, 50, 51, 52, 53, 54, 55, 56, 57, 58, 59, 60, 61, 62, 10, 63, 64, 65, 66, 67, 68, 69, 70, 71, 72, 73, 74, 75, 76, 77, 78, 79, 80, 81, 8, 9, 11, 12, 82, 83, 84, 85, 86, 87, 88, 89, 90, 91, 92, 120, 121, 122, 123, 124, 125, 126, 127, 128, 129, 130, 131, 132, 133, 134, 135, 136, 109, 110, 111, 112, 113, 114, 115, 116, 117, 118, 119, 137, 138] (by decide +kernel) (by decide +kernel)
set_option maxRecDepth 20000 in
theorem gX7_passed_X2_search : GoodIn wsX7_passed (wsV RX7 204 RX2 yX2_search wsX2_search) := goodIn_app (goodIn_of _ (by decide +kernel)) ggX7_passed_X2_search
set_option maxRecDepth 20000 in
theorem ggX7_passed_X2_answer : GoodIn wsX7_passed wsX2_answer := goodIn_r _ [96, 43, 44, 97, 21, 22, 23, 120, 121, 122, 123, 124, 125, 126] (by decide +kernel) (by decide +kernel)
set_option maxRecDepth 20000 in
theorem gX7_passed_X2_answer : GoodIn wsX7_passed (wsV RX7 207 RX2 yX2_answer wsX2_answer) := goodIn_app (goodIn_of _ (by decide +kernel)) ggX7_passed_X2_answer
theorem dX7_passed_0 : decode cX7_passed 0 = .ok (.aload_n 0, 1) := by decide +kernel
theorem dX7_passed_1 : decode cX7_passed 1 = .ok (.getfield 19, 3) := by decide +kernel
theorem dX7_passed_4 : decode cX7_passed 4 = .ok (.iload_n 1, 1) := by decide +kernel
theorem dX7_passed_5 : decode cX7_passed 5 = .ok (.invokevirtual 140, 3) := by decide +kernel
theorem dX7_passed_8 : decode cX7_passed 8 = .ok (.ifCond .eq 15, 3) := by decide +kernel
theorem dX7_passed_11 : decode cX7_passed 11 = .ok (.iload_n 2, 1) := by decide +kernel
theorem dX7_passed_12 : decode cX7_passed 12 = .ok (.aload_n 0, 1) := by decide +kernel
theorem dX7_passed_13 : decode cX7_passed 13 = .ok (.getfield 19, 3) := by decide +kernel
theorem dX7_passed_16 : decode cX7_passed 16 = .ok (.getfield 106, 3) := by decide +kernel
theorem dX7_passed_19 : decode cX7_passed 19 = .ok (.iushr, 1) := by decide +kernel
theorem dX7_passed_20 : decode cX7_passed 20 = .ok (.ifCond .eq 6, 3) := by decide +kernel
theorem dX7_passed_23 : decode cX7_passed 23 = .ok (.ldc 143, 2) := by decide +kernel
theorem dX7_passed_25 : decode cX7_passed 25 = .ok (.ireturn, 1) := by decide +kernel
theorem dX7_passed_26 : decode cX7_passed 26 = .ok (.iload_n 2, 1) := by decide +kernel
theorem dX7_passed_27 : decode cX7_passed 27 = .ok (.invokestatic 199, 3) := by decide +kernel
theorem dX7_passed_30 : decode cX7_passed 30 = .ok (.istore 5, 2) := by decide +kernel
theorem dX7_passed_32 : decode cX7_passed 32 = .ok (.iload_n 3, 1) := by decide +kernel
theorem dX7_passed_33 : decode cX7_passed 33 = .ok (.iconst 1, 1) := by decide +kernel
theorem dX7_passed_34 : decode cX7_passed 34 = .ok (.bipush 60, 2) := by decide +kernel
theorem dX7_passed_36 : decode cX7_passed 36 = .ok (.invokestatic 68, 3) := by decide +kernel
theorem dX7_passed_39 : decode cX7_passed 39 = .ok (.ifCond .eq 25, 3) := by decide +kernel
theorem dX7_passed_42 : decode cX7_passed 42 = .ok (.iload 5, 2) := by decide +kernel
theorem dX7_passed_44 : decode cX7_passed 44 = .ok (.iconst 1, 1) := by decide +kernel
theorem dX7_passed_45 : decode cX7_passed 45 = .ok (.bipush 6, 2) := by decide +kernel
theorem dX7_passed_47 : decode cX7_passed 47 = .ok (.invokestatic 68, 3) := by decide +kernel
theorem dX7_passed_50 : decode cX7_passed 50 = .ok (.ifCond .eq 14, 3) := by decide +kernel
theorem dX7_passed_53 : decode cX7_passed 53 = .ok (.iload 4, 2) := by decide +kernel
theorem dX7_passed_55 : decode cX7_passed 55 = .ok (.iconst 0, 1) := by decide +kernel
theorem dX7_passed_56 : decode cX7_passed 56 = .ok (.iload 5, 2) := by decide +kernel
theorem dX7_passed_58 : decode cX7_passed 58 = .ok (.invokestatic 68, 3) := by decide +kernel
theorem dX7_passed_61 : decode cX7_passed 61 = .ok (.ifCond .ne 6, 3) := by decide +kernel
theorem dX7_passed_64 : decode cX7_passed 64 = .ok (.ldc 72, 2) := by decide +kernel
theorem dX7_passed_66 : decode cX7_passed 66 = .ok (.ireturn, 1) := by decide +kernel
theorem dX7_passed_67 : decode cX7_passed 67 = .ok (.aload_n 0, 1) := by decide +kernel
theorem dX7_passed_68 : decode cX7_passed 68 = .ok (.getfield 64, 3) := by decide +kernel
theorem dX7_passed_71 : decode cX7_passed 71 = .ok (.aload_n 0, 1) := by decide +kernel
theorem dX7_passed_72 : decode cX7_passed 72 = .ok (.getfield 19, 3) := by decide +kernel
theorem dX7_passed_75 : decode cX7_passed 75 = .ok (.aload_n 0, 1) := by decide +kernel
theorem dX7_passed_76 : decode cX7_passed 76 = .ok (.getfield 29, 3) := by decide +kernel
theorem dX7_passed_79 : decode cX7_passed 79 = .ok (.iload_n 1, 1) := by decide +kernel
theorem dX7_passed_80 : decode cX7_passed 80 = .ok (.iload_n 2, 1) := by decide +kernel
theorem dX7_passed_81 : decode cX7_passed 81 = .ok (.iload_n 3, 1) := by decide +kernel
theorem dX7_passed_82 : decode cX7_passed 82 = .ok (.invokevirtual 204, 3) := by decide +kernel
theorem dX7_passed_85 : decode cX7_passed 85 = .ok (.aload_n 0, 1) := by decide +kernel
theorem dX7_passed_86 : decode cX7_passed 86 = .ok (.getfield 64, 3) := by decide +kernel
theorem dX7_passed_89 : decode cX7_passed 89 = .ok (.iload 4, 2) := by decide +kernel
theorem dX7_passed_91 : decode cX7_passed 91 = .ok (.invokevirtual 207, 3) := by decide +kernel
theorem dX7_passed_94 : decode cX7_passed 94 = .ok (.ireturn, 1) := by decide +kernel
set_option maxRecDepth 20000 in
theorem ggX7_gift_X6_hasPerson : GoodIn wsX7_gift wsX6_hasPerson := goodIn_r _ [9, 10, 44, 45, 46, 47, 48, 49, 50, 51, 52, 53, 54] (by decide +kernel) (by decide +kernel)
set_option maxRecDepth 20000 in
theorem gX7_gift_X6_hasPerson : GoodIn wsX7_gift (wsV RX7 154 RX6 yX6_hasPerson wsX6_hasPerson) := goodIn_app (goodIn_of _ (by decide +kernel)) ggX7_gift_X6_hasPerson
set_option maxRecDepth 20000 in
theorem ggX7_gift_X7_within : GoodIn wsX7_gift wsX7_within := goodIn_r _ [14] (by decide +kernel) (by decide +kernel)
set_option maxRecDepth 20000 in
theorem gX7_gift_X7_within : GoodIn wsX7_gift (va_wsS RX7 68 yX7_within wsX7_within) := goodIn_app (goodIn_of _ (by decide +kernel)) ggX7_gift_X7_within
set_option maxRecDepth 20000 in
theorem ggX7_gift_X7_giftOf : GoodIn wsX7_gift wsX7_giftOf := goodIn_r _ [18, 1, 19, 20, 21, 22, 23, 24, 25, 26, 27, 28, 8, 29, 30, 31, 32, 33, 34, 35, 36, 37, 38, 39, 40, 41, 42, 43, 44, 45, 46, 47, 48, 49, 50, 51, 52, 53, 54, 55, 56, 57, 58, 59, 60, 61, 62, 63, 64] (by decide +kernel) (by decide +kernel)
set_option maxRecDepth 20000 in
theorem gX7_gift_X7_giftOf : GoodIn wsX7_gift (wsV RX7 208 RX7 yX7_giftOf wsX7_giftOf) := goodIn_app (goodIn_of _ (by decide +kernel)) ggX7_gift_X7_giftOf
theorem dX7_gift_0 : decode cX7_gift 0 = .ok (.aload_n 0, 1) := by decide +kernel
theorem dX7_gift_1 : decode cX7_gift 1 = .ok (.getfield 19, 3) := by decide +kernel
theorem dX7_gift_4 : decode cX7_gift 4 = .ok (.iload_n 1, 1) := by decide +kernel
theorem dX7_gift_5 : decode cX7_gift 5 = .ok (.invokevirtual 154, 3) := by decide +kernel
theorem dX7_gift_8 : decode cX7_gift 8 = .ok (.ifCond .ne 6, 3) := by decide +kernel
theorem dX7_gift_11 : decode cX7_gift 11 = .ok (.ldc 143, 2) := by decide +kernel
theorem dX7_gift_13 : decode cX7_gift 13 = .ok (.ireturn, 1) := by decide +kernel
theorem dX7_gift_14 : decode cX7_gift 14 = .ok (.iload_n 2, 1) := by decide +kernel
theorem dX7_gift_15 : decode cX7_gift 15 = .ok (.iconst 0, 1) := by decide +kernel
theorem dX7_gift_16 : decode cX7_gift 16 = .ok (.bipush 99, 2) := by decide +kernel
theorem dX7_gift_18 : decode cX7_gift 18 = .ok (.invokestatic 68, 3) := by decide +kernel
theorem dX7_gift_21 : decode cX7_gift 21 = .ok (.ifCond .ne 6, 3) := by decide +kernel
theorem dX7_gift_24 : decode cX7_gift 24 = .ok (.ldc 72, 2) := by decide +kernel
theorem dX7_gift_26 : decode cX7_gift 26 = .ok (.ireturn, 1) := by decide +kernel
theorem dX7_gift_27 : decode cX7_gift 27 = .ok (.iconst 0, 1) := by decide +kernel
theorem dX7_gift_28 : decode cX7_gift 28 = .ok (.istore_n 3, 1) := by decide +kernel
theorem dX7_gift_29 : decode cX7_gift 29 = .ok (.iconst 0, 1) := by decide +kernel
theorem dX7_gift_30 : decode cX7_gift 30 = .ok (.istore 4, 2) := by decide +kernel
theorem dX7_gift_32 : decode cX7_gift 32 = .ok (.iload 4, 2) := by decide +kernel
theorem dX7_gift_34 : decode cX7_gift 34 = .ok (.aload_n 0, 1) := by decide +kernel
theorem dX7_gift_35 : decode cX7_gift 35 = .ok (.getfield 19, 3) := by decide +kernel
theorem dX7_gift_38 : decode cX7_gift 38 = .ok (.getfield 106, 3) := by decide +kernel
theorem dX7_gift_41 : decode cX7_gift 41 = .ok (.if_icmp .ge 25, 3) := by decide +kernel
theorem dX7_gift_44 : decode cX7_gift 44 = .ok (.iload 4, 2) := by decide +kernel
theorem dX7_gift_46 : decode cX7_gift 46 = .ok (.iload_n 1, 1) := by decide +kernel
theorem dX7_gift_47 : decode cX7_gift 47 = .ok (.if_icmp .eq 13, 3) := by decide +kernel
theorem dX7_gift_50 : decode cX7_gift 50 = .ok (.iload_n 3, 1) := by decide +kernel
theorem dX7_gift_51 : decode cX7_gift 51 = .ok (.aload_n 0, 1) := by decide +kernel
theorem dX7_gift_52 : decode cX7_gift 52 = .ok (.iload 4, 2) := by decide +kernel
theorem dX7_gift_54 : decode cX7_gift 54 = .ok (.iload_n 2, 1) := by decide +kernel
theorem dX7_gift_55 : decode cX7_gift 55 = .ok (.invokevirtual 208, 3) := by decide +kernel
theorem dX7_gift_58 : decode cX7_gift 58 = .ok (.iadd, 1) := by decide +kernel
theorem dX7_gift_59 : decode cX7_gift 59 = .ok (.istore_n 3, 1) := by decide +kernel
theorem dX7_gift_60 : decode cX7_gift 60 = .ok (.iinc 4 1, 3) := by decide +kernel
theorem dX7_gift_63 : decode cX7_gift 63 = .ok (.goto (-31), 3) := by decide +kernel
theorem dX7_gift_66 : decode cX7_gift 66 = .ok (.iload_n 3, 1) := by decide +kernel
theorem dX7_gift_67 : decode cX7_gift 67 = .ok (.ireturn, 1) := by decide +kernel
set_option maxRecDepth 20000 in
theorem ggX7_palms_X6_hasStone : GoodIn wsX7_palms wsX6_hasStone := goodIn_r _ [18, 19, 78, 79, 80, 81, 82, 83, 84, 85, 86, 87, 88] (by decide +kernel) (by decide +kernel)
set_option maxRecDepth 20000 in
theorem gX7_palms_X6_hasStone : GoodIn wsX7_palms (wsV RX7 140 RX6 yX6_hasStone wsX6_hasStone) := goodIn_app (goodIn_of _ (by decide +kernel)) ggX7_palms_X6_hasStone
set_option maxRecDepth 20000 in
theorem ggX7_palms_X7_within : GoodIn wsX7_palms wsX7_within := goodIn_r _ [23] (by decide +kernel) (by decide +kernel)
set_option maxRecDepth 20000 in
theorem gX7_palms_X7_within : GoodIn wsX7_palms (va_wsS RX7 68 yX7_within wsX7_within) := goodIn_app (goodIn_of _ (by decide +kernel)) ggX7_palms_X7_within
set_option maxRecDepth 20000 in
theorem ggX7_palms_X4_begin : GoodIn wsX7_palms wsX4_begin := goodIn_r _ [28, 29, 30, 99, 100] (by decide +kernel) (by decide +kernel)
set_option maxRecDepth 20000 in
theorem gX7_palms_X4_begin : GoodIn wsX7_palms (wsV RX7 211 RX4 yX4_begin wsX4_begin) := goodIn_app (goodIn_of _ (by decide +kernel)) ggX7_palms_X4_begin
set_option maxRecDepth 20000 in
theorem ggX7_palms_X4_passMinute : GoodIn wsX7_palms wsX4_passMinute := goodIn_r _ [34, 29, 30, 35, 36, 12, 37, 38, 15, 16, 17, 18, 19, 39, 40, 41, 42, 43, 44, 45, 46, 47, 48, 49, 50, 51, 52, 53, 54, 55, 56, 57, 99, 100, 78, 79, 80, 81, 82, 83, 84, 85, 86, 87, 88] (by decide +kernel) (by decide +kernel)
set_option maxRecDepth 20000 in
theorem gX7_palms_X4_passMinute : GoodIn wsX7_palms (wsV RX7 214 RX4 yX4_passMinute wsX4_passMinute) := goodIn_app (goodIn_of _ (by decide +kernel)) ggX7_palms_X4_passMinute
set_option maxRecDepth 20000 in
theorem ggX7_palms_X6_heatLeft : GoodIn wsX7_palms wsX6_heatLeft := goodIn_r _ [61, 62, 63, 64, 17, 65, 66, 45, 46, 12, 47, 78, 79, 80, 81, 82, 83, 84, 85, 86, 87, 88] (by decide +kernel) (by decide +kernel)
set_option maxRecDepth 20000 in
theorem gX7_palms_X6_heatLeft : GoodIn wsX7_palms (wsV RX7 219 RX6 yX6_heatLeft wsX6_heatLeft) := goodIn_app (goodIn_of _ (by decide +kernel)) ggX7_palms_X6_heatLeft
theorem dX7_palms_0 : decode cX7_palms 0 = .ok (.aload_n 0, 1) := by decide +kernel
theorem dX7_palms_1 : decode cX7_palms 1 = .ok (.getfield 19, 3) := by decide +kernel
theorem dX7_palms_4 : decode cX7_palms 4 = .ok (.iload_n 1, 1) := by decide +kernel
theorem dX7_palms_5 : decode cX7_palms 5 = .ok (.invokevirtual 140, 3) := by decide +kernel
theorem dX7_palms_8 : decode cX7_palms 8 = .ok (.ifCond .ne 6, 3) := by decide +kernel
theorem dX7_palms_11 : decode cX7_palms 11 = .ok (.ldc 143, 2) := by decide +kernel
theorem dX7_palms_13 : decode cX7_palms 13 = .ok (.ireturn, 1) := by decide +kernel
theorem dX7_palms_14 : decode cX7_palms 14 = .ok (.iload_n 2, 1) := by decide +kernel
theorem dX7_palms_15 : decode cX7_palms 15 = .ok (.iconst 1, 1) := by decide +kernel
theorem dX7_palms_16 : decode cX7_palms 16 = .ok (.bipush 60, 2) := by decide +kernel
theorem dX7_palms_18 : decode cX7_palms 18 = .ok (.invokestatic 68, 3) := by decide +kernel
theorem dX7_palms_21 : decode cX7_palms 21 = .ok (.ifCond .eq 26, 3) := by decide +kernel
theorem dX7_palms_24 : decode cX7_palms 24 = .ok (.iload_n 3, 1) := by decide +kernel
theorem dX7_palms_25 : decode cX7_palms 25 = .ok (.iconst 0, 1) := by decide +kernel
theorem dX7_palms_26 : decode cX7_palms 26 = .ok (.sipush 9999, 3) := by decide +kernel
theorem dX7_palms_29 : decode cX7_palms 29 = .ok (.invokestatic 68, 3) := by decide +kernel
theorem dX7_palms_32 : decode cX7_palms 32 = .ok (.ifCond .eq 15, 3) := by decide +kernel
theorem dX7_palms_35 : decode cX7_palms 35 = .ok (.iload 4, 2) := by decide +kernel
theorem dX7_palms_37 : decode cX7_palms 37 = .ok (.iconst 0, 1) := by decide +kernel
theorem dX7_palms_38 : decode cX7_palms 38 = .ok (.sipush 9999, 3) := by decide +kernel
theorem dX7_palms_41 : decode cX7_palms 41 = .ok (.invokestatic 68, 3) := by decide +kernel
theorem dX7_palms_44 : decode cX7_palms 44 = .ok (.ifCond .ne 6, 3) := by decide +kernel
theorem dX7_palms_47 : decode cX7_palms 47 = .ok (.ldc 72, 2) := by decide +kernel
theorem dX7_palms_49 : decode cX7_palms 49 = .ok (.ireturn, 1) := by decide +kernel
theorem dX7_palms_50 : decode cX7_palms 50 = .ok (.iconst 0, 1) := by decide +kernel
theorem dX7_palms_51 : decode cX7_palms 51 = .ok (.istore 6, 2) := by decide +kernel
theorem dX7_palms_53 : decode cX7_palms 53 = .ok (.iconst 0, 1) := by decide +kernel
theorem dX7_palms_54 : decode cX7_palms 54 = .ok (.istore 7, 2) := by decide +kernel
theorem dX7_palms_56 : decode cX7_palms 56 = .ok (.iload 7, 2) := by decide +kernel
theorem dX7_palms_58 : decode cX7_palms 58 = .ok (.aload_n 0, 1) := by decide +kernel
theorem dX7_palms_59 : decode cX7_palms 59 = .ok (.getfield 19, 3) := by decide +kernel
theorem dX7_palms_62 : decode cX7_palms 62 = .ok (.getfield 106, 3) := by decide +kernel
theorem dX7_palms_65 : decode cX7_palms 65 = .ok (.if_icmp .ge 116, 3) := by decide +kernel
theorem dX7_palms_68 : decode cX7_palms 68 = .ok (.aload_n 0, 1) := by decide +kernel
theorem dX7_palms_69 : decode cX7_palms 69 = .ok (.getfield 50, 3) := by decide +kernel
theorem dX7_palms_72 : decode cX7_palms 72 = .ok (.aload_n 0, 1) := by decide +kernel
theorem dX7_palms_73 : decode cX7_palms 73 = .ok (.getfield 29, 3) := by decide +kernel
theorem dX7_palms_76 : decode cX7_palms 76 = .ok (.getfield 135, 3) := by decide +kernel
theorem dX7_palms_79 : decode cX7_palms 79 = .ok (.iload 7, 2) := by decide +kernel
theorem dX7_palms_81 : decode cX7_palms 81 = .ok (.iaload, 1) := by decide +kernel
theorem dX7_palms_82 : decode cX7_palms 82 = .ok (.aload_n 0, 1) := by decide +kernel
theorem dX7_palms_83 : decode cX7_palms 83 = .ok (.getfield 29, 3) := by decide +kernel
theorem dX7_palms_86 : decode cX7_palms 86 = .ok (.getfield 132, 3) := by decide +kernel
theorem dX7_palms_89 : decode cX7_palms 89 = .ok (.iload_n 1, 1) := by decide +kernel
theorem dX7_palms_90 : decode cX7_palms 90 = .ok (.iaload, 1) := by decide +kernel
theorem dX7_palms_91 : decode cX7_palms 91 = .ok (.invokevirtual 211, 3) := by decide +kernel
theorem dX7_palms_94 : decode cX7_palms 94 = .ok (.iconst 1, 1) := by decide +kernel
theorem dX7_palms_95 : decode cX7_palms 95 = .ok (.istore 8, 2) := by decide +kernel
theorem dX7_palms_97 : decode cX7_palms 97 = .ok (.iload 8, 2) := by decide +kernel
theorem dX7_palms_99 : decode cX7_palms 99 = .ok (.iload_n 2, 1) := by decide +kernel
theorem dX7_palms_100 : decode cX7_palms 100 = .ok (.if_icmp .gt 75, 3) := by decide +kernel
theorem dX7_palms_103 : decode cX7_palms 103 = .ok (.aload_n 0, 1) := by decide +kernel
theorem dX7_palms_104 : decode cX7_palms 104 = .ok (.getfield 50, 3) := by decide +kernel
theorem dX7_palms_107 : decode cX7_palms 107 = .ok (.aload_n 0, 1) := by decide +kernel
theorem dX7_palms_108 : decode cX7_palms 108 = .ok (.getfield 19, 3) := by decide +kernel
theorem dX7_palms_111 : decode cX7_palms 111 = .ok (.iload 7, 2) := by decide +kernel
theorem dX7_palms_113 : decode cX7_palms 113 = .ok (.iload_n 1, 1) := by decide +kernel
theorem dX7_palms_114 : decode cX7_palms 114 = .ok (.invokevirtual 214, 3) := by decide +kernel
theorem dX7_palms_117 : decode cX7_palms 117 = .ok (.aload_n 0, 1) := by decide +kernel
theorem dX7_palms_118 : decode cX7_palms 118 = .ok (.getfield 19, 3) := by decide +kernel
theorem dX7_palms_121 : decode cX7_palms 121 = .ok (.iload_n 1, 1) := by decide +kernel
theorem dX7_palms_122 : decode cX7_palms 122 = .ok (.aload_n 0, 1) := by decide +kernel
theorem dX7_palms_123 : decode cX7_palms 123 = .ok (.getfield 50, 3) := by decide +kernel
theorem dX7_palms_126 : decode cX7_palms 126 = .ok (.getfield 217, 3) := by decide +kernel
theorem dX7_palms_129 : decode cX7_palms 129 = .ok (.iload_n 2, 1) := by decide +kernel
theorem dX7_palms_130 : decode cX7_palms 130 = .ok (.iload 8, 2) := by decide +kernel
theorem dX7_palms_132 : decode cX7_palms 132 = .ok (.isub, 1) := by decide +kernel
theorem dX7_palms_133 : decode cX7_palms 133 = .ok (.invokevirtual 219, 3) := by decide +kernel
theorem dX7_palms_136 : decode cX7_palms 136 = .ok (.istore 9, 2) := by decide +kernel
theorem dX7_palms_138 : decode cX7_palms 138 = .ok (.iload 9, 2) := by decide +kernel
theorem dX7_palms_140 : decode cX7_palms 140 = .ok (.iload_n 3, 1) := by decide +kernel
theorem dX7_palms_141 : decode cX7_palms 141 = .ok (.isub, 1) := by decide +kernel
theorem dX7_palms_142 : decode cX7_palms 142 = .ok (.invokestatic 223, 3) := by decide +kernel
theorem dX7_palms_145 : decode cX7_palms 145 = .ok (.iload 4, 2) := by decide +kernel
theorem dX7_palms_147 : decode cX7_palms 147 = .ok (.if_icmp .gt 22, 3) := by decide +kernel
theorem dX7_palms_150 : decode cX7_palms 150 = .ok (.iload 6, 2) := by decide +kernel
theorem dX7_palms_152 : decode cX7_palms 152 = .ok (.iload 5, 2) := by decide +kernel
theorem dX7_palms_154 : decode cX7_palms 154 = .ok (.if_icmp .ne 12, 3) := by decide +kernel
theorem dX7_palms_157 : decode cX7_palms 157 = .ok (.bipush 100, 2) := by decide +kernel
theorem dX7_palms_159 : decode cX7_palms 159 = .ok (.iload 7, 2) := by decide +kernel
theorem dX7_palms_161 : decode cX7_palms 161 = .ok (.imul, 1) := by decide +kernel
theorem dX7_palms_162 : decode cX7_palms 162 = .ok (.iload 8, 2) := by decide +kernel
theorem dX7_palms_164 : decode cX7_palms 164 = .ok (.iadd, 1) := by decide +kernel
theorem dX7_palms_165 : decode cX7_palms 165 = .ok (.ireturn, 1) := by decide +kernel
theorem dX7_palms_166 : decode cX7_palms 166 = .ok (.iinc 6 1, 3) := by decide +kernel
theorem dX7_palms_169 : decode cX7_palms 169 = .ok (.iinc 8 1, 3) := by decide +kernel
theorem dX7_palms_172 : decode cX7_palms 172 = .ok (.goto (-75), 3) := by decide +kernel
theorem dX7_palms_175 : decode cX7_palms 175 = .ok (.iinc 7 1, 3) := by decide +kernel
theorem dX7_palms_178 : decode cX7_palms 178 = .ok (.goto (-122), 3) := by decide +kernel
theorem dX7_palms_181 : decode cX7_palms 181 = .ok (.iload 5, 2) := by decide +kernel
theorem dX7_palms_183 : decode cX7_palms 183 = .ok (.iconst (-1), 1) := by decide +kernel
theorem dX7_palms_184 : decode cX7_palms 184 = .ok (.if_icmp .ne 8, 3) := by decide +kernel
theorem dX7_palms_187 : decode cX7_palms 187 = .ok (.iload 6, 2) := by decide +kernel
theorem dX7_palms_189 : decode cX7_palms 189 = .ok (.goto 4, 3) := by decide +kernel
theorem dX7_palms_192 : decode cX7_palms 192 = .ok (.iconst (-1), 1) := by decide +kernel
theorem dX7_palms_193 : decode cX7_palms 193 = .ok (.ireturn, 1) := by decide +kernel
set_option maxRecDepth 20000 in
theorem ggX7_safe_X1_copyFrom : GoodIn wsX7_safe wsX1_copyFrom := goodIn_r _ [8, 9, 10, 11, 12, 13, 14, 15, 16, 17, 18, 19, 20, 21, 22, 95, 96, 97, 98, 99, 100, 101, 102, 103, 104] (by decide +kernel) (by decide +kernel)
set_option maxRecDepth 20000 in
theorem gX7_safe_X1_copyFrom : GoodIn wsX7_safe (wsV RX7 226 RX1 yX1_copyFrom wsX1_copyFrom) := goodIn_app (goodIn_of _ (by decide +kernel)) ggX7_safe_X1_copyFrom
set_option maxRecDepth 20000 in
theorem ggX7_safe_X1_passMinute : GoodIn wsX7_safe wsX1_passMinute := goodIn_r _ [26, 27, 15, 18, 28, 14, 29, 16, 21, 30, 31, 32, 33, 34, 35, 36, 37, 38, 7, 39, 9, 40, 41, 42, 43, 44, 45, 46, 47, 48, 49, 50, 51, 52, 53, 54, 55, 56, 57, 58, 59, 19, 17, 60, 61, 62, 63, 64, 65, 66, 67, 68, 69, 70, 71, 72, 73, 20, 74, 75, 76, 77, 78, 79, 80, 81, 82, 83, 105, 106, 107, 108, 109, 110, 111, 112, 113, 114, 115, 95, 96, 97, 98, 99, 100, 101, 102, 103, 104] (by decide +kernel) (by decide +kernel)
set_option maxRecDepth 20000 in
theorem gX7_safe_X1_passMinute : GoodIn wsX7_safe (wsV RX7 180 RX1 yX1_passMinute wsX1_passMinute) := goodIn_app (goodIn_of _ (by decide +kernel)) ggX7_safe_X1_passMinute
theorem dX7_safe_0 : decode cX7_safe 0 = .ok (.aload_n 0, 1) := by decide +kernel
theorem dX7_safe_1 : decode cX7_safe 1 = .ok (.getfield 33, 3) := by decide +kernel
theorem dX7_safe_4 : decode cX7_safe 4 = .ok (.aload_n 0, 1) := by decide +kernel
theorem dX7_safe_5 : decode cX7_safe 5 = .ok (.getfield 29, 3) := by decide +kernel
theorem dX7_safe_8 : decode cX7_safe 8 = .ok (.invokevirtual 226, 3) := by decide +kernel
theorem dX7_safe_11 : decode cX7_safe 11 = .ok (.iconst 0, 1) := by decide +kernel
theorem dX7_safe_12 : decode cX7_safe 12 = .ok (.istore_n 1, 1) := by decide +kernel
theorem dX7_safe_13 : decode cX7_safe 13 = .ok (.iload_n 1, 1) := by decide +kernel
theorem dX7_safe_14 : decode cX7_safe 14 = .ok (.sipush 999, 3) := by decide +kernel
theorem dX7_safe_17 : decode cX7_safe 17 = .ok (.if_icmp .ge 25, 3) := by decide +kernel
theorem dX7_safe_20 : decode cX7_safe 20 = .ok (.aload_n 0, 1) := by decide +kernel
theorem dX7_safe_21 : decode cX7_safe 21 = .ok (.getfield 33, 3) := by decide +kernel
theorem dX7_safe_24 : decode cX7_safe 24 = .ok (.aload_n 0, 1) := by decide +kernel
theorem dX7_safe_25 : decode cX7_safe 25 = .ok (.getfield 19, 3) := by decide +kernel
theorem dX7_safe_28 : decode cX7_safe 28 = .ok (.invokevirtual 180, 3) := by decide +kernel
theorem dX7_safe_31 : decode cX7_safe 31 = .ok (.ifCond .eq 5, 3) := by decide +kernel
theorem dX7_safe_34 : decode cX7_safe 34 = .ok (.iload_n 1, 1) := by decide +kernel
theorem dX7_safe_35 : decode cX7_safe 35 = .ok (.ireturn, 1) := by decide +kernel
theorem dX7_safe_36 : decode cX7_safe 36 = .ok (.iinc 1 1, 3) := by decide +kernel
theorem dX7_safe_39 : decode cX7_safe 39 = .ok (.goto (-26), 3) := by decide +kernel
theorem dX7_safe_42 : decode cX7_safe 42 = .ok (.sipush 999, 3) := by decide +kernel
theorem dX7_safe_45 : decode cX7_safe 45 = .ok (.ireturn, 1) := by decide +kernel
set_option maxRecDepth 20000 in
theorem ggX7_write_X6_hasStone : GoodIn wsX7_write wsX6_hasStone := goodIn_r _ [11, 12, 39, 40, 41, 42, 43, 44, 45, 46, 47, 48, 49] (by decide +kernel) (by decide +kernel)
set_option maxRecDepth 20000 in
theorem gX7_write_X6_hasStone : GoodIn wsX7_write (wsV RX7 140 RX6 yX6_hasStone wsX6_hasStone) := goodIn_app (goodIn_of _ (by decide +kernel)) ggX7_write_X6_hasStone
set_option maxRecDepth 20000 in
theorem ggX7_write_X7_within : GoodIn wsX7_write wsX7_within := goodIn_r _ [16] (by decide +kernel) (by decide +kernel)
set_option maxRecDepth 20000 in
theorem gX7_write_X7_within : GoodIn wsX7_write (va_wsS RX7 68 yX7_within wsX7_within) := goodIn_app (goodIn_of _ (by decide +kernel)) ggX7_write_X7_within
set_option maxRecDepth 20000 in
theorem ggX7_write_X0_append : GoodIn wsX7_write wsX0_append := goodIn_r _ [21, 22, 23, 24, 36, 37, 38] (by decide +kernel) (by decide +kernel)
set_option maxRecDepth 20000 in
theorem gX7_write_X0_append : GoodIn wsX7_write (wsV RX7 230 RX0 yX0_append wsX0_append) := goodIn_app (goodIn_of _ (by decide +kernel)) ggX7_write_X0_append
theorem dX7_write_0 : decode cX7_write 0 = .ok (.aload_n 0, 1) := by decide +kernel
theorem dX7_write_1 : decode cX7_write 1 = .ok (.getfield 19, 3) := by decide +kernel
theorem dX7_write_4 : decode cX7_write 4 = .ok (.iload_n 1, 1) := by decide +kernel
theorem dX7_write_5 : decode cX7_write 5 = .ok (.invokevirtual 140, 3) := by decide +kernel
theorem dX7_write_8 : decode cX7_write 8 = .ok (.ifCond .ne 6, 3) := by decide +kernel
theorem dX7_write_11 : decode cX7_write 11 = .ok (.ldc 143, 2) := by decide +kernel
theorem dX7_write_13 : decode cX7_write 13 = .ok (.ireturn, 1) := by decide +kernel
theorem dX7_write_14 : decode cX7_write 14 = .ok (.iload_n 2, 1) := by decide +kernel
theorem dX7_write_15 : decode cX7_write 15 = .ok (.iconst 0, 1) := by decide +kernel
theorem dX7_write_16 : decode cX7_write 16 = .ok (.sipush 9999, 3) := by decide +kernel
theorem dX7_write_19 : decode cX7_write 19 = .ok (.invokestatic 68, 3) := by decide +kernel
theorem dX7_write_22 : decode cX7_write 22 = .ok (.ifCond .ne 6, 3) := by decide +kernel
theorem dX7_write_25 : decode cX7_write 25 = .ok (.ldc 72, 2) := by decide +kernel
theorem dX7_write_27 : decode cX7_write 27 = .ok (.ireturn, 1) := by decide +kernel
theorem dX7_write_28 : decode cX7_write 28 = .ok (.aload_n 0, 1) := by decide +kernel
theorem dX7_write_29 : decode cX7_write 29 = .ok (.getfield 43, 3) := by decide +kernel
theorem dX7_write_32 : decode cX7_write 32 = .ok (.getfield 94, 3) := by decide +kernel
theorem dX7_write_35 : decode cX7_write 35 = .ok (.bipush 30, 2) := by decide +kernel
theorem dX7_write_37 : decode cX7_write 37 = .ok (.if_icmp .lt 6, 3) := by decide +kernel
theorem dX7_write_40 : decode cX7_write 40 = .ok (.ldc 77, 2) := by decide +kernel
theorem dX7_write_42 : decode cX7_write 42 = .ok (.ireturn, 1) := by decide +kernel
theorem dX7_write_43 : decode cX7_write 43 = .ok (.aload_n 0, 1) := by decide +kernel
theorem dX7_write_44 : decode cX7_write 44 = .ok (.getfield 43, 3) := by decide +kernel
theorem dX7_write_47 : decode cX7_write 47 = .ok (.iload_n 1, 1) := by decide +kernel
theorem dX7_write_48 : decode cX7_write 48 = .ok (.iload_n 2, 1) := by decide +kernel
theorem dX7_write_49 : decode cX7_write 49 = .ok (.invokevirtual 230, 3) := by decide +kernel
theorem dX7_write_52 : decode cX7_write 52 = .ok (.aload_n 0, 1) := by decide +kernel
theorem dX7_write_53 : decode cX7_write 53 = .ok (.getfield 43, 3) := by decide +kernel
theorem dX7_write_56 : decode cX7_write 56 = .ok (.getfield 94, 3) := by decide +kernel
theorem dX7_write_59 : decode cX7_write 59 = .ok (.ireturn, 1) := by decide +kernel
theorem dX7_tear_0 : decode cX7_tear 0 = .ok (.aload_n 0, 1) := by decide +kernel
theorem dX7_tear_1 : decode cX7_tear 1 = .ok (.getfield 43, 3) := by decide +kernel
theorem dX7_tear_4 : decode cX7_tear 4 = .ok (.getfield 94, 3) := by decide +kernel
theorem dX7_tear_7 : decode cX7_tear 7 = .ok (.istore_n 1, 1) := by decide +kernel
theorem dX7_tear_8 : decode cX7_tear 8 = .ok (.aload_n 0, 1) := by decide +kernel
theorem dX7_tear_9 : decode cX7_tear 9 = .ok (.getfield 43, 3) := by decide +kernel
theorem dX7_tear_12 : decode cX7_tear 12 = .ok (.iconst 0, 1) := by decide +kernel
theorem dX7_tear_13 : decode cX7_tear 13 = .ok (.putfield 94, 3) := by decide +kernel
theorem dX7_tear_16 : decode cX7_tear 16 = .ok (.iload_n 1, 1) := by decide +kernel
theorem dX7_tear_17 : decode cX7_tear 17 = .ok (.ireturn, 1) := by decide +kernel
set_option maxRecDepth 20000 in
theorem ggX7_judge_X1_copyFrom : GoodIn wsX7_judge wsX1_copyFrom := goodIn_r _ [9, 10, 11, 12, 13, 14, 15, 16, 17, 18, 19, 20, 21, 22, 23, 106, 107, 108, 109, 110, 111, 112, 113, 114, 115] (by decide +kernel) (by decide +kernel)
set_option maxRecDepth 20000 in
theorem gX7_judge_X1_copyFrom : GoodIn wsX7_judge (wsV RX7 226 RX1 yX1_copyFrom wsX1_copyFrom) := goodIn_app (goodIn_of _ (by decide +kernel)) ggX7_judge_X1_copyFrom
set_option maxRecDepth 20000 in
theorem ggX7_judge_X0_firstWrong : GoodIn wsX7_judge wsX0_firstWrong := goodIn_r _ [28, 29, 30, 31, 32, 33, 34, 35, 36, 37, 38, 39, 40, 41, 8, 42, 43, 16, 19, 44, 15, 45, 17, 22, 46, 47, 48, 49, 50, 10, 51, 52, 53, 54, 55, 56, 57, 58, 59, 60, 61, 62, 63, 64, 65, 66, 67, 68, 69, 70, 20, 18, 71, 72, 73, 74, 75, 76, 77, 78, 79, 80, 81, 82, 83, 84, 21, 85, 86, 87, 88, 89, 90, 91, 92, 93, 94, 116, 117, 118, 106, 107, 108, 109, 110, 111, 112, 113, 114, 115, 119, 120, 121, 122, 123, 124, 125, 126, 127, 128, 129] (by decide +kernel) (by decide +kernel)
set_option maxRecDepth 20000 in
theorem gX7_judge_X0_firstWrong : GoodIn wsX7_judge (wsV RX7 232 RX0 yX0_firstWrong wsX0_firstWrong) := goodIn_app (goodIn_of _ (by decide +kernel)) ggX7_judge_X0_firstWrong
theorem dX7_judge_0 : decode cX7_judge 0 = .ok (.aload_n 0, 1) := by decide +kernel
theorem dX7_judge_1 : decode cX7_judge 1 = .ok (.getfield 33, 3) := by decide +kernel
theorem dX7_judge_4 : decode cX7_judge 4 = .ok (.aload_n 0, 1) := by decide +kernel
theorem dX7_judge_5 : decode cX7_judge 5 = .ok (.getfield 29, 3) := by decide +kernel
theorem dX7_judge_8 : decode cX7_judge 8 = .ok (.invokevirtual 226, 3) := by decide +kernel
theorem dX7_judge_11 : decode cX7_judge 11 = .ok (.aload_n 0, 1) := by decide +kernel
theorem dX7_judge_12 : decode cX7_judge 12 = .ok (.getfield 43, 3) := by decide +kernel
theorem dX7_judge_15 : decode cX7_judge 15 = .ok (.aload_n 0, 1) := by decide +kernel
theorem dX7_judge_16 : decode cX7_judge 16 = .ok (.getfield 19, 3) := by decide +kernel
theorem dX7_judge_19 : decode cX7_judge 19 = .ok (.aload_n 0, 1) := by decide +kernel
theorem dX7_judge_20 : decode cX7_judge 20 = .ok (.getfield 33, 3) := by decide +kernel
theorem dX7_judge_23 : decode cX7_judge 23 = .ok (.invokevirtual 232, 3) := by decide +kernel
theorem dX7_judge_26 : decode cX7_judge 26 = .ok (.ireturn, 1) := by decide +kernel
theorem dX7_seed_0 : decode cX7_seed 0 = .ok (.iload_n 1, 1) := by decide +kernel
theorem dX7_seed_1 : decode cX7_seed 1 = .ok (.ifCond .ge 6, 3) := by decide +kernel
theorem dX7_seed_4 : decode cX7_seed 4 = .ok (.ldc 72, 2) := by decide +kernel
theorem dX7_seed_6 : decode cX7_seed 6 = .ok (.ireturn, 1) := by decide +kernel
theorem dX7_seed_7 : decode cX7_seed 7 = .ok (.aload_n 0, 1) := by decide +kernel
theorem dX7_seed_8 : decode cX7_seed 8 = .ok (.getfield 29, 3) := by decide +kernel
theorem dX7_seed_11 : decode cX7_seed 11 = .ok (.getfield 236, 3) := by decide +kernel
theorem dX7_seed_14 : decode cX7_seed 14 = .ok (.istore_n 2, 1) := by decide +kernel
theorem dX7_seed_15 : decode cX7_seed 15 = .ok (.aload_n 0, 1) := by decide +kernel
theorem dX7_seed_16 : decode cX7_seed 16 = .ok (.getfield 29, 3) := by decide +kernel
theorem dX7_seed_19 : decode cX7_seed 19 = .ok (.iload_n 1, 1) := by decide +kernel
theorem dX7_seed_20 : decode cX7_seed 20 = .ok (.putfield 236, 3) := by decide +kernel
theorem dX7_seed_23 : decode cX7_seed 23 = .ok (.iload_n 2, 1) := by decide +kernel
theorem dX7_seed_24 : decode cX7_seed 24 = .ok (.ireturn, 1) := by decide +kernel
set_option maxRecDepth 20000 in
theorem ggX7_keep_X7_within : GoodIn wsX7_keep wsX7_within := goodIn_r _ [8] (by decide +kernel) (by decide +kernel)
set_option maxRecDepth 20000 in
theorem gX7_keep_X7_within : GoodIn wsX7_keep (va_wsS RX7 68 yX7_within wsX7_within) := goodIn_app (goodIn_of _ (by decide +kernel)) ggX7_keep_X7_within
set_option maxRecDepth 20000 in
theorem ggX7_keep_X1_copyFrom : GoodIn wsX7_keep wsX1_copyFrom := goodIn_r _ [13, 14, 15, 16, 17, 18, 19, 20, 21, 22, 23, 24, 25, 26, 27, 39, 40, 41, 42, 43, 44, 45, 46, 47, 48] (by decide +kernel) (by decide +kernel)
set_option maxRecDepth 20000 in
theorem gX7_keep_X1_copyFrom : GoodIn wsX7_keep (wsV RX7 226 RX1 yX1_copyFrom wsX1_copyFrom) := goodIn_app (goodIn_of _ (by decide +kernel)) ggX7_keep_X1_copyFrom
theorem dX7_keep_0 : decode cX7_keep 0 = .ok (.iload_n 1, 1) := by decide +kernel
theorem dX7_keep_1 : decode cX7_keep 1 = .ok (.iconst 0, 1) := by decide +kernel
theorem dX7_keep_2 : decode cX7_keep 2 = .ok (.iconst 1, 1) := by decide +kernel
theorem dX7_keep_3 : decode cX7_keep 3 = .ok (.invokestatic 68, 3) := by decide +kernel
theorem dX7_keep_6 : decode cX7_keep 6 = .ok (.ifCond .ne 6, 3) := by decide +kernel
theorem dX7_keep_9 : decode cX7_keep 9 = .ok (.ldc 143, 2) := by decide +kernel
theorem dX7_keep_11 : decode cX7_keep 11 = .ok (.ireturn, 1) := by decide +kernel
theorem dX7_keep_12 : decode cX7_keep 12 = .ok (.aload_n 0, 1) := by decide +kernel
theorem dX7_keep_13 : decode cX7_keep 13 = .ok (.getfield 36, 3) := by decide +kernel
theorem dX7_keep_16 : decode cX7_keep 16 = .ok (.iload_n 1, 1) := by decide +kernel
theorem dX7_keep_17 : decode cX7_keep 17 = .ok (.aaload, 1) := by decide +kernel
theorem dX7_keep_18 : decode cX7_keep 18 = .ok (.aload_n 0, 1) := by decide +kernel
theorem dX7_keep_19 : decode cX7_keep 19 = .ok (.getfield 29, 3) := by decide +kernel
theorem dX7_keep_22 : decode cX7_keep 22 = .ok (.invokevirtual 226, 3) := by decide +kernel
theorem dX7_keep_25 : decode cX7_keep 25 = .ok (.aload_n 0, 1) := by decide +kernel
theorem dX7_keep_26 : decode cX7_keep 26 = .ok (.dup, 1) := by decide +kernel
theorem dX7_keep_27 : decode cX7_keep 27 = .ok (.getfield 97, 3) := by decide +kernel
theorem dX7_keep_30 : decode cX7_keep 30 = .ok (.iconst 1, 1) := by decide +kernel
theorem dX7_keep_31 : decode cX7_keep 31 = .ok (.iload_n 1, 1) := by decide +kernel
theorem dX7_keep_32 : decode cX7_keep 32 = .ok (.ishl, 1) := by decide +kernel
theorem dX7_keep_33 : decode cX7_keep 33 = .ok (.ior, 1) := by decide +kernel
theorem dX7_keep_34 : decode cX7_keep 34 = .ok (.putfield 97, 3) := by decide +kernel
theorem dX7_keep_37 : decode cX7_keep 37 = .ok (.iconst 1, 1) := by decide +kernel
theorem dX7_keep_38 : decode cX7_keep 38 = .ok (.ireturn, 1) := by decide +kernel
set_option maxRecDepth 20000 in
theorem ggX7_goBack_X7_within : GoodIn wsX7_goBack wsX7_within := goodIn_r _ [9] (by decide +kernel) (by decide +kernel)
set_option maxRecDepth 20000 in
theorem gX7_goBack_X7_within : GoodIn wsX7_goBack (va_wsS RX7 68 yX7_within wsX7_within) := goodIn_app (goodIn_of _ (by decide +kernel)) ggX7_goBack_X7_within
set_option maxRecDepth 20000 in
theorem ggX7_goBack_X1_copyFrom : GoodIn wsX7_goBack wsX1_copyFrom := goodIn_r _ [14, 15, 16, 17, 18, 19, 20, 21, 22, 23, 24, 25, 26, 27, 28, 40, 41, 42, 43, 44, 45, 46, 47, 48, 49] (by decide +kernel) (by decide +kernel)
set_option maxRecDepth 20000 in
theorem gX7_goBack_X1_copyFrom : GoodIn wsX7_goBack (wsV RX7 226 RX1 yX1_copyFrom wsX1_copyFrom) := goodIn_app (goodIn_of _ (by decide +kernel)) ggX7_goBack_X1_copyFrom
theorem dX7_goBack_0 : decode cX7_goBack 0 = .ok (.iload_n 1, 1) := by decide +kernel
theorem dX7_goBack_1 : decode cX7_goBack 1 = .ok (.iconst 0, 1) := by decide +kernel
theorem dX7_goBack_2 : decode cX7_goBack 2 = .ok (.iconst 1, 1) := by decide +kernel
theorem dX7_goBack_3 : decode cX7_goBack 3 = .ok (.invokestatic 68, 3) := by decide +kernel
theorem dX7_goBack_6 : decode cX7_goBack 6 = .ok (.ifCond .ne 6, 3) := by decide +kernel
theorem dX7_goBack_9 : decode cX7_goBack 9 = .ok (.ldc 143, 2) := by decide +kernel
theorem dX7_goBack_11 : decode cX7_goBack 11 = .ok (.ireturn, 1) := by decide +kernel
theorem dX7_goBack_12 : decode cX7_goBack 12 = .ok (.aload_n 0, 1) := by decide +kernel
theorem dX7_goBack_13 : decode cX7_goBack 13 = .ok (.getfield 97, 3) := by decide +kernel
theorem dX7_goBack_16 : decode cX7_goBack 16 = .ok (.iload_n 1, 1) := by decide +kernel
theorem dX7_goBack_17 : decode cX7_goBack 17 = .ok (.ishr, 1) := by decide +kernel
theorem dX7_goBack_18 : decode cX7_goBack 18 = .ok (.iconst 1, 1) := by decide +kernel
theorem dX7_goBack_19 : decode cX7_goBack 19 = .ok (.iand, 1) := by decide +kernel
theorem dX7_goBack_20 : decode cX7_goBack 20 = .ok (.ifCond .ne 6, 3) := by decide +kernel
theorem dX7_goBack_23 : decode cX7_goBack 23 = .ok (.ldc 179, 2) := by decide +kernel
theorem dX7_goBack_25 : decode cX7_goBack 25 = .ok (.ireturn, 1) := by decide +kernel
theorem dX7_goBack_26 : decode cX7_goBack 26 = .ok (.aload_n 0, 1) := by decide +kernel
theorem dX7_goBack_27 : decode cX7_goBack 27 = .ok (.getfield 29, 3) := by decide +kernel
theorem dX7_goBack_30 : decode cX7_goBack 30 = .ok (.aload_n 0, 1) := by decide +kernel
theorem dX7_goBack_31 : decode cX7_goBack 31 = .ok (.getfield 36, 3) := by decide +kernel
theorem dX7_goBack_34 : decode cX7_goBack 34 = .ok (.iload_n 1, 1) := by decide +kernel
theorem dX7_goBack_35 : decode cX7_goBack 35 = .ok (.aaload, 1) := by decide +kernel
theorem dX7_goBack_36 : decode cX7_goBack 36 = .ok (.invokevirtual 226, 3) := by decide +kernel
theorem dX7_goBack_39 : decode cX7_goBack 39 = .ok (.iconst 1, 1) := by decide +kernel
theorem dX7_goBack_40 : decode cX7_goBack 40 = .ok (.ireturn, 1) := by decide +kernel
set_option maxRecDepth 20000 in
theorem ggX7_giftOf_X6_frostOn : GoodIn wsX7_giftOf wsX6_frostOn := goodIn_r _ [13, 14, 15, 16, 28, 29, 30, 31, 32, 33, 34, 35, 36, 37, 38] (by decide +kernel) (by decide +kernel)
set_option maxRecDepth 20000 in
theorem gX7_giftOf_X6_frostOn : GoodIn wsX7_giftOf (wsV RX7 239 RX6 yX6_frostOn wsX6_frostOn) := goodIn_app (goodIn_of _ (by decide +kernel)) ggX7_giftOf_X6_frostOn
theorem dX7_giftOf_0 : decode cX7_giftOf 0 = .ok (.aload_n 0, 1) := by decide +kernel
theorem dX7_giftOf_1 : decode cX7_giftOf 1 = .ok (.getfield 19, 3) := by decide +kernel
theorem dX7_giftOf_4 : decode cX7_giftOf 4 = .ok (.getfield 160, 3) := by decide +kernel
theorem dX7_giftOf_7 : decode cX7_giftOf 7 = .ok (.iload_n 1, 1) := by decide +kernel
theorem dX7_giftOf_8 : decode cX7_giftOf 8 = .ok (.iaload, 1) := by decide +kernel
theorem dX7_giftOf_9 : decode cX7_giftOf 9 = .ok (.ifCond .ne 13, 3) := by decide +kernel
theorem dX7_giftOf_12 : decode cX7_giftOf 12 = .ok (.aload_n 0, 1) := by decide +kernel
theorem dX7_giftOf_13 : decode cX7_giftOf 13 = .ok (.getfield 29, 3) := by decide +kernel
theorem dX7_giftOf_16 : decode cX7_giftOf 16 = .ok (.getfield 135, 3) := by decide +kernel
theorem dX7_giftOf_19 : decode cX7_giftOf 19 = .ok (.iload_n 1, 1) := by decide +kernel
theorem dX7_giftOf_20 : decode cX7_giftOf 20 = .ok (.iaload, 1) := by decide +kernel
theorem dX7_giftOf_21 : decode cX7_giftOf 21 = .ok (.ireturn, 1) := by decide +kernel
theorem dX7_giftOf_22 : decode cX7_giftOf 22 = .ok (.iconst 0, 1) := by decide +kernel
theorem dX7_giftOf_23 : decode cX7_giftOf 23 = .ok (.aload_n 0, 1) := by decide +kernel
theorem dX7_giftOf_24 : decode cX7_giftOf 24 = .ok (.getfield 29, 3) := by decide +kernel
theorem dX7_giftOf_27 : decode cX7_giftOf 27 = .ok (.getfield 135, 3) := by decide +kernel
theorem dX7_giftOf_30 : decode cX7_giftOf 30 = .ok (.iload_n 1, 1) := by decide +kernel
theorem dX7_giftOf_31 : decode cX7_giftOf 31 = .ok (.iaload, 1) := by decide +kernel
theorem dX7_giftOf_32 : decode cX7_giftOf 32 = .ok (.aload_n 0, 1) := by decide +kernel
theorem dX7_giftOf_33 : decode cX7_giftOf 33 = .ok (.getfield 19, 3) := by decide +kernel
theorem dX7_giftOf_36 : decode cX7_giftOf 36 = .ok (.getfield 160, 3) := by decide +kernel
theorem dX7_giftOf_39 : decode cX7_giftOf 39 = .ok (.iload_n 1, 1) := by decide +kernel
theorem dX7_giftOf_40 : decode cX7_giftOf 40 = .ok (.iaload, 1) := by decide +kernel
theorem dX7_giftOf_41 : decode cX7_giftOf 41 = .ok (.isub, 1) := by decide +kernel
theorem dX7_giftOf_42 : decode cX7_giftOf 42 = .ok (.iload_n 2, 1) := by decide +kernel
theorem dX7_giftOf_43 : decode cX7_giftOf 43 = .ok (.aload_n 0, 1) := by decide +kernel
theorem dX7_giftOf_44 : decode cX7_giftOf 44 = .ok (.getfield 19, 3) := by decide +kernel
theorem dX7_giftOf_47 : decode cX7_giftOf 47 = .ok (.iload_n 1, 1) := by decide +kernel
theorem dX7_giftOf_48 : decode cX7_giftOf 48 = .ok (.iconst 0, 1) := by decide +kernel
theorem dX7_giftOf_49 : decode cX7_giftOf 49 = .ok (.invokevirtual 239, 3) := by decide +kernel
theorem dX7_giftOf_52 : decode cX7_giftOf 52 = .ok (.imul, 1) := by decide +kernel
theorem dX7_giftOf_53 : decode cX7_giftOf 53 = .ok (.isub, 1) := by decide +kernel
theorem dX7_giftOf_54 : decode cX7_giftOf 54 = .ok (.invokestatic 243, 3) := by decide +kernel
theorem dX7_giftOf_57 : decode cX7_giftOf 57 = .ok (.ireturn, 1) := by decide +kernel
theorem dX7_within_0 : decode cX7_within 0 = .ok (.iload_n 0, 1) := by decide +kernel
theorem dX7_within_1 : decode cX7_within 1 = .ok (.iload_n 1, 1) := by decide +kernel
theorem dX7_within_2 : decode cX7_within 2 = .ok (.if_icmp .lt 12, 3) := by decide +kernel
theorem dX7_within_5 : decode cX7_within 5 = .ok (.iload_n 0, 1) := by decide +kernel
theorem dX7_within_6 : decode cX7_within 6 = .ok (.iload_n 2, 1) := by decide +kernel
theorem dX7_within_7 : decode cX7_within 7 = .ok (.if_icmp .gt 7, 3) := by decide +kernel
theorem dX7_within_10 : decode cX7_within 10 = .ok (.iconst 1, 1) := by decide +kernel
theorem dX7_within_11 : decode cX7_within 11 = .ok (.goto 4, 3) := by decide +kernel
theorem dX7_within_14 : decode cX7_within 14 = .ok (.iconst 0, 1) := by decide +kernel
theorem dX7_within_15 : decode cX7_within 15 = .ok (.ireturn, 1) := by decide +kernel
theorem dX7_ownedAt_0 : decode cX7_ownedAt 0 = .ok (.iload_n 0, 1) := by decide +kernel
theorem dX7_ownedAt_1 : decode cX7_ownedAt 1 = .ok (.bipush 9, 2) := by decide +kernel
theorem dX7_ownedAt_3 : decode cX7_ownedAt 3 = .ok (.imul, 1) := by decide +kernel
theorem dX7_ownedAt_4 : decode cX7_ownedAt 4 = .ok (.iload_n 1, 1) := by decide +kernel
theorem dX7_ownedAt_5 : decode cX7_ownedAt 5 = .ok (.iadd, 1) := by decide +kernel
theorem dX7_ownedAt_6 : decode cX7_ownedAt 6 = .ok (.ireturn, 1) := by decide +kernel
theorem dX7_sumOf_0 : decode cX7_sumOf 0 = .ok (.iconst 0, 1) := by decide +kernel
theorem dX7_sumOf_1 : decode cX7_sumOf 1 = .ok (.istore_n 1, 1) := by decide +kernel
theorem dX7_sumOf_2 : decode cX7_sumOf 2 = .ok (.aload_n 0, 1) := by decide +kernel
theorem dX7_sumOf_3 : decode cX7_sumOf 3 = .ok (.astore_n 2, 1) := by decide +kernel
theorem dX7_sumOf_4 : decode cX7_sumOf 4 = .ok (.aload_n 2, 1) := by decide +kernel
theorem dX7_sumOf_5 : decode cX7_sumOf 5 = .ok (.arraylength, 1) := by decide +kernel
theorem dX7_sumOf_6 : decode cX7_sumOf 6 = .ok (.istore_n 3, 1) := by decide +kernel
theorem dX7_sumOf_7 : decode cX7_sumOf 7 = .ok (.iconst 0, 1) := by decide +kernel
theorem dX7_sumOf_8 : decode cX7_sumOf 8 = .ok (.istore 4, 2) := by decide +kernel
theorem dX7_sumOf_10 : decode cX7_sumOf 10 = .ok (.iload 4, 2) := by decide +kernel
theorem dX7_sumOf_12 : decode cX7_sumOf 12 = .ok (.iload_n 3, 1) := by decide +kernel
theorem dX7_sumOf_13 : decode cX7_sumOf 13 = .ok (.if_icmp .ge 20, 3) := by decide +kernel
theorem dX7_sumOf_16 : decode cX7_sumOf 16 = .ok (.aload_n 2, 1) := by decide +kernel
theorem dX7_sumOf_17 : decode cX7_sumOf 17 = .ok (.iload 4, 2) := by decide +kernel
theorem dX7_sumOf_19 : decode cX7_sumOf 19 = .ok (.iaload, 1) := by decide +kernel
theorem dX7_sumOf_20 : decode cX7_sumOf 20 = .ok (.istore 5, 2) := by decide +kernel
theorem dX7_sumOf_22 : decode cX7_sumOf 22 = .ok (.iload_n 1, 1) := by decide +kernel
theorem dX7_sumOf_23 : decode cX7_sumOf 23 = .ok (.iload 5, 2) := by decide +kernel
theorem dX7_sumOf_25 : decode cX7_sumOf 25 = .ok (.iadd, 1) := by decide +kernel
theorem dX7_sumOf_26 : decode cX7_sumOf 26 = .ok (.istore_n 1, 1) := by decide +kernel
theorem dX7_sumOf_27 : decode cX7_sumOf 27 = .ok (.iinc 4 1, 3) := by decide +kernel
theorem dX7_sumOf_30 : decode cX7_sumOf 30 = .ok (.goto (-20), 3) := by decide +kernel
theorem dX7_sumOf_33 : decode cX7_sumOf 33 = .ok (.iload_n 1, 1) := by decide +kernel
theorem dX7_sumOf_34 : decode cX7_sumOf 34 = .ok (.ireturn, 1) := by decide +kernel
set_option maxRecDepth 20000 in
theorem ggX8_init_X8_begin : GoodIn wsX8_init wsX8_begin := goodIn_r _ [28, 5, 11, 13, 29, 30, 31, 32, 33, 34, 35, 36, 37, 38, 39, 40, 41, 42, 43, 44, 45, 46, 47, 48, 49, 50, 51, 52, 53, 54, 55, 56, 57, 58] (by decide +kernel) (by decide +kernel)
set_option maxRecDepth 20000 in
theorem gX8_init_X8_begin : GoodIn wsX8_init (wsV RX8 64 RX8 yX8_begin wsX8_begin) := goodIn_app (goodIn_of _ (by decide +kernel)) ggX8_init_X8_begin
theorem dX8_init_0 : decode cX8_init 0 = .ok (.aload_n 0, 1) := by decide +kernel
theorem dX8_init_1 : decode cX8_init 1 = .ok (.invokespecial 1, 3) := by decide +kernel
theorem dX8_init_4 : decode cX8_init 4 = .ok (.aload_n 0, 1) := by decide +kernel
theorem dX8_init_5 : decode cX8_init 5 = .ok (.sipush 560, 3) := by decide +kernel
theorem dX8_init_8 : decode cX8_init 8 = .ok (.newarray .long, 2) := by decide +kernel
theorem dX8_init_10 : decode cX8_init 10 = .ok (.putfield 7, 3) := by decide +kernel
theorem dX8_init_13 : decode cX8_init 13 = .ok (.aload_n 0, 1) := by decide +kernel
theorem dX8_init_14 : decode cX8_init 14 = .ok (.iconst 2, 1) := by decide +kernel
theorem dX8_init_15 : decode cX8_init 15 = .ok (.newarray .boolean, 2) := by decide +kernel
theorem dX8_init_17 : decode cX8_init 17 = .ok (.putfield 13, 3) := by decide +kernel
theorem dX8_init_20 : decode cX8_init 20 = .ok (.aload_n 0, 1) := by decide +kernel
theorem dX8_init_21 : decode cX8_init 21 = .ok (.bipush 20, 2) := by decide +kernel
theorem dX8_init_23 : decode cX8_init 23 = .ok (.newarray .int, 2) := by decide +kernel
theorem dX8_init_25 : decode cX8_init 25 = .ok (.putfield 17, 3) := by decide +kernel
theorem dX8_init_28 : decode cX8_init 28 = .ok (.aload_n 0, 1) := by decide +kernel
theorem dX8_init_29 : decode cX8_init 29 = .ok (.bipush 20, 2) := by decide +kernel
theorem dX8_init_31 : decode cX8_init 31 = .ok (.newarray .int, 2) := by decide +kernel
theorem dX8_init_33 : decode cX8_init 33 = .ok (.putfield 21, 3) := by decide +kernel
theorem dX8_init_36 : decode cX8_init 36 = .ok (.aload_n 0, 1) := by decide +kernel
theorem dX8_init_37 : decode cX8_init 37 = .ok (.bipush 20, 2) := by decide +kernel
theorem dX8_init_39 : decode cX8_init 39 = .ok (.newarray .int, 2) := by decide +kernel
theorem dX8_init_41 : decode cX8_init 41 = .ok (.putfield 24, 3) := by decide +kernel
theorem dX8_init_44 : decode cX8_init 44 = .ok (.aload_n 0, 1) := by decide +kernel
theorem dX8_init_45 : decode cX8_init 45 = .ok (.bipush 20, 2) := by decide +kernel
theorem dX8_init_47 : decode cX8_init 47 = .ok (.newarray .int, 2) := by decide +kernel
theorem dX8_init_49 : decode cX8_init 49 = .ok (.putfield 27, 3) := by decide +kernel
theorem dX8_init_52 : decode cX8_init 52 = .ok (.aload_n 0, 1) := by decide +kernel
theorem dX8_init_53 : decode cX8_init 53 = .ok (.bipush 20, 2) := by decide +kernel
theorem dX8_init_55 : decode cX8_init 55 = .ok (.newarray .int, 2) := by decide +kernel
theorem dX8_init_57 : decode cX8_init 57 = .ok (.putfield 30, 3) := by decide +kernel
theorem dX8_init_60 : decode cX8_init 60 = .ok (.aload_n 0, 1) := by decide +kernel
theorem dX8_init_61 : decode cX8_init 61 = .ok (.bipush 20, 2) := by decide +kernel
theorem dX8_init_63 : decode cX8_init 63 = .ok (.newarray .int, 2) := by decide +kernel
theorem dX8_init_65 : decode cX8_init 65 = .ok (.putfield 33, 3) := by decide +kernel
theorem dX8_init_68 : decode cX8_init 68 = .ok (.aload_n 0, 1) := by decide +kernel
theorem dX8_init_69 : decode cX8_init 69 = .ok (.iconst 4, 1) := by decide +kernel
theorem dX8_init_70 : decode cX8_init 70 = .ok (.newarray .int, 2) := by decide +kernel
theorem dX8_init_72 : decode cX8_init 72 = .ok (.putfield 36, 3) := by decide +kernel
theorem dX8_init_75 : decode cX8_init 75 = .ok (.aload_n 0, 1) := by decide +kernel
theorem dX8_init_76 : decode cX8_init 76 = .ok (.iconst 3, 1) := by decide +kernel
theorem dX8_init_77 : decode cX8_init 77 = .ok (.putfield 39, 3) := by decide +kernel
theorem dX8_init_80 : decode cX8_init 80 = .ok (.aload_n 0, 1) := by decide +kernel
theorem dX8_init_81 : decode cX8_init 81 = .ok (.iconst 1, 1) := by decide +kernel
theorem dX8_init_82 : decode cX8_init 82 = .ok (.putfield 43, 3) := by decide +kernel
theorem dX8_init_85 : decode cX8_init 85 = .ok (.aload_n 0, 1) := by decide +kernel
theorem dX8_init_86 : decode cX8_init 86 = .ok (.sipush 400, 3) := by decide +kernel
theorem dX8_init_89 : decode cX8_init 89 = .ok (.newarray .int, 2) := by decide +kernel
theorem dX8_init_91 : decode cX8_init 91 = .ok (.putfield 46, 3) := by decide +kernel
theorem dX8_init_94 : decode cX8_init 94 = .ok (.aload_n 0, 1) := by decide +kernel
theorem dX8_init_95 : decode cX8_init 95 = .ok (.iconst (-1), 1) := by decide +kernel
theorem dX8_init_96 : decode cX8_init 96 = .ok (.putfield 49, 3) := by decide +kernel
theorem dX8_init_99 : decode cX8_init 99 = .ok (.aload_n 0, 1) := by decide +kernel
theorem dX8_init_100 : decode cX8_init 100 = .ok (.bipush 6, 2) := by decide +kernel
theorem dX8_init_102 : decode cX8_init 102 = .ok (.newarray .int, 2) := by decide +kernel
theorem dX8_init_104 : decode cX8_init 104 = .ok (.putfield 52, 3) := by decide +kernel
theorem dX8_init_107 : decode cX8_init 107 = .ok (.aload_n 0, 1) := by decide +kernel
theorem dX8_init_108 : decode cX8_init 108 = .ok (.bipush 6, 2) := by decide +kernel
theorem dX8_init_110 : decode cX8_init 110 = .ok (.newarray .int, 2) := by decide +kernel
theorem dX8_init_112 : decode cX8_init 112 = .ok (.putfield 55, 3) := by decide +kernel
theorem dX8_init_115 : decode cX8_init 115 = .ok (.aload_n 0, 1) := by decide +kernel
theorem dX8_init_116 : decode cX8_init 116 = .ok (.bipush 30, 2) := by decide +kernel
theorem dX8_init_118 : decode cX8_init 118 = .ok (.newarray .int, 2) := by decide +kernel
theorem dX8_init_120 : decode cX8_init 120 = .ok (.putfield 58, 3) := by decide +kernel
theorem dX8_init_123 : decode cX8_init 123 = .ok (.aload_n 0, 1) := by decide +kernel
theorem dX8_init_124 : decode cX8_init 124 = .ok (.bipush 30, 2) := by decide +kernel
theorem dX8_init_126 : decode cX8_init 126 = .ok (.newarray .int, 2) := by decide +kernel
theorem dX8_init_128 : decode cX8_init 128 = .ok (.putfield 61, 3) := by decide +kernel
theorem dX8_init_131 : decode cX8_init 131 = .ok (.aload_n 0, 1) := by decide +kernel
theorem dX8_init_132 : decode cX8_init 132 = .ok (.invokevirtual 64, 3) := by decide +kernel
theorem dX8_init_135 : decode cX8_init 135 = .ok (.return_, 1) := by decide +kernel
theorem dX8_in_0 : decode cX8_in 0 = .ok (.lload_n 0, 1) := by decide +kernel
theorem dX8_in_1 : decode cX8_in 1 = .ok (.lload_n 2, 1) := by decide +kernel
theorem dX8_in_2 : decode cX8_in 2 = .ok (.lcmp, 1) := by decide +kernel
theorem dX8_in_3 : decode cX8_in 3 = .ok (.ifCond .lt 14, 3) := by decide +kernel
theorem dX8_in_6 : decode cX8_in 6 = .ok (.lload_n 0, 1) := by decide +kernel
theorem dX8_in_7 : decode cX8_in 7 = .ok (.lload 4, 2) := by decide +kernel
theorem dX8_in_9 : decode cX8_in 9 = .ok (.lcmp, 1) := by decide +kernel
theorem dX8_in_10 : decode cX8_in 10 = .ok (.ifCond .gt 7, 3) := by decide +kernel
theorem dX8_in_13 : decode cX8_in 13 = .ok (.iconst 1, 1) := by decide +kernel
theorem dX8_in_14 : decode cX8_in 14 = .ok (.goto 4, 3) := by decide +kernel
theorem dX8_in_17 : decode cX8_in 17 = .ok (.iconst 0, 1) := by decide +kernel
theorem dX8_in_18 : decode cX8_in 18 = .ok (.ireturn, 1) := by decide +kernel
theorem dX8_one_0 : decode cX8_one 0 = .ok (.iload_n 0, 1) := by decide +kernel
theorem dX8_one_1 : decode cX8_one 1 = .ok (.ifCond .eq 7, 3) := by decide +kernel
theorem dX8_one_4 : decode cX8_one 4 = .ok (.iconst 1, 1) := by decide +kernel
theorem dX8_one_5 : decode cX8_one 5 = .ok (.goto 4, 3) := by decide +kernel
theorem dX8_one_8 : decode cX8_one 8 = .ok (.iconst 0, 1) := by decide +kernel
theorem dX8_one_9 : decode cX8_one 9 = .ok (.ireturn, 1) := by decide +kernel
theorem dX8_greater_0 : decode cX8_greater 0 = .ok (.lload_n 0, 1) := by decide +kernel
theorem dX8_greater_1 : decode cX8_greater 1 = .ok (.lload_n 2, 1) := by decide +kernel
theorem dX8_greater_2 : decode cX8_greater 2 = .ok (.lcmp, 1) := by decide +kernel
theorem dX8_greater_3 : decode cX8_greater 3 = .ok (.ifCond .le 7, 3) := by decide +kernel
theorem dX8_greater_6 : decode cX8_greater 6 = .ok (.lload_n 0, 1) := by decide +kernel
theorem dX8_greater_7 : decode cX8_greater 7 = .ok (.goto 4, 3) := by decide +kernel
theorem dX8_greater_10 : decode cX8_greater 10 = .ok (.lload_n 2, 1) := by decide +kernel
theorem dX8_greater_11 : decode cX8_greater 11 = .ok (.lreturn, 1) := by decide +kernel
theorem dX8_less_0 : decode cX8_less 0 = .ok (.lload_n 0, 1) := by decide +kernel
theorem dX8_less_1 : decode cX8_less 1 = .ok (.lload_n 2, 1) := by decide +kernel
theorem dX8_less_2 : decode cX8_less 2 = .ok (.lcmp, 1) := by decide +kernel
theorem dX8_less_3 : decode cX8_less 3 = .ok (.ifCond .ge 7, 3) := by decide +kernel
theorem dX8_less_6 : decode cX8_less 6 = .ok (.lload_n 0, 1) := by decide +kernel
theorem dX8_less_7 : decode cX8_less 7 = .ok (.goto 4, 3) := by decide +kernel
theorem dX8_less_10 : decode cX8_less 10 = .ok (.lload_n 2, 1) := by decide +kernel
theorem dX8_less_11 : decode cX8_less 11 = .ok (.lreturn, 1) := by decide +kernel
set_option maxRecDepth 20000 in
theorem ggX8_feed_X8_in : GoodIn wsX8_feed wsX8_in := goodIn_r _ [10] (by decide +kernel) (by decide +kernel)
set_option maxRecDepth 20000 in
theorem gX8_feed_X8_in : GoodIn wsX8_feed (va_wsS RX8 69 yX8_in wsX8_in) := goodIn_app (goodIn_of _ (by decide +kernel)) ggX8_feed_X8_in
theorem dX8_feed_0 : decode cX8_feed 0 = .ok (.iload_n 1, 1) := by decide +kernel
theorem dX8_feed_1 : decode cX8_feed 1 = .ok (.i2l, 1) := by decide +kernel
theorem dX8_feed_2 : decode cX8_feed 2 = .ok (.lconst 1, 1) := by decide +kernel
theorem dX8_feed_3 : decode cX8_feed 3 = .ok (.ldc2_w 67, 3) := by decide +kernel
theorem dX8_feed_6 : decode cX8_feed 6 = .ok (.invokestatic 69, 3) := by decide +kernel
theorem dX8_feed_9 : decode cX8_feed 9 = .ok (.ifCond .ne 6, 3) := by decide +kernel
theorem dX8_feed_12 : decode cX8_feed 12 = .ok (.ldc 73, 2) := by decide +kernel
theorem dX8_feed_14 : decode cX8_feed 14 = .ok (.ireturn, 1) := by decide +kernel
theorem dX8_feed_15 : decode cX8_feed 15 = .ok (.aload_n 0, 1) := by decide +kernel
theorem dX8_feed_16 : decode cX8_feed 16 = .ok (.getfield 74, 3) := by decide +kernel
theorem dX8_feed_19 : decode cX8_feed 19 = .ok (.iload_n 1, 1) := by decide +kernel
theorem dX8_feed_20 : decode cX8_feed 20 = .ok (.iadd, 1) := by decide +kernel
theorem dX8_feed_21 : decode cX8_feed 21 = .ok (.sipush 400, 3) := by decide +kernel
theorem dX8_feed_24 : decode cX8_feed 24 = .ok (.if_icmp .le 6, 3) := by decide +kernel
theorem dX8_feed_27 : decode cX8_feed 27 = .ok (.ldc 77, 2) := by decide +kernel
theorem dX8_feed_29 : decode cX8_feed 29 = .ok (.ireturn, 1) := by decide +kernel
theorem dX8_feed_30 : decode cX8_feed 30 = .ok (.iload_n 1, 1) := by decide +kernel
theorem dX8_feed_31 : decode cX8_feed 31 = .ok (.iconst 1, 1) := by decide +kernel
theorem dX8_feed_32 : decode cX8_feed 32 = .ok (.isub, 1) := by decide +kernel
theorem dX8_feed_33 : decode cX8_feed 33 = .ok (.istore 4, 2) := by decide +kernel
theorem dX8_feed_35 : decode cX8_feed 35 = .ok (.iload 4, 2) := by decide +kernel
theorem dX8_feed_37 : decode cX8_feed 37 = .ok (.ifCond .lt 40, 3) := by decide +kernel
theorem dX8_feed_40 : decode cX8_feed 40 = .ok (.aload_n 0, 1) := by decide +kernel
theorem dX8_feed_41 : decode cX8_feed 41 = .ok (.getfield 46, 3) := by decide +kernel
theorem dX8_feed_44 : decode cX8_feed 44 = .ok (.aload_n 0, 1) := by decide +kernel
theorem dX8_feed_45 : decode cX8_feed 45 = .ok (.getfield 74, 3) := by decide +kernel
theorem dX8_feed_48 : decode cX8_feed 48 = .ok (.lload_n 2, 1) := by decide +kernel
theorem dX8_feed_49 : decode cX8_feed 49 = .ok (.bipush 8, 2) := by decide +kernel
theorem dX8_feed_51 : decode cX8_feed 51 = .ok (.iload 4, 2) := by decide +kernel
theorem dX8_feed_53 : decode cX8_feed 53 = .ok (.imul, 1) := by decide +kernel
theorem dX8_feed_54 : decode cX8_feed 54 = .ok (.lshr, 1) := by decide +kernel
theorem dX8_feed_55 : decode cX8_feed 55 = .ok (.ldc2_w 78, 3) := by decide +kernel
theorem dX8_feed_58 : decode cX8_feed 58 = .ok (.land, 1) := by decide +kernel
theorem dX8_feed_59 : decode cX8_feed 59 = .ok (.l2i, 1) := by decide +kernel
theorem dX8_feed_60 : decode cX8_feed 60 = .ok (.iastore, 1) := by decide +kernel
theorem dX8_feed_61 : decode cX8_feed 61 = .ok (.aload_n 0, 1) := by decide +kernel
theorem dX8_feed_62 : decode cX8_feed 62 = .ok (.dup, 1) := by decide +kernel
theorem dX8_feed_63 : decode cX8_feed 63 = .ok (.getfield 74, 3) := by decide +kernel
theorem dX8_feed_66 : decode cX8_feed 66 = .ok (.iconst 1, 1) := by decide +kernel
theorem dX8_feed_67 : decode cX8_feed 67 = .ok (.iadd, 1) := by decide +kernel
theorem dX8_feed_68 : decode cX8_feed 68 = .ok (.putfield 74, 3) := by decide +kernel
theorem dX8_feed_71 : decode cX8_feed 71 = .ok (.iinc 4 (-1), 3) := by decide +kernel
theorem dX8_feed_74 : decode cX8_feed 74 = .ok (.goto (-39), 3) := by decide +kernel
theorem dX8_feed_77 : decode cX8_feed 77 = .ok (.aload_n 0, 1) := by decide +kernel
theorem dX8_feed_78 : decode cX8_feed 78 = .ok (.getfield 74, 3) := by decide +kernel
theorem dX8_feed_81 : decode cX8_feed 81 = .ok (.ireturn, 1) := by decide +kernel
theorem dX8_here_0 : decode cX8_here 0 = .ok (.aload_n 0, 1) := by decide +kernel
theorem dX8_here_1 : decode cX8_here 1 = .ok (.getfield 80, 3) := by decide +kernel
theorem dX8_here_4 : decode cX8_here 4 = .ok (.aload_n 0, 1) := by decide +kernel
theorem dX8_here_5 : decode cX8_here 5 = .ok (.getfield 74, 3) := by decide +kernel
theorem dX8_here_8 : decode cX8_here 8 = .ok (.if_icmp .ge 30, 3) := by decide +kernel
theorem dX8_here_11 : decode cX8_here 11 = .ok (.aload_n 0, 1) := by decide +kernel
