theorem dX5_init_20 : decode cX5_init 20 = .ok (.invokespecial 18, 3) := by decide +kernel
theorem dX5_init_23 : decode cX5_init 23 = .ok (.putfield 19, 3) := by decide +kernel
theorem dX5_init_26 : decode cX5_init 26 = .ok (.aload_n 0, 1) := by decide +kernel
theorem dX5_init_27 : decode cX5_init 27 = .ok (.new 23, 3) := by decide +kernel
theorem dX5_init_30 : decode cX5_init 30 = .ok (.dup, 1) := by decide +kernel
theorem dX5_init_31 : decode cX5_init 31 = .ok (.invokespecial 25, 3) := by decide +kernel
theorem dX5_init_34 : decode cX5_init 34 = .ok (.putfield 26, 3) := by decide +kernel
theorem dX5_init_37 : decode cX5_init 37 = .ok (.aload_n 0, 1) := by decide +kernel
theorem dX5_init_38 : decode cX5_init 38 = .ok (.new 30, 3) := by decide +kernel
theorem dX5_init_41 : decode cX5_init 41 = .ok (.dup, 1) := by decide +kernel
theorem dX5_init_42 : decode cX5_init 42 = .ok (.invokespecial 32, 3) := by decide +kernel
theorem dX5_init_45 : decode cX5_init 45 = .ok (.putfield 33, 3) := by decide +kernel
theorem dX5_init_48 : decode cX5_init 48 = .ok (.aload_n 0, 1) := by decide +kernel
theorem dX5_init_49 : decode cX5_init 49 = .ok (.bipush 16, 2) := by decide +kernel
theorem dX5_init_51 : decode cX5_init 51 = .ok (.newarray .int, 2) := by decide +kernel
theorem dX5_init_53 : decode cX5_init 53 = .ok (.putfield 37, 3) := by decide +kernel
theorem dX5_init_56 : decode cX5_init 56 = .ok (.aload_n 0, 1) := by decide +kernel
theorem dX5_init_57 : decode cX5_init 57 = .ok (.bipush 8, 2) := by decide +kernel
theorem dX5_init_59 : decode cX5_init 59 = .ok (.newarray .int, 2) := by decide +kernel
theorem dX5_init_61 : decode cX5_init 61 = .ok (.putfield 41, 3) := by decide +kernel
theorem dX5_init_64 : decode cX5_init 64 = .ok (.aload_n 0, 1) := by decide +kernel
theorem dX5_init_65 : decode cX5_init 65 = .ok (.bipush 8, 2) := by decide +kernel
theorem dX5_init_67 : decode cX5_init 67 = .ok (.newarray .int, 2) := by decide +kernel
theorem dX5_init_69 : decode cX5_init 69 = .ok (.putfield 44, 3) := by decide +kernel
theorem dX5_init_72 : decode cX5_init 72 = .ok (.aload_n 0, 1) := by decide +kernel
theorem dX5_init_73 : decode cX5_init 73 = .ok (.iconst 0, 1) := by decide +kernel
theorem dX5_init_74 : decode cX5_init 74 = .ok (.putfield 47, 3) := by decide +kernel
theorem dX5_init_77 : decode cX5_init 77 = .ok (.aload_n 0, 1) := by decide +kernel
theorem dX5_init_78 : decode cX5_init 78 = .ok (.bipush 15, 2) := by decide +kernel
theorem dX5_init_80 : decode cX5_init 80 = .ok (.putfield 51, 3) := by decide +kernel
theorem dX5_init_83 : decode cX5_init 83 = .ok (.return_, 1) := by decide +kernel
set_option maxRecDepth 20000 in
theorem ggX5_person_X5_isWithin : GoodIn wsX5_person wsX5_isWithin := goodIn_r _ [5] (by decide +kernel) (by decide +kernel)
set_option maxRecDepth 20000 in
theorem gX5_person_X5_isWithin : GoodIn wsX5_person (va_wsS RX5 54 yX5_isWithin wsX5_isWithin) := goodIn_app (goodIn_of _ (by decide +kernel)) ggX5_person_X5_isWithin
set_option maxRecDepth 20000 in
theorem ggX5_person_X2_sortOf : GoodIn wsX5_person wsX2_sortOf := goodIn_r _ [10, 11, 3, 4, 5, 12, 13, 14, 9, 15, 16, 17, 18, 32, 33] (by decide +kernel) (by decide +kernel)
set_option maxRecDepth 20000 in
theorem gX5_person_X2_sortOf : GoodIn wsX5_person (wsV RX5 58 RX2 yX2_sortOf wsX2_sortOf) := goodIn_app (goodIn_of _ (by decide +kernel)) ggX5_person_X2_sortOf
set_option maxRecDepth 20000 in
theorem ggX5_person_X2_bring : GoodIn wsX5_person wsX2_bring := goodIn_r _ [22, 11, 16, 3, 4, 5, 17, 18, 32, 33] (by decide +kernel) (by decide +kernel)
set_option maxRecDepth 20000 in
theorem gX5_person_X2_bring : GoodIn wsX5_person (wsV RX5 62 RX2 yX2_bring wsX2_bring) := goodIn_app (goodIn_of _ (by decide +kernel)) ggX5_person_X2_bring
theorem dX5_person_0 : decode cX5_person 0 = .ok (.iload_n 1, 1) := by decide +kernel
theorem dX5_person_1 : decode cX5_person 1 = .ok (.bipush 8, 2) := by decide +kernel
theorem dX5_person_3 : decode cX5_person 3 = .ok (.invokestatic 54, 3) := by decide +kernel
theorem dX5_person_6 : decode cX5_person 6 = .ok (.ifCond .ne 5, 3) := by decide +kernel
theorem dX5_person_9 : decode cX5_person 9 = .ok (.iconst (-1), 1) := by decide +kernel
theorem dX5_person_10 : decode cX5_person 10 = .ok (.ireturn, 1) := by decide +kernel
theorem dX5_person_11 : decode cX5_person 11 = .ok (.iload_n 2, 1) := by decide +kernel
theorem dX5_person_12 : decode cX5_person 12 = .ok (.ifCond .lt 8, 3) := by decide +kernel
theorem dX5_person_15 : decode cX5_person 15 = .ok (.iload_n 2, 1) := by decide +kernel
theorem dX5_person_16 : decode cX5_person 16 = .ok (.iconst 2, 1) := by decide +kernel
theorem dX5_person_17 : decode cX5_person 17 = .ok (.if_icmp .le 6, 3) := by decide +kernel
theorem dX5_person_20 : decode cX5_person 20 = .ok (.bipush (-2), 2) := by decide +kernel
theorem dX5_person_22 : decode cX5_person 22 = .ok (.ireturn, 1) := by decide +kernel
theorem dX5_person_23 : decode cX5_person 23 = .ok (.aload_n 0, 1) := by decide +kernel
theorem dX5_person_24 : decode cX5_person 24 = .ok (.getfield 12, 3) := by decide +kernel
theorem dX5_person_27 : decode cX5_person 27 = .ok (.iload_n 1, 1) := by decide +kernel
theorem dX5_person_28 : decode cX5_person 28 = .ok (.invokevirtual 58, 3) := by decide +kernel
theorem dX5_person_31 : decode cX5_person 31 = .ok (.istore_n 3, 1) := by decide +kernel
theorem dX5_person_32 : decode cX5_person 32 = .ok (.aload_n 0, 1) := by decide +kernel
theorem dX5_person_33 : decode cX5_person 33 = .ok (.getfield 12, 3) := by decide +kernel
theorem dX5_person_36 : decode cX5_person 36 = .ok (.iload_n 1, 1) := by decide +kernel
theorem dX5_person_37 : decode cX5_person 37 = .ok (.iload_n 2, 1) := by decide +kernel
theorem dX5_person_38 : decode cX5_person 38 = .ok (.invokevirtual 62, 3) := by decide +kernel
theorem dX5_person_41 : decode cX5_person 41 = .ok (.iload_n 3, 1) := by decide +kernel
theorem dX5_person_42 : decode cX5_person 42 = .ok (.ireturn, 1) := by decide +kernel
set_option maxRecDepth 20000 in
theorem ggX5_away_X2_isThere : GoodIn wsX5_away wsX2_isThere := goodIn_r _ [9, 10, 11, 12, 13, 126, 127] (by decide +kernel) (by decide +kernel)
set_option maxRecDepth 20000 in
theorem gX5_away_X2_isThere : GoodIn wsX5_away (wsV RX5 66 RX2 yX2_isThere wsX2_isThere) := goodIn_app (goodIn_of _ (by decide +kernel)) ggX5_away_X2_isThere
set_option maxRecDepth 20000 in
theorem ggX5_away_X3_namesAnywhere : GoodIn wsX5_away wsX3_namesAnywhere := goodIn_r _ [18, 19, 20, 21, 22, 17, 23, 24, 25, 26, 27, 28, 29, 30, 31, 32, 33, 34, 35, 11, 12, 13, 128, 129, 130, 131, 132, 133, 134, 135, 136, 137, 138, 139, 140, 141, 142, 143, 144] (by decide +kernel) (by decide +kernel)
set_option maxRecDepth 20000 in
theorem gX5_away_X3_namesAnywhere : GoodIn wsX5_away (wsV RX5 70 RX3 yX3_namesAnywhere wsX3_namesAnywhere) := goodIn_app (goodIn_of _ (by decide +kernel)) ggX5_away_X3_namesAnywhere
set_option maxRecDepth 20000 in
theorem ggX5_away_X5_fillChain : GoodIn wsX5_away wsX5_fillChain := goodIn_r _ [39, 3, 2, 1, 40, 41, 42, 43, 44, 45, 46, 47, 48, 49, 17, 50, 19, 51, 21, 22, 23, 24, 25, 26, 27, 28, 29, 52, 53, 54, 33, 55, 56, 57, 58, 59, 60, 61, 62, 63, 64, 65, 66, 67, 68, 69, 70, 8, 71, 10, 72, 73, 74, 75, 76, 11, 12, 13, 77, 78, 79, 80, 81, 82, 83, 84, 20, 85, 86, 87, 88, 89, 90, 91, 92, 93, 94, 95, 96, 97, 98, 99, 117, 118, 119, 120, 121, 122, 123, 124, 125, 145, 146, 147, 148, 149, 150, 151, 152, 153, 128, 129, 130, 131, 132, 133, 134, 135, 136, 137, 138, 139, 140, 141, 142, 143, 144, 126, 127] (by decide +kernel) (by decide +kernel)
set_option maxRecDepth 20000 in
theorem gX5_away_X5_fillChain : GoodIn wsX5_away (wsV RX5 73 RX5 yX5_fillChain wsX5_fillChain) := goodIn_app (goodIn_of _ (by decide +kernel)) ggX5_away_X5_fillChain
set_option maxRecDepth 20000 in
theorem ggX5_away_X0_ownSetsWith : GoodIn wsX5_away wsX0_ownSetsWith := goodIn_r _ [103, 46, 104, 105, 106, 44, 107, 96, 108, 109, 110, 111, 98, 12, 99, 11, 13, 145, 146, 147, 148, 149, 150, 151, 152, 153] (by decide +kernel) (by decide +kernel)
set_option maxRecDepth 20000 in
theorem gX5_away_X0_ownSetsWith : GoodIn wsX5_away (wsV RX5 76 RX0 yX0_ownSetsWith wsX0_ownSetsWith) := goodIn_app (goodIn_of _ (by decide +kernel)) ggX5_away_X0_ownSetsWith
set_option maxRecDepth 20000 in
theorem ggX5_away_X2_takeAway : GoodIn wsX5_away wsX2_takeAway := goodIn_r _ [115, 10, 11, 12, 13, 126, 127] (by decide +kernel) (by decide +kernel)
set_option maxRecDepth 20000 in
theorem gX5_away_X2_takeAway : GoodIn wsX5_away (wsV RX5 79 RX2 yX2_takeAway wsX2_takeAway) := goodIn_app (goodIn_of _ (by decide +kernel)) ggX5_away_X2_takeAway
set_option maxRecDepth 20000 in
theorem ggX5_away_X5_bitOf : GoodIn wsX5_away wsX5_bitOf := goodIn_r _ [13] (by decide +kernel) (by decide +kernel)
set_option maxRecDepth 20000 in
theorem gX5_away_X5_bitOf : GoodIn wsX5_away (va_wsS RX5 83 yX5_bitOf wsX5_bitOf) := goodIn_app (goodIn_of _ (by decide +kernel)) ggX5_away_X5_bitOf
theorem dX5_away_0 : decode cX5_away 0 = .ok (.aload_n 0, 1) := by decide +kernel
theorem dX5_away_1 : decode cX5_away 1 = .ok (.getfield 12, 3) := by decide +kernel
theorem dX5_away_4 : decode cX5_away 4 = .ok (.iload_n 1, 1) := by decide +kernel
theorem dX5_away_5 : decode cX5_away 5 = .ok (.invokevirtual 66, 3) := by decide +kernel
theorem dX5_away_8 : decode cX5_away 8 = .ok (.ifCond .ne 5, 3) := by decide +kernel
theorem dX5_away_11 : decode cX5_away 11 = .ok (.iconst (-1), 1) := by decide +kernel
theorem dX5_away_12 : decode cX5_away 12 = .ok (.ireturn, 1) := by decide +kernel
theorem dX5_away_13 : decode cX5_away 13 = .ok (.aload_n 0, 1) := by decide +kernel
theorem dX5_away_14 : decode cX5_away 14 = .ok (.getfield 26, 3) := by decide +kernel
theorem dX5_away_17 : decode cX5_away 17 = .ok (.iload_n 1, 1) := by decide +kernel
theorem dX5_away_18 : decode cX5_away 18 = .ok (.invokevirtual 70, 3) := by decide +kernel
theorem dX5_away_21 : decode cX5_away 21 = .ok (.ifCond .eq 6, 3) := by decide +kernel
theorem dX5_away_24 : decode cX5_away 24 = .ok (.bipush (-3), 2) := by decide +kernel
theorem dX5_away_26 : decode cX5_away 26 = .ok (.ireturn, 1) := by decide +kernel
theorem dX5_away_27 : decode cX5_away 27 = .ok (.aload_n 0, 1) := by decide +kernel
theorem dX5_away_28 : decode cX5_away 28 = .ok (.invokevirtual 73, 3) := by decide +kernel
theorem dX5_away_31 : decode cX5_away 31 = .ok (.aload_n 0, 1) := by decide +kernel
theorem dX5_away_32 : decode cX5_away 32 = .ok (.getfield 33, 3) := by decide +kernel
theorem dX5_away_35 : decode cX5_away 35 = .ok (.iload_n 1, 1) := by decide +kernel
theorem dX5_away_36 : decode cX5_away 36 = .ok (.invokevirtual 76, 3) := by decide +kernel
theorem dX5_away_39 : decode cX5_away 39 = .ok (.istore_n 2, 1) := by decide +kernel
theorem dX5_away_40 : decode cX5_away 40 = .ok (.aload_n 0, 1) := by decide +kernel
theorem dX5_away_41 : decode cX5_away 41 = .ok (.getfield 12, 3) := by decide +kernel
theorem dX5_away_44 : decode cX5_away 44 = .ok (.iload_n 1, 1) := by decide +kernel
theorem dX5_away_45 : decode cX5_away 45 = .ok (.invokevirtual 79, 3) := by decide +kernel
theorem dX5_away_48 : decode cX5_away 48 = .ok (.aload_n 0, 1) := by decide +kernel
theorem dX5_away_49 : decode cX5_away 49 = .ok (.dup, 1) := by decide +kernel
theorem dX5_away_50 : decode cX5_away 50 = .ok (.getfield 47, 3) := by decide +kernel
theorem dX5_away_53 : decode cX5_away 53 = .ok (.iload_n 1, 1) := by decide +kernel
theorem dX5_away_54 : decode cX5_away 54 = .ok (.invokestatic 83, 3) := by decide +kernel
theorem dX5_away_57 : decode cX5_away 57 = .ok (.iconst (-1), 1) := by decide +kernel
theorem dX5_away_58 : decode cX5_away 58 = .ok (.ixor, 1) := by decide +kernel
theorem dX5_away_59 : decode cX5_away 59 = .ok (.iand, 1) := by decide +kernel
theorem dX5_away_60 : decode cX5_away 60 = .ok (.putfield 47, 3) := by decide +kernel
theorem dX5_away_63 : decode cX5_away 63 = .ok (.iload_n 2, 1) := by decide +kernel
theorem dX5_away_64 : decode cX5_away 64 = .ok (.ireturn, 1) := by decide +kernel
set_option maxRecDepth 20000 in
theorem ggX5_here_X2_thereSet : GoodIn wsX5_here wsX2_thereSet := goodIn_r _ [7, 8, 18, 19] (by decide +kernel) (by decide +kernel)
set_option maxRecDepth 20000 in
theorem gX5_here_X2_thereSet : GoodIn wsX5_here (wsV RX5 86 RX2 yX2_thereSet wsX2_thereSet) := goodIn_app (goodIn_of _ (by decide +kernel)) ggX5_here_X2_thereSet
theorem dX5_here_0 : decode cX5_here 0 = .ok (.iload_n 1, 1) := by decide +kernel
theorem dX5_here_1 : decode cX5_here 1 = .ok (.aload_n 0, 1) := by decide +kernel
theorem dX5_here_2 : decode cX5_here 2 = .ok (.getfield 12, 3) := by decide +kernel
theorem dX5_here_5 : decode cX5_here 5 = .ok (.invokevirtual 86, 3) := by decide +kernel
theorem dX5_here_8 : decode cX5_here 8 = .ok (.iconst (-1), 1) := by decide +kernel
theorem dX5_here_9 : decode cX5_here 9 = .ok (.ixor, 1) := by decide +kernel
theorem dX5_here_10 : decode cX5_here 10 = .ok (.iand, 1) := by decide +kernel
theorem dX5_here_11 : decode cX5_here 11 = .ok (.ifCond .eq 6, 3) := by decide +kernel
theorem dX5_here_14 : decode cX5_here 14 = .ok (.bipush (-2), 2) := by decide +kernel
theorem dX5_here_16 : decode cX5_here 16 = .ok (.ireturn, 1) := by decide +kernel
theorem dX5_here_17 : decode cX5_here 17 = .ok (.aload_n 0, 1) := by decide +kernel
theorem dX5_here_18 : decode cX5_here 18 = .ok (.getfield 47, 3) := by decide +kernel
theorem dX5_here_21 : decode cX5_here 21 = .ok (.istore_n 2, 1) := by decide +kernel
theorem dX5_here_22 : decode cX5_here 22 = .ok (.aload_n 0, 1) := by decide +kernel
theorem dX5_here_23 : decode cX5_here 23 = .ok (.iload_n 1, 1) := by decide +kernel
theorem dX5_here_24 : decode cX5_here 24 = .ok (.putfield 47, 3) := by decide +kernel
theorem dX5_here_27 : decode cX5_here 27 = .ok (.iload_n 2, 1) := by decide +kernel
theorem dX5_here_28 : decode cX5_here 28 = .ok (.ireturn, 1) := by decide +kernel
theorem dX5_rules_0 : decode cX5_rules 0 = .ok (.iload_n 1, 1) := by decide +kernel
theorem dX5_rules_1 : decode cX5_rules 1 = .ok (.bipush (-16), 2) := by decide +kernel
theorem dX5_rules_3 : decode cX5_rules 3 = .ok (.iand, 1) := by decide +kernel
theorem dX5_rules_4 : decode cX5_rules 4 = .ok (.ifCond .eq 6, 3) := by decide +kernel
theorem dX5_rules_7 : decode cX5_rules 7 = .ok (.bipush (-2), 2) := by decide +kernel
theorem dX5_rules_9 : decode cX5_rules 9 = .ok (.ireturn, 1) := by decide +kernel
theorem dX5_rules_10 : decode cX5_rules 10 = .ok (.aload_n 0, 1) := by decide +kernel
theorem dX5_rules_11 : decode cX5_rules 11 = .ok (.getfield 51, 3) := by decide +kernel
theorem dX5_rules_14 : decode cX5_rules 14 = .ok (.istore_n 2, 1) := by decide +kernel
theorem dX5_rules_15 : decode cX5_rules 15 = .ok (.aload_n 0, 1) := by decide +kernel
theorem dX5_rules_16 : decode cX5_rules 16 = .ok (.iload_n 1, 1) := by decide +kernel
theorem dX5_rules_17 : decode cX5_rules 17 = .ok (.putfield 51, 3) := by decide +kernel
theorem dX5_rules_20 : decode cX5_rules 20 = .ok (.iload_n 2, 1) := by decide +kernel
theorem dX5_rules_21 : decode cX5_rules 21 = .ok (.ireturn, 1) := by decide +kernel
set_option maxRecDepth 20000 in
theorem ggX5_key_X4_isFull : GoodIn wsX5_key wsX4_isFull := goodIn_r _ [6, 7, 8, 29, 30] (by decide +kernel) (by decide +kernel)
set_option maxRecDepth 20000 in
theorem gX5_key_X4_isFull : GoodIn wsX5_key (wsV RX5 90 RX4 yX4_isFull wsX4_isFull) := goodIn_app (goodIn_of _ (by decide +kernel)) ggX5_key_X4_isFull
set_option maxRecDepth 20000 in
theorem ggX5_key_X4_put : GoodIn wsX5_key wsX4_put := goodIn_r _ [12, 7, 8, 13, 14, 15, 29, 30] (by decide +kernel) (by decide +kernel)
set_option maxRecDepth 20000 in
theorem gX5_key_X4_put : GoodIn wsX5_key (wsV RX5 94 RX4 yX4_put wsX4_put) := goodIn_app (goodIn_of _ (by decide +kernel)) ggX5_key_X4_put
set_option maxRecDepth 20000 in
theorem ggX5_key_X4_length : GoodIn wsX5_key wsX4_length := goodIn_r _ [19, 7, 29, 30] (by decide +kernel) (by decide +kernel)
set_option maxRecDepth 20000 in
theorem gX5_key_X4_length : GoodIn wsX5_key (wsV RX5 97 RX4 yX4_length wsX4_length) := goodIn_app (goodIn_of _ (by decide +kernel)) ggX5_key_X4_length
theorem dX5_key_0 : decode cX5_key 0 = .ok (.iload_n 1, 1) := by decide +kernel
theorem dX5_key_1 : decode cX5_key 1 = .ok (.ifCond .lt 9, 3) := by decide +kernel
theorem dX5_key_4 : decode cX5_key 4 = .ok (.iload_n 1, 1) := by decide +kernel
theorem dX5_key_5 : decode cX5_key 5 = .ok (.bipush 127, 2) := by decide +kernel
theorem dX5_key_7 : decode cX5_key 7 = .ok (.if_icmp .le 6, 3) := by decide +kernel
theorem dX5_key_10 : decode cX5_key 10 = .ok (.bipush (-2), 2) := by decide +kernel
theorem dX5_key_12 : decode cX5_key 12 = .ok (.ireturn, 1) := by decide +kernel
theorem dX5_key_13 : decode cX5_key 13 = .ok (.aload_n 0, 1) := by decide +kernel
theorem dX5_key_14 : decode cX5_key 14 = .ok (.getfield 19, 3) := by decide +kernel
theorem dX5_key_17 : decode cX5_key 17 = .ok (.invokevirtual 90, 3) := by decide +kernel
theorem dX5_key_20 : decode cX5_key 20 = .ok (.ifCond .eq 6, 3) := by decide +kernel
theorem dX5_key_23 : decode cX5_key 23 = .ok (.bipush (-4), 2) := by decide +kernel
theorem dX5_key_25 : decode cX5_key 25 = .ok (.ireturn, 1) := by decide +kernel
theorem dX5_key_26 : decode cX5_key 26 = .ok (.aload_n 0, 1) := by decide +kernel
theorem dX5_key_27 : decode cX5_key 27 = .ok (.getfield 19, 3) := by decide +kernel
theorem dX5_key_30 : decode cX5_key 30 = .ok (.iload_n 1, 1) := by decide +kernel
theorem dX5_key_31 : decode cX5_key 31 = .ok (.invokevirtual 94, 3) := by decide +kernel
theorem dX5_key_34 : decode cX5_key 34 = .ok (.aload_n 0, 1) := by decide +kernel
theorem dX5_key_35 : decode cX5_key 35 = .ok (.getfield 19, 3) := by decide +kernel
theorem dX5_key_38 : decode cX5_key 38 = .ok (.invokevirtual 97, 3) := by decide +kernel
theorem dX5_key_41 : decode cX5_key 41 = .ok (.ireturn, 1) := by decide +kernel
set_option maxRecDepth 20000 in
theorem ggX5_wipe_X4_length : GoodIn wsX5_wipe wsX4_length := goodIn_r _ [6, 7, 21, 22] (by decide +kernel) (by decide +kernel)
set_option maxRecDepth 20000 in
theorem gX5_wipe_X4_length : GoodIn wsX5_wipe (wsV RX5 97 RX4 yX4_length wsX4_length) := goodIn_app (goodIn_of _ (by decide +kernel)) ggX5_wipe_X4_length
set_option maxRecDepth 20000 in
theorem ggX5_wipe_X4_clear : GoodIn wsX5_wipe wsX4_clear := goodIn_r _ [11, 7, 21, 22] (by decide +kernel) (by decide +kernel)
set_option maxRecDepth 20000 in
theorem gX5_wipe_X4_clear : GoodIn wsX5_wipe (wsV RX5 100 RX4 yX4_clear wsX4_clear) := goodIn_app (goodIn_of _ (by decide +kernel)) ggX5_wipe_X4_clear
theorem dX5_wipe_0 : decode cX5_wipe 0 = .ok (.aload_n 0, 1) := by decide +kernel
theorem dX5_wipe_1 : decode cX5_wipe 1 = .ok (.getfield 19, 3) := by decide +kernel
theorem dX5_wipe_4 : decode cX5_wipe 4 = .ok (.invokevirtual 97, 3) := by decide +kernel
theorem dX5_wipe_7 : decode cX5_wipe 7 = .ok (.istore_n 1, 1) := by decide +kernel
theorem dX5_wipe_8 : decode cX5_wipe 8 = .ok (.aload_n 0, 1) := by decide +kernel
theorem dX5_wipe_9 : decode cX5_wipe 9 = .ok (.getfield 19, 3) := by decide +kernel
theorem dX5_wipe_12 : decode cX5_wipe 12 = .ok (.invokevirtual 100, 3) := by decide +kernel
theorem dX5_wipe_15 : decode cX5_wipe 15 = .ok (.iload_n 1, 1) := by decide +kernel
theorem dX5_wipe_16 : decode cX5_wipe 16 = .ok (.ireturn, 1) := by decide +kernel
set_option maxRecDepth 20000 in
theorem ggX5_paragraph_X3_isFull : GoodIn wsX5_paragraph wsX3_isFull := goodIn_r _ [9, 10, 11, 159, 160, 161] (by decide +kernel) (by decide +kernel)
set_option maxRecDepth 20000 in
theorem gX5_paragraph_X3_isFull : GoodIn wsX5_paragraph (wsV RX5 103 RX3 yX3_isFull wsX3_isFull) := goodIn_app (goodIn_of _ (by decide +kernel)) ggX5_paragraph_X3_isFull
set_option maxRecDepth 20000 in
theorem ggX5_paragraph_X3_mayGoOn : GoodIn wsX5_paragraph wsX3_mayGoOn := goodIn_r _ [15, 10, 16, 17, 18, 8, 19, 20, 21, 22, 23, 11, 24, 25, 26, 27, 28, 29, 30, 31, 32, 33, 34, 159, 160, 161, 162, 163, 164, 165, 166, 167, 168, 169, 170, 171, 172, 173, 174, 175] (by decide +kernel) (by decide +kernel)
set_option maxRecDepth 20000 in
theorem gX5_paragraph_X3_mayGoOn : GoodIn wsX5_paragraph (wsV RX5 104 RX3 yX3_mayGoOn wsX3_mayGoOn) := goodIn_app (goodIn_of _ (by decide +kernel)) ggX5_paragraph_X3_mayGoOn
set_option maxRecDepth 20000 in
theorem ggX5_paragraph_X4_firstFault : GoodIn wsX5_paragraph wsX4_firstFault := goodIn_r _ [39, 40, 41, 42, 43, 38, 44, 45, 46, 47, 48, 49, 50, 51, 52, 53, 54, 55, 56, 57, 58, 59, 60, 61, 62, 63, 64, 176, 177, 178, 179] (by decide +kernel) (by decide +kernel)
set_option maxRecDepth 20000 in
theorem gX5_paragraph_X4_firstFault : GoodIn wsX5_paragraph (wsV RX5 107 RX4 yX4_firstFault wsX4_firstFault) := goodIn_app (goodIn_of _ (by decide +kernel)) ggX5_paragraph_X4_firstFault
set_option maxRecDepth 20000 in
theorem ggX5_paragraph_X3_append : GoodIn wsX5_paragraph wsX3_append := goodIn_r _ [68, 10, 69, 6, 7, 8, 9, 11, 20, 21, 22, 23, 24, 25, 26, 27, 28, 70, 71, 72, 32, 73, 74, 75, 76, 77, 78, 79, 80, 81, 34, 82, 83, 84, 85, 86, 87, 88, 89, 46, 47, 38, 48, 40, 49, 50, 51, 52, 90, 91, 92, 93, 94, 95, 96, 97, 63, 64, 98, 99, 100, 101, 102, 103, 104, 105, 106, 107, 108, 109, 110, 111, 112, 113, 114, 115, 116, 117, 118, 119, 120, 121, 122, 123, 124, 125, 126, 127, 128, 129, 130, 131, 132, 133, 134, 135, 136, 137, 138, 139, 140, 141, 159, 160, 161, 162, 163, 164, 165, 166, 167, 168, 169, 170, 171, 172, 173, 174, 175, 176, 177] (by decide +kernel) (by decide +kernel)
set_option maxRecDepth 20000 in
theorem gX5_paragraph_X3_append : GoodIn wsX5_paragraph (wsV RX5 111 RX3 yX3_append wsX3_append) := goodIn_app (goodIn_of _ (by decide +kernel)) ggX5_paragraph_X3_append
set_option maxRecDepth 20000 in
theorem ggX5_paragraph_X4_clear : GoodIn wsX5_paragraph wsX4_clear := goodIn_r _ [145, 40, 176, 177] (by decide +kernel) (by decide +kernel)
set_option maxRecDepth 20000 in
theorem gX5_paragraph_X4_clear : GoodIn wsX5_paragraph (wsV RX5 100 RX4 yX4_clear wsX4_clear) := goodIn_app (goodIn_of _ (by decide +kernel)) ggX5_paragraph_X4_clear
set_option maxRecDepth 20000 in
theorem ggX5_paragraph_X3_length : GoodIn wsX5_paragraph wsX3_length := goodIn_r _ [149, 10, 159, 160, 161] (by decide +kernel) (by decide +kernel)
set_option maxRecDepth 20000 in
theorem gX5_paragraph_X3_length : GoodIn wsX5_paragraph (wsV RX5 115 RX3 yX3_length wsX3_length) := goodIn_app (goodIn_of _ (by decide +kernel)) ggX5_paragraph_X3_length
theorem dX5_paragraph_0 : decode cX5_paragraph 0 = .ok (.aload_n 0, 1) := by decide +kernel
theorem dX5_paragraph_1 : decode cX5_paragraph 1 = .ok (.getfield 26, 3) := by decide +kernel
theorem dX5_paragraph_4 : decode cX5_paragraph 4 = .ok (.invokevirtual 103, 3) := by decide +kernel
theorem dX5_paragraph_7 : decode cX5_paragraph 7 = .ok (.ifCond .eq 6, 3) := by decide +kernel
theorem dX5_paragraph_10 : decode cX5_paragraph 10 = .ok (.bipush (-4), 2) := by decide +kernel
theorem dX5_paragraph_12 : decode cX5_paragraph 12 = .ok (.ireturn, 1) := by decide +kernel
theorem dX5_paragraph_13 : decode cX5_paragraph 13 = .ok (.aload_n 0, 1) := by decide +kernel
theorem dX5_paragraph_14 : decode cX5_paragraph 14 = .ok (.getfield 19, 3) := by decide +kernel
theorem dX5_paragraph_17 : decode cX5_paragraph 17 = .ok (.aload_n 0, 1) := by decide +kernel
theorem dX5_paragraph_18 : decode cX5_paragraph 18 = .ok (.getfield 12, 3) := by decide +kernel
theorem dX5_paragraph_21 : decode cX5_paragraph 21 = .ok (.aload_n 0, 1) := by decide +kernel
theorem dX5_paragraph_22 : decode cX5_paragraph 22 = .ok (.getfield 26, 3) := by decide +kernel
theorem dX5_paragraph_25 : decode cX5_paragraph 25 = .ok (.invokevirtual 104, 3) := by decide +kernel
theorem dX5_paragraph_28 : decode cX5_paragraph 28 = .ok (.invokevirtual 107, 3) := by decide +kernel
theorem dX5_paragraph_31 : decode cX5_paragraph 31 = .ok (.istore_n 1, 1) := by decide +kernel
theorem dX5_paragraph_32 : decode cX5_paragraph 32 = .ok (.iload_n 1, 1) := by decide +kernel
theorem dX5_paragraph_33 : decode cX5_paragraph 33 = .ok (.bipush (-9), 2) := by decide +kernel
theorem dX5_paragraph_35 : decode cX5_paragraph 35 = .ok (.if_icmp .eq 8, 3) := by decide +kernel
theorem dX5_paragraph_38 : decode cX5_paragraph 38 = .ok (.bipush (-100), 2) := by decide +kernel
theorem dX5_paragraph_40 : decode cX5_paragraph 40 = .ok (.iload_n 1, 1) := by decide +kernel
theorem dX5_paragraph_41 : decode cX5_paragraph 41 = .ok (.isub, 1) := by decide +kernel
theorem dX5_paragraph_42 : decode cX5_paragraph 42 = .ok (.ireturn, 1) := by decide +kernel
theorem dX5_paragraph_43 : decode cX5_paragraph 43 = .ok (.aload_n 0, 1) := by decide +kernel
theorem dX5_paragraph_44 : decode cX5_paragraph 44 = .ok (.getfield 26, 3) := by decide +kernel
theorem dX5_paragraph_47 : decode cX5_paragraph 47 = .ok (.aload_n 0, 1) := by decide +kernel
theorem dX5_paragraph_48 : decode cX5_paragraph 48 = .ok (.getfield 19, 3) := by decide +kernel
theorem dX5_paragraph_51 : decode cX5_paragraph 51 = .ok (.aload_n 0, 1) := by decide +kernel
theorem dX5_paragraph_52 : decode cX5_paragraph 52 = .ok (.getfield 47, 3) := by decide +kernel
theorem dX5_paragraph_55 : decode cX5_paragraph 55 = .ok (.invokevirtual 111, 3) := by decide +kernel
theorem dX5_paragraph_58 : decode cX5_paragraph 58 = .ok (.aload_n 0, 1) := by decide +kernel
theorem dX5_paragraph_59 : decode cX5_paragraph 59 = .ok (.getfield 19, 3) := by decide +kernel
theorem dX5_paragraph_62 : decode cX5_paragraph 62 = .ok (.invokevirtual 100, 3) := by decide +kernel
theorem dX5_paragraph_65 : decode cX5_paragraph 65 = .ok (.aload_n 0, 1) := by decide +kernel
theorem dX5_paragraph_66 : decode cX5_paragraph 66 = .ok (.getfield 26, 3) := by decide +kernel
theorem dX5_paragraph_69 : decode cX5_paragraph 69 = .ok (.invokevirtual 115, 3) := by decide +kernel
theorem dX5_paragraph_72 : decode cX5_paragraph 72 = .ok (.iconst 1, 1) := by decide +kernel
theorem dX5_paragraph_73 : decode cX5_paragraph 73 = .ok (.isub, 1) := by decide +kernel
theorem dX5_paragraph_74 : decode cX5_paragraph 74 = .ok (.ireturn, 1) := by decide +kernel
set_option maxRecDepth 20000 in
theorem ggX5_cut_X3_length : GoodIn wsX5_cut wsX3_length := goodIn_r _ [6, 7, 21, 22, 23] (by decide +kernel) (by decide +kernel)
set_option maxRecDepth 20000 in
theorem gX5_cut_X3_length : GoodIn wsX5_cut (wsV RX5 115 RX3 yX3_length wsX3_length) := goodIn_app (goodIn_of _ (by decide +kernel)) ggX5_cut_X3_length
set_option maxRecDepth 20000 in
theorem ggX5_cut_X3_dropLast : GoodIn wsX5_cut wsX3_dropLast := goodIn_r _ [11, 7, 21, 22, 23] (by decide +kernel) (by decide +kernel)
set_option maxRecDepth 20000 in
theorem gX5_cut_X3_dropLast : GoodIn wsX5_cut (wsV RX5 116 RX3 yX3_dropLast wsX3_dropLast) := goodIn_app (goodIn_of _ (by decide +kernel)) ggX5_cut_X3_dropLast
theorem dX5_cut_0 : decode cX5_cut 0 = .ok (.aload_n 0, 1) := by decide +kernel
theorem dX5_cut_1 : decode cX5_cut 1 = .ok (.getfield 26, 3) := by decide +kernel
theorem dX5_cut_4 : decode cX5_cut 4 = .ok (.invokevirtual 115, 3) := by decide +kernel
theorem dX5_cut_7 : decode cX5_cut 7 = .ok (.ifCond .ne 6, 3) := by decide +kernel
theorem dX5_cut_10 : decode cX5_cut 10 = .ok (.bipush (-3), 2) := by decide +kernel
theorem dX5_cut_12 : decode cX5_cut 12 = .ok (.ireturn, 1) := by decide +kernel
theorem dX5_cut_13 : decode cX5_cut 13 = .ok (.aload_n 0, 1) := by decide +kernel
theorem dX5_cut_14 : decode cX5_cut 14 = .ok (.getfield 26, 3) := by decide +kernel
theorem dX5_cut_17 : decode cX5_cut 17 = .ok (.invokevirtual 116, 3) := by decide +kernel
theorem dX5_cut_20 : decode cX5_cut 20 = .ok (.aload_n 0, 1) := by decide +kernel
theorem dX5_cut_21 : decode cX5_cut 21 = .ok (.getfield 26, 3) := by decide +kernel
theorem dX5_cut_24 : decode cX5_cut 24 = .ok (.invokevirtual 115, 3) := by decide +kernel
theorem dX5_cut_27 : decode cX5_cut 27 = .ok (.ireturn, 1) := by decide +kernel
set_option maxRecDepth 20000 in
theorem ggX5_ofParagraph_X3_holds : GoodIn wsX5_ofParagraph wsX3_holds := goodIn_r _ [6, 7, 55, 56, 57] (by decide +kernel) (by decide +kernel)
set_option maxRecDepth 20000 in
theorem gX5_ofParagraph_X3_holds : GoodIn wsX5_ofParagraph (wsV RX5 119 RX3 yX3_holds wsX3_holds) := goodIn_app (goodIn_of _ (by decide +kernel)) ggX5_ofParagraph_X3_holds
set_option maxRecDepth 20000 in
theorem ggX5_ofParagraph_X3_paragraphAt : GoodIn wsX5_ofParagraph wsX3_paragraphAt := goodIn_r _ [11, 12, 13, 14, 3, 4, 5, 6, 7, 55, 56, 57] (by decide +kernel) (by decide +kernel)
set_option maxRecDepth 20000 in
theorem gX5_ofParagraph_X3_paragraphAt : GoodIn wsX5_ofParagraph (wsV RX5 122 RX3 yX3_paragraphAt wsX3_paragraphAt) := goodIn_app (goodIn_of _ (by decide +kernel)) ggX5_ofParagraph_X3_paragraphAt
set_option maxRecDepth 20000 in
theorem ggX5_ofParagraph_X1_length : GoodIn wsX5_ofParagraph wsX1_length := goodIn_r _ [19, 20, 58, 59, 60, 61, 62, 63, 64, 65, 66, 67, 68, 69, 70, 71] (by decide +kernel) (by decide +kernel)
set_option maxRecDepth 20000 in
theorem gX5_ofParagraph_X1_length : GoodIn wsX5_ofParagraph (wsV RX5 126 RX1 yX1_length wsX1_length) := goodIn_app (goodIn_of _ (by decide +kernel)) ggX5_ofParagraph_X1_length
set_option maxRecDepth 20000 in
theorem ggX5_ofParagraph_X1_quotes : GoodIn wsX5_ofParagraph wsX1_quotes := goodIn_r _ [24, 25, 58, 59, 60, 61, 62, 63, 64, 65, 66, 67, 68, 69, 70, 71] (by decide +kernel) (by decide +kernel)
set_option maxRecDepth 20000 in
theorem gX5_ofParagraph_X1_quotes : GoodIn wsX5_ofParagraph (wsV RX5 129 RX1 yX1_quotes wsX1_quotes) := goodIn_app (goodIn_of _ (by decide +kernel)) ggX5_ofParagraph_X1_quotes
set_option maxRecDepth 20000 in
theorem ggX5_ofParagraph_X1_goesOn : GoodIn wsX5_ofParagraph wsX1_goesOn := goodIn_r _ [29, 30, 58, 59, 60, 61, 62, 63, 64, 65, 66, 67, 68, 69, 70, 71] (by decide +kernel) (by decide +kernel)
set_option maxRecDepth 20000 in
theorem gX5_ofParagraph_X1_goesOn : GoodIn wsX5_ofParagraph (wsV RX5 132 RX1 yX1_goesOn wsX1_goesOn) := goodIn_app (goodIn_of _ (by decide +kernel)) ggX5_ofParagraph_X1_goesOn
set_option maxRecDepth 20000 in
theorem ggX5_ofParagraph_X1_hereThen : GoodIn wsX5_ofParagraph wsX1_hereThen := goodIn_r _ [34, 35, 58, 59, 60, 61, 62, 63, 64, 65, 66, 67, 68, 69, 70, 71] (by decide +kernel) (by decide +kernel)
set_option maxRecDepth 20000 in
theorem gX5_ofParagraph_X1_hereThen : GoodIn wsX5_ofParagraph (wsV RX5 135 RX1 yX1_hereThen wsX1_hereThen) := goodIn_app (goodIn_of _ (by decide +kernel)) ggX5_ofParagraph_X1_hereThen
set_option maxRecDepth 20000 in
theorem ggX5_ofParagraph_X1_countingVerbs : GoodIn wsX5_ofParagraph wsX1_countingVerbs := goodIn_r _ [39, 40, 58, 59, 60, 61, 62, 63, 64, 65, 66, 67, 68, 69, 70, 71] (by decide +kernel) (by decide +kernel)
set_option maxRecDepth 20000 in
theorem gX5_ofParagraph_X1_countingVerbs : GoodIn wsX5_ofParagraph (wsV RX5 138 RX1 yX1_countingVerbs wsX1_countingVerbs) := goodIn_app (goodIn_of _ (by decide +kernel)) ggX5_ofParagraph_X1_countingVerbs
set_option maxRecDepth 20000 in
theorem ggX5_ofParagraph_X1_hintSet : GoodIn wsX5_ofParagraph wsX1_hintSet := goodIn_r _ [44, 45, 58, 59, 60, 61, 62, 63, 64, 65, 66, 67, 68, 69, 70, 71] (by decide +kernel) (by decide +kernel)
set_option maxRecDepth 20000 in
theorem gX5_ofParagraph_X1_hintSet : GoodIn wsX5_ofParagraph (wsV RX5 141 RX1 yX1_hintSet wsX1_hintSet) := goodIn_app (goodIn_of _ (by decide +kernel)) ggX5_ofParagraph_X1_hintSet
theorem dX5_ofParagraph_0 : decode cX5_ofParagraph 0 = .ok (.aload_n 0, 1) := by decide +kernel
theorem dX5_ofParagraph_1 : decode cX5_ofParagraph 1 = .ok (.getfield 26, 3) := by decide +kernel
theorem dX5_ofParagraph_4 : decode cX5_ofParagraph 4 = .ok (.iload_n 1, 1) := by decide +kernel
theorem dX5_ofParagraph_5 : decode cX5_ofParagraph 5 = .ok (.invokevirtual 119, 3) := by decide +kernel
theorem dX5_ofParagraph_8 : decode cX5_ofParagraph 8 = .ok (.ifCond .ne 5, 3) := by decide +kernel
theorem dX5_ofParagraph_11 : decode cX5_ofParagraph 11 = .ok (.iconst (-1), 1) := by decide +kernel
theorem dX5_ofParagraph_12 : decode cX5_ofParagraph 12 = .ok (.ireturn, 1) := by decide +kernel
theorem dX5_ofParagraph_13 : decode cX5_ofParagraph 13 = .ok (.aload_n 0, 1) := by decide +kernel
theorem dX5_ofParagraph_14 : decode cX5_ofParagraph 14 = .ok (.getfield 26, 3) := by decide +kernel
theorem dX5_ofParagraph_17 : decode cX5_ofParagraph 17 = .ok (.iload_n 1, 1) := by decide +kernel
theorem dX5_ofParagraph_18 : decode cX5_ofParagraph 18 = .ok (.invokevirtual 122, 3) := by decide +kernel
theorem dX5_ofParagraph_21 : decode cX5_ofParagraph 21 = .ok (.astore_n 3, 1) := by decide +kernel
theorem dX5_ofParagraph_22 : decode cX5_ofParagraph 22 = .ok (.iload_n 2, 1) := by decide +kernel
theorem dX5_ofParagraph_23 : decode cX5_ofParagraph 23 = .ok (.tableswitch 75 0 5 #[37, 42, 47, 60, 65, 70], 37) := by decide +kernel
theorem dX5_ofParagraph_60 : decode cX5_ofParagraph 60 = .ok (.aload_n 3, 1) := by decide +kernel
theorem dX5_ofParagraph_61 : decode cX5_ofParagraph 61 = .ok (.invokevirtual 126, 3) := by decide +kernel
theorem dX5_ofParagraph_64 : decode cX5_ofParagraph 64 = .ok (.ireturn, 1) := by decide +kernel
theorem dX5_ofParagraph_65 : decode cX5_ofParagraph 65 = .ok (.aload_n 3, 1) := by decide +kernel
theorem dX5_ofParagraph_66 : decode cX5_ofParagraph 66 = .ok (.invokevirtual 129, 3) := by decide +kernel
theorem dX5_ofParagraph_69 : decode cX5_ofParagraph 69 = .ok (.ireturn, 1) := by decide +kernel
theorem dX5_ofParagraph_70 : decode cX5_ofParagraph 70 = .ok (.aload_n 3, 1) := by decide +kernel
theorem dX5_ofParagraph_71 : decode cX5_ofParagraph 71 = .ok (.invokevirtual 132, 3) := by decide +kernel
theorem dX5_ofParagraph_74 : decode cX5_ofParagraph 74 = .ok (.ifCond .eq 7, 3) := by decide +kernel
theorem dX5_ofParagraph_77 : decode cX5_ofParagraph 77 = .ok (.iconst 1, 1) := by decide +kernel
theorem dX5_ofParagraph_78 : decode cX5_ofParagraph 78 = .ok (.goto 4, 3) := by decide +kernel
theorem dX5_ofParagraph_81 : decode cX5_ofParagraph 81 = .ok (.iconst 0, 1) := by decide +kernel
theorem dX5_ofParagraph_82 : decode cX5_ofParagraph 82 = .ok (.ireturn, 1) := by decide +kernel
theorem dX5_ofParagraph_83 : decode cX5_ofParagraph 83 = .ok (.aload_n 3, 1) := by decide +kernel
theorem dX5_ofParagraph_84 : decode cX5_ofParagraph 84 = .ok (.invokevirtual 135, 3) := by decide +kernel
theorem dX5_ofParagraph_87 : decode cX5_ofParagraph 87 = .ok (.ireturn, 1) := by decide +kernel
theorem dX5_ofParagraph_88 : decode cX5_ofParagraph 88 = .ok (.aload_n 3, 1) := by decide +kernel
theorem dX5_ofParagraph_89 : decode cX5_ofParagraph 89 = .ok (.invokevirtual 138, 3) := by decide +kernel
theorem dX5_ofParagraph_92 : decode cX5_ofParagraph 92 = .ok (.ireturn, 1) := by decide +kernel
theorem dX5_ofParagraph_93 : decode cX5_ofParagraph 93 = .ok (.aload_n 3, 1) := by decide +kernel
theorem dX5_ofParagraph_94 : decode cX5_ofParagraph 94 = .ok (.invokevirtual 141, 3) := by decide +kernel
theorem dX5_ofParagraph_97 : decode cX5_ofParagraph 97 = .ok (.ireturn, 1) := by decide +kernel
theorem dX5_ofParagraph_98 : decode cX5_ofParagraph 98 = .ok (.bipush (-2), 2) := by decide +kernel
theorem dX5_ofParagraph_100 : decode cX5_ofParagraph 100 = .ok (.ireturn, 1) := by decide +kernel
set_option maxRecDepth 20000 in
theorem ggX5_set_X3_holds : GoodIn wsX5_set wsX3_holds := goodIn_r _ [7, 8, 170, 171, 172] (by decide +kernel) (by decide +kernel)
set_option maxRecDepth 20000 in
theorem gX5_set_X3_holds : GoodIn wsX5_set (wsV RX5 119 RX3 yX3_holds wsX3_holds) := goodIn_app (goodIn_of _ (by decide +kernel)) ggX5_set_X3_holds
set_option maxRecDepth 20000 in
theorem ggX5_set_X3_paragraphAt : GoodIn wsX5_set wsX3_paragraphAt := goodIn_r _ [12, 13, 14, 15, 4, 5, 6, 7, 8, 170, 171, 172] (by decide +kernel) (by decide +kernel)
set_option maxRecDepth 20000 in
theorem gX5_set_X3_paragraphAt : GoodIn wsX5_set (wsV RX5 122 RX3 yX3_paragraphAt wsX3_paragraphAt) := goodIn_app (goodIn_of _ (by decide +kernel)) ggX5_set_X3_paragraphAt
set_option maxRecDepth 20000 in
theorem ggX5_set_X1_speaks : GoodIn wsX5_set wsX1_speaks := goodIn_r _ [20, 21, 173, 174, 175, 176, 177, 178, 179, 180, 181, 182, 183, 184, 185, 186] (by decide +kernel) (by decide +kernel)
set_option maxRecDepth 20000 in
theorem gX5_set_X1_speaks : GoodIn wsX5_set (wsV RX5 144 RX1 yX1_speaks wsX1_speaks) := goodIn_app (goodIn_of _ (by decide +kernel)) ggX5_set_X1_speaks
set_option maxRecDepth 20000 in
theorem ggX5_set_X5_fillChain : GoodIn wsX5_set wsX5_fillChain := goodIn_r _ [26, 2, 1, 27, 28, 29, 30, 31, 32, 33, 34, 35, 36, 37, 6, 38, 8, 9, 10, 11, 12, 13, 14, 15, 4, 5, 7, 16, 17, 18, 19, 20, 21, 39, 40, 41, 42, 43, 44, 45, 46, 47, 48, 49, 50, 51, 52, 53, 54, 55, 56, 57, 58, 59, 60, 61, 25, 62, 63, 64, 65, 66, 67, 68, 69, 70, 71, 72, 73, 74, 75, 76, 77, 78, 79, 80, 81, 82, 83, 84, 85, 86, 161, 162, 163, 164, 165, 166, 167, 168, 169, 187, 188, 189, 190, 191, 192, 193, 194, 195, 170, 171, 172, 173, 174, 175, 176, 177, 178, 179, 180, 181, 182, 183, 184, 185, 186, 196, 197] (by decide +kernel) (by decide +kernel)
set_option maxRecDepth 20000 in
theorem gX5_set_X5_fillChain : GoodIn wsX5_set (wsV RX5 73 RX5 yX5_fillChain wsX5_fillChain) := goodIn_app (goodIn_of _ (by decide +kernel)) ggX5_set_X5_fillChain
set_option maxRecDepth 20000 in
theorem ggX5_set_X0_ownSet : GoodIn wsX5_set wsX0_ownSet := goodIn_r _ [90, 83, 91, 92, 93, 32, 94, 34, 85, 25, 86, 187, 188, 189, 190, 191, 192, 193, 194, 195] (by decide +kernel) (by decide +kernel)
set_option maxRecDepth 20000 in
theorem gX5_set_X0_ownSet : GoodIn wsX5_set (wsV RX5 147 RX0 yX0_ownSet wsX0_ownSet) := goodIn_app (goodIn_of _ (by decide +kernel)) ggX5_set_X0_ownSet
set_option maxRecDepth 20000 in
theorem ggX5_set_X0_narrow : GoodIn wsX5_set wsX0_narrow := goodIn_r _ [98, 99, 100, 88, 89, 32, 90, 83, 91, 92, 93, 94, 34, 85, 25, 86, 101, 102, 103, 104, 105, 106, 107, 108, 109, 110, 111, 112, 113, 84, 114, 115, 116, 117, 118, 119, 120, 121, 122, 123, 187, 188, 189, 190, 191, 192, 193, 194, 195] (by decide +kernel) (by decide +kernel)
set_option maxRecDepth 20000 in
theorem gX5_set_X0_narrow : GoodIn wsX5_set (wsV RX5 150 RX0 yX0_narrow wsX0_narrow) := goodIn_app (goodIn_of _ (by decide +kernel)) ggX5_set_X0_narrow
set_option maxRecDepth 20000 in
theorem ggX5_set_X0_narrowedSet : GoodIn wsX5_set wsX0_narrowedSet := goodIn_r _ [127, 99, 91, 92, 93, 32, 94, 34, 85, 25, 86, 187, 188, 189, 190, 191, 192, 193, 194, 195] (by decide +kernel) (by decide +kernel)
set_option maxRecDepth 20000 in
theorem gX5_set_X0_narrowedSet : GoodIn wsX5_set (wsV RX5 153 RX0 yX0_narrowedSet wsX0_narrowedSet) := goodIn_app (goodIn_of _ (by decide +kernel)) ggX5_set_X0_narrowedSet
set_option maxRecDepth 20000 in
theorem ggX5_set_X0_countWays : GoodIn wsX5_set wsX0_countWays := goodIn_r _ [131, 34, 132, 133, 110, 111, 112, 32, 113, 84, 91, 92, 93, 94, 85, 25, 86, 134, 135, 136, 137, 82, 100, 88, 89, 90, 83, 61, 62, 138, 139, 140, 141, 142, 143, 144, 145, 146, 147, 148, 149, 150, 151, 152, 153, 154, 155, 156, 187, 188, 189, 190, 191, 192, 193, 194, 195] (by decide +kernel) (by decide +kernel)
set_option maxRecDepth 20000 in
theorem gX5_set_X0_countWays : GoodIn wsX5_set (wsV RX5 156 RX0 yX0_countWays wsX0_countWays) := goodIn_app (goodIn_of _ (by decide +kernel)) ggX5_set_X0_countWays
set_option maxRecDepth 20000 in
theorem ggX5_set_X0_sureSet : GoodIn wsX5_set wsX0_sureSet := goodIn_r _ [160, 133, 91, 92, 93, 32, 94, 34, 85, 25, 86, 187, 188, 189, 190, 191, 192, 193, 194, 195] (by decide +kernel) (by decide +kernel)
set_option maxRecDepth 20000 in
theorem gX5_set_X0_sureSet : GoodIn wsX5_set (wsV RX5 160 RX0 yX0_sureSet wsX0_sureSet) := goodIn_app (goodIn_of _ (by decide +kernel)) ggX5_set_X0_sureSet
theorem dX5_set_0 : decode cX5_set 0 = .ok (.aload_n 0, 1) := by decide +kernel
theorem dX5_set_1 : decode cX5_set 1 = .ok (.getfield 26, 3) := by decide +kernel
theorem dX5_set_4 : decode cX5_set 4 = .ok (.iload_n 1, 1) := by decide +kernel
theorem dX5_set_5 : decode cX5_set 5 = .ok (.invokevirtual 119, 3) := by decide +kernel
theorem dX5_set_8 : decode cX5_set 8 = .ok (.ifCond .ne 5, 3) := by decide +kernel
theorem dX5_set_11 : decode cX5_set 11 = .ok (.iconst (-1), 1) := by decide +kernel
theorem dX5_set_12 : decode cX5_set 12 = .ok (.ireturn, 1) := by decide +kernel
theorem dX5_set_13 : decode cX5_set 13 = .ok (.iload_n 2, 1) := by decide +kernel
theorem dX5_set_14 : decode cX5_set 14 = .ok (.ifCond .lt 8, 3) := by decide +kernel
theorem dX5_set_17 : decode cX5_set 17 = .ok (.iload_n 2, 1) := by decide +kernel
theorem dX5_set_18 : decode cX5_set 18 = .ok (.iconst 2, 1) := by decide +kernel
theorem dX5_set_19 : decode cX5_set 19 = .ok (.if_icmp .le 6, 3) := by decide +kernel
theorem dX5_set_22 : decode cX5_set 22 = .ok (.bipush (-2), 2) := by decide +kernel
theorem dX5_set_24 : decode cX5_set 24 = .ok (.ireturn, 1) := by decide +kernel
theorem dX5_set_25 : decode cX5_set 25 = .ok (.aload_n 0, 1) := by decide +kernel
theorem dX5_set_26 : decode cX5_set 26 = .ok (.getfield 26, 3) := by decide +kernel
theorem dX5_set_29 : decode cX5_set 29 = .ok (.iload_n 1, 1) := by decide +kernel
theorem dX5_set_30 : decode cX5_set 30 = .ok (.invokevirtual 122, 3) := by decide +kernel
theorem dX5_set_33 : decode cX5_set 33 = .ok (.invokevirtual 144, 3) := by decide +kernel
theorem dX5_set_36 : decode cX5_set 36 = .ok (.ifCond .ne 6, 3) := by decide +kernel
theorem dX5_set_39 : decode cX5_set 39 = .ok (.bipush (-9), 2) := by decide +kernel
theorem dX5_set_41 : decode cX5_set 41 = .ok (.ireturn, 1) := by decide +kernel
theorem dX5_set_42 : decode cX5_set 42 = .ok (.aload_n 0, 1) := by decide +kernel
theorem dX5_set_43 : decode cX5_set 43 = .ok (.invokevirtual 73, 3) := by decide +kernel
theorem dX5_set_46 : decode cX5_set 46 = .ok (.iload_n 2, 1) := by decide +kernel
theorem dX5_set_47 : decode cX5_set 47 = .ok (.ifCond .ne 12, 3) := by decide +kernel
theorem dX5_set_50 : decode cX5_set 50 = .ok (.aload_n 0, 1) := by decide +kernel
theorem dX5_set_51 : decode cX5_set 51 = .ok (.getfield 33, 3) := by decide +kernel
theorem dX5_set_54 : decode cX5_set 54 = .ok (.iload_n 1, 1) := by decide +kernel
theorem dX5_set_55 : decode cX5_set 55 = .ok (.invokevirtual 147, 3) := by decide +kernel
theorem dX5_set_58 : decode cX5_set 58 = .ok (.ireturn, 1) := by decide +kernel
theorem dX5_set_59 : decode cX5_set 59 = .ok (.iload_n 2, 1) := by decide +kernel
theorem dX5_set_60 : decode cX5_set 60 = .ok (.iconst 1, 1) := by decide +kernel
theorem dX5_set_61 : decode cX5_set 61 = .ok (.if_icmp .ne 19, 3) := by decide +kernel
theorem dX5_set_64 : decode cX5_set 64 = .ok (.aload_n 0, 1) := by decide +kernel
theorem dX5_set_65 : decode cX5_set 65 = .ok (.getfield 33, 3) := by decide +kernel
theorem dX5_set_68 : decode cX5_set 68 = .ok (.invokevirtual 150, 3) := by decide +kernel
theorem dX5_set_71 : decode cX5_set 71 = .ok (.aload_n 0, 1) := by decide +kernel
theorem dX5_set_72 : decode cX5_set 72 = .ok (.getfield 33, 3) := by decide +kernel
theorem dX5_set_75 : decode cX5_set 75 = .ok (.iload_n 1, 1) := by decide +kernel
theorem dX5_set_76 : decode cX5_set 76 = .ok (.invokevirtual 153, 3) := by decide +kernel
theorem dX5_set_79 : decode cX5_set 79 = .ok (.ireturn, 1) := by decide +kernel
theorem dX5_set_80 : decode cX5_set 80 = .ok (.aload_n 0, 1) := by decide +kernel
theorem dX5_set_81 : decode cX5_set 81 = .ok (.getfield 33, 3) := by decide +kernel
theorem dX5_set_84 : decode cX5_set 84 = .ok (.invokevirtual 156, 3) := by decide +kernel
theorem dX5_set_87 : decode cX5_set 87 = .ok (.pop2, 1) := by decide +kernel
theorem dX5_set_88 : decode cX5_set 88 = .ok (.aload_n 0, 1) := by decide +kernel
theorem dX5_set_89 : decode cX5_set 89 = .ok (.getfield 33, 3) := by decide +kernel
theorem dX5_set_92 : decode cX5_set 92 = .ok (.iload_n 1, 1) := by decide +kernel
theorem dX5_set_93 : decode cX5_set 93 = .ok (.invokevirtual 160, 3) := by decide +kernel
theorem dX5_set_96 : decode cX5_set 96 = .ok (.ireturn, 1) := by decide +kernel
set_option maxRecDepth 20000 in
theorem ggX5_hint_X3_holds : GoodIn wsX5_hint wsX3_holds := goodIn_r _ [6, 7, 149, 150, 151] (by decide +kernel) (by decide +kernel)
set_option maxRecDepth 20000 in
theorem gX5_hint_X3_holds : GoodIn wsX5_hint (wsV RX5 119 RX3 yX3_holds wsX3_holds) := goodIn_app (goodIn_of _ (by decide +kernel)) ggX5_hint_X3_holds
set_option maxRecDepth 20000 in
theorem ggX5_hint_X3_paragraphAt : GoodIn wsX5_hint wsX3_paragraphAt := goodIn_r _ [11, 12, 13, 14, 3, 4, 5, 6, 7, 149, 150, 151] (by decide +kernel) (by decide +kernel)
set_option maxRecDepth 20000 in
theorem gX5_hint_X3_paragraphAt : GoodIn wsX5_hint (wsV RX5 122 RX3 yX3_paragraphAt wsX3_paragraphAt) := goodIn_app (goodIn_of _ (by decide +kernel)) ggX5_hint_X3_paragraphAt
set_option maxRecDepth 20000 in
theorem ggX5_hint_X1_speaks : GoodIn wsX5_hint wsX1_speaks := goodIn_r _ [19, 20, 152, 153, 154, 155, 156, 157, 158, 159, 160, 161, 162, 163, 164, 165] (by decide +kernel) (by decide +kernel)
set_option maxRecDepth 20000 in
theorem gX5_hint_X1_speaks : GoodIn wsX5_hint (wsV RX5 144 RX1 yX1_speaks wsX1_speaks) := goodIn_app (goodIn_of _ (by decide +kernel)) ggX5_hint_X1_speaks
set_option maxRecDepth 20000 in
theorem ggX5_hint_X5_keepNarrowedSets : GoodIn wsX5_hint wsX5_keepNarrowedSets := goodIn_r _ [25, 26, 27, 28, 29, 30, 24, 31, 1, 32, 33, 34, 35, 36, 37, 38, 39, 40, 41, 42, 5, 43, 7, 8, 9, 10, 11, 12, 13, 14, 3, 4, 6, 15, 16, 17, 18, 19, 20, 44, 45, 46, 47, 48, 49, 50, 51, 52, 53, 54, 55, 56, 57, 58, 59, 60, 61, 62, 63, 64, 65, 66, 67, 68, 69, 70, 71, 72, 73, 74, 75, 76, 77, 78, 79, 80, 81, 82, 83, 84, 85, 86, 87, 88, 89, 90, 91, 92, 93, 94, 95, 96, 97, 98, 99, 100, 101, 102, 103, 104, 105, 106, 107, 108, 109, 110, 111, 112, 113, 114, 115, 116, 117, 118, 119, 120, 121, 122, 123, 124, 125, 126, 127, 128, 129, 130, 131, 140, 141, 142, 143, 144, 145, 146, 147, 148, 166, 167, 168, 169, 170, 171, 172, 173, 174, 149, 150, 151, 152, 153, 154, 155, 156, 157, 158, 159, 160, 161, 162, 163, 164, 165, 175, 176] (by decide +kernel) (by decide +kernel)
set_option maxRecDepth 20000 in
theorem gX5_hint_X5_keepNarrowedSets : GoodIn wsX5_hint (wsV RX5 163 RX5 yX5_keepNarrowedSets wsX5_keepNarrowedSets) := goodIn_app (goodIn_of _ (by decide +kernel)) ggX5_hint_X5_keepNarrowedSets
set_option maxRecDepth 20000 in
theorem ggX5_hint_X1_takeHint : GoodIn wsX5_hint wsX1_takeHint := goodIn_r _ [135, 54, 152, 153, 154, 155, 156, 157, 158, 159, 160, 161, 162, 163, 164, 165] (by decide +kernel) (by decide +kernel)
set_option maxRecDepth 20000 in
theorem gX5_hint_X1_takeHint : GoodIn wsX5_hint (wsV RX5 166 RX1 yX1_takeHint wsX1_takeHint) := goodIn_app (goodIn_of _ (by decide +kernel)) ggX5_hint_X1_takeHint
set_option maxRecDepth 20000 in
theorem ggX5_hint_X5_changedNarrowedSets : GoodIn wsX5_hint wsX5_changedNarrowedSets := goodIn_r _ [139, 26, 27, 28, 29, 30, 24, 31, 1, 32, 33, 34, 35, 36, 37, 38, 39, 40, 41, 42, 5, 43, 7, 8, 9, 10, 11, 12, 13, 14, 3, 4, 6, 15, 16, 17, 18, 19, 20, 44, 45, 46, 47, 48, 49, 50, 51, 52, 53, 54, 55, 56, 57, 58, 59, 60, 61, 62, 63, 64, 65, 66, 67, 68, 69, 70, 71, 72, 73, 74, 75, 76, 77, 78, 79, 80, 81, 82, 83, 84, 85, 86, 87, 88, 89, 90, 91, 92, 93, 94, 95, 96, 97, 98, 99, 100, 101, 102, 103, 104, 105, 106, 107, 108, 109, 110, 111, 112, 113, 114, 115, 116, 117, 118, 119, 120, 121, 122, 123, 124, 125, 126, 127, 128, 129, 130, 131, 140, 141, 142, 143, 144, 145, 146, 147, 148, 166, 167, 168, 169, 170, 171, 172, 173, 174, 149, 150, 151, 152, 153, 154, 155, 156, 157, 158, 159, 160, 161, 162, 163, 164, 165, 175, 176] (by decide +kernel) (by decide +kernel)
set_option maxRecDepth 20000 in
theorem gX5_hint_X5_changedNarrowedSets : GoodIn wsX5_hint (wsV RX5 169 RX5 yX5_changedNarrowedSets wsX5_changedNarrowedSets) := goodIn_app (goodIn_of _ (by decide +kernel)) ggX5_hint_X5_changedNarrowedSets
theorem dX5_hint_0 : decode cX5_hint 0 = .ok (.aload_n 0, 1) := by decide +kernel
theorem dX5_hint_1 : decode cX5_hint 1 = .ok (.getfield 26, 3) := by decide +kernel
theorem dX5_hint_4 : decode cX5_hint 4 = .ok (.iload_n 1, 1) := by decide +kernel
theorem dX5_hint_5 : decode cX5_hint 5 = .ok (.invokevirtual 119, 3) := by decide +kernel
theorem dX5_hint_8 : decode cX5_hint 8 = .ok (.ifCond .ne 5, 3) := by decide +kernel
theorem dX5_hint_11 : decode cX5_hint 11 = .ok (.iconst (-1), 1) := by decide +kernel
theorem dX5_hint_12 : decode cX5_hint 12 = .ok (.ireturn, 1) := by decide +kernel
theorem dX5_hint_13 : decode cX5_hint 13 = .ok (.iload_n 2, 1) := by decide +kernel
theorem dX5_hint_14 : decode cX5_hint 14 = .ok (.bipush (-9), 2) := by decide +kernel
theorem dX5_hint_16 : decode cX5_hint 16 = .ok (.if_icmp .eq 18, 3) := by decide +kernel
theorem dX5_hint_19 : decode cX5_hint 19 = .ok (.iload_n 2, 1) := by decide +kernel
theorem dX5_hint_20 : decode cX5_hint 20 = .ok (.iconst 1, 1) := by decide +kernel
theorem dX5_hint_21 : decode cX5_hint 21 = .ok (.if_icmp .lt 10, 3) := by decide +kernel
theorem dX5_hint_24 : decode cX5_hint 24 = .ok (.iload_n 2, 1) := by decide +kernel
theorem dX5_hint_25 : decode cX5_hint 25 = .ok (.sipush 255, 3) := by decide +kernel
theorem dX5_hint_28 : decode cX5_hint 28 = .ok (.if_icmp .le 6, 3) := by decide +kernel
theorem dX5_hint_31 : decode cX5_hint 31 = .ok (.bipush (-2), 2) := by decide +kernel
theorem dX5_hint_33 : decode cX5_hint 33 = .ok (.ireturn, 1) := by decide +kernel
theorem dX5_hint_34 : decode cX5_hint 34 = .ok (.aload_n 0, 1) := by decide +kernel
theorem dX5_hint_35 : decode cX5_hint 35 = .ok (.getfield 26, 3) := by decide +kernel
theorem dX5_hint_38 : decode cX5_hint 38 = .ok (.iload_n 1, 1) := by decide +kernel
theorem dX5_hint_39 : decode cX5_hint 39 = .ok (.invokevirtual 122, 3) := by decide +kernel
theorem dX5_hint_42 : decode cX5_hint 42 = .ok (.astore_n 3, 1) := by decide +kernel
theorem dX5_hint_43 : decode cX5_hint 43 = .ok (.aload_n 3, 1) := by decide +kernel
theorem dX5_hint_44 : decode cX5_hint 44 = .ok (.invokevirtual 144, 3) := by decide +kernel
theorem dX5_hint_47 : decode cX5_hint 47 = .ok (.ifCond .ne 6, 3) := by decide +kernel
theorem dX5_hint_50 : decode cX5_hint 50 = .ok (.bipush (-3), 2) := by decide +kernel
theorem dX5_hint_52 : decode cX5_hint 52 = .ok (.ireturn, 1) := by decide +kernel
theorem dX5_hint_53 : decode cX5_hint 53 = .ok (.aload_n 0, 1) := by decide +kernel
theorem dX5_hint_54 : decode cX5_hint 54 = .ok (.invokevirtual 163, 3) := by decide +kernel
theorem dX5_hint_57 : decode cX5_hint 57 = .ok (.aload_n 3, 1) := by decide +kernel
theorem dX5_hint_58 : decode cX5_hint 58 = .ok (.iload_n 2, 1) := by decide +kernel
theorem dX5_hint_59 : decode cX5_hint 59 = .ok (.invokevirtual 166, 3) := by decide +kernel
theorem dX5_hint_62 : decode cX5_hint 62 = .ok (.aload_n 0, 1) := by decide +kernel
theorem dX5_hint_63 : decode cX5_hint 63 = .ok (.invokevirtual 169, 3) := by decide +kernel
theorem dX5_hint_66 : decode cX5_hint 66 = .ok (.ireturn, 1) := by decide +kernel
set_option maxRecDepth 20000 in
theorem ggX5_link_X3_holds : GoodIn wsX5_link wsX3_holds := goodIn_r _ [7, 8, 44, 45, 46] (by decide +kernel) (by decide +kernel)
set_option maxRecDepth 20000 in
theorem gX5_link_X3_holds : GoodIn wsX5_link (wsV RX5 119 RX3 yX3_holds wsX3_holds) := goodIn_app (goodIn_of _ (by decide +kernel)) ggX5_link_X3_holds
set_option maxRecDepth 20000 in
theorem ggX5_link_X3_linkAhead : GoodIn wsX5_link wsX3_linkAhead := goodIn_r _ [12, 13, 14, 15, 6, 16, 17, 18, 19, 20, 21, 22, 23, 4, 5, 7, 8, 24, 25, 26, 27, 28, 29, 30, 31, 32, 33, 34, 44, 45, 46, 47, 48, 49, 50, 51, 52, 53, 54, 55, 56, 57, 58, 59, 60] (by decide +kernel) (by decide +kernel)
set_option maxRecDepth 20000 in
theorem gX5_link_X3_linkAhead : GoodIn wsX5_link (wsV RX5 172 RX3 yX3_linkAhead wsX3_linkAhead) := goodIn_app (goodIn_of _ (by decide +kernel)) ggX5_link_X3_linkAhead
theorem dX5_link_0 : decode cX5_link 0 = .ok (.aload_n 0, 1) := by decide +kernel
theorem dX5_link_1 : decode cX5_link 1 = .ok (.getfield 26, 3) := by decide +kernel
theorem dX5_link_4 : decode cX5_link 4 = .ok (.iload_n 1, 1) := by decide +kernel
theorem dX5_link_5 : decode cX5_link 5 = .ok (.invokevirtual 119, 3) := by decide +kernel
theorem dX5_link_8 : decode cX5_link 8 = .ok (.ifCond .eq 18, 3) := by decide +kernel
theorem dX5_link_11 : decode cX5_link 11 = .ok (.aload_n 0, 1) := by decide +kernel
theorem dX5_link_12 : decode cX5_link 12 = .ok (.getfield 26, 3) := by decide +kernel
theorem dX5_link_15 : decode cX5_link 15 = .ok (.iload_n 1, 1) := by decide +kernel
theorem dX5_link_16 : decode cX5_link 16 = .ok (.aload_n 0, 1) := by decide +kernel
theorem dX5_link_17 : decode cX5_link 17 = .ok (.getfield 51, 3) := by decide +kernel
theorem dX5_link_20 : decode cX5_link 20 = .ok (.invokevirtual 172, 3) := by decide +kernel
theorem dX5_link_23 : decode cX5_link 23 = .ok (.goto 4, 3) := by decide +kernel
theorem dX5_link_26 : decode cX5_link 26 = .ok (.iconst (-1), 1) := by decide +kernel
theorem dX5_link_27 : decode cX5_link 27 = .ok (.ireturn, 1) := by decide +kernel
set_option maxRecDepth 20000 in
theorem ggX5_ways_X5_fillChain : GoodIn wsX5_ways wsX5_fillChain := goodIn_r _ [6, 1, 7, 8, 9, 10, 11, 12, 13, 14, 15, 16, 17, 18, 19, 20, 21, 22, 23, 24, 25, 26, 27, 28, 29, 30, 31, 32, 33, 34, 35, 36, 37, 38, 39, 40, 41, 42, 43, 44, 45, 46, 47, 48, 49, 50, 51, 52, 53, 54, 55, 56, 57, 58, 59, 60, 5, 61, 62, 63, 64, 65, 66, 67, 68, 69, 70, 71, 72, 73, 74, 75, 76, 77, 78, 79, 80, 81, 82, 83, 84, 85, 127, 128, 129, 130, 131, 132, 133, 134, 135, 136, 137, 138, 139, 140, 141, 142, 143, 144, 145, 146, 147, 148, 149, 150, 151, 152, 153, 154, 155, 156, 157, 158, 159, 160, 161, 162, 163] (by decide +kernel) (by decide +kernel)
set_option maxRecDepth 20000 in
theorem gX5_ways_X5_fillChain : GoodIn wsX5_ways (wsV RX5 73 RX5 yX5_fillChain wsX5_fillChain) := goodIn_app (goodIn_of _ (by decide +kernel)) ggX5_ways_X5_fillChain
set_option maxRecDepth 20000 in
theorem ggX5_ways_X0_countWays : GoodIn wsX5_ways wsX0_countWays := goodIn_r _ [89, 15, 90, 91, 92, 93, 94, 13, 95, 83, 96, 97, 98, 99, 84, 5, 85, 100, 101, 102, 103, 81, 104, 105, 106, 107, 82, 60, 61, 108, 109, 110, 111, 112, 113, 114, 115, 116, 117, 118, 119, 120, 121, 122, 123, 124, 125, 126, 136, 137, 138, 139, 140, 141, 142, 143, 144] (by decide +kernel) (by decide +kernel)
set_option maxRecDepth 20000 in
theorem gX5_ways_X0_countWays : GoodIn wsX5_ways (wsV RX5 156 RX0 yX0_countWays wsX0_countWays) := goodIn_app (goodIn_of _ (by decide +kernel)) ggX5_ways_X0_countWays
theorem dX5_ways_0 : decode cX5_ways 0 = .ok (.aload_n 0, 1) := by decide +kernel
theorem dX5_ways_1 : decode cX5_ways 1 = .ok (.invokevirtual 73, 3) := by decide +kernel
theorem dX5_ways_4 : decode cX5_ways 4 = .ok (.aload_n 0, 1) := by decide +kernel
theorem dX5_ways_5 : decode cX5_ways 5 = .ok (.getfield 33, 3) := by decide +kernel
theorem dX5_ways_8 : decode cX5_ways 8 = .ok (.invokevirtual 156, 3) := by decide +kernel
theorem dX5_ways_11 : decode cX5_ways 11 = .ok (.lreturn, 1) := by decide +kernel
set_option maxRecDepth 20000 in
theorem ggX5_would_X3_holds : GoodIn wsX5_would wsX3_holds := goodIn_r _ [9, 10, 143, 144, 145] (by decide +kernel) (by decide +kernel)
set_option maxRecDepth 20000 in
theorem gX5_would_X3_holds : GoodIn wsX5_would (wsV RX5 119 RX3 yX3_holds wsX3_holds) := goodIn_app (goodIn_of _ (by decide +kernel)) ggX5_would_X3_holds
set_option maxRecDepth 20000 in
theorem ggX5_would_X2_isThere : GoodIn wsX5_would wsX2_isThere := goodIn_r _ [15, 16, 17, 18, 19, 146, 147] (by decide +kernel) (by decide +kernel)
set_option maxRecDepth 20000 in
theorem gX5_would_X2_isThere : GoodIn wsX5_would (wsV RX5 66 RX2 yX2_isThere wsX2_isThere) := goodIn_app (goodIn_of _ (by decide +kernel)) ggX5_would_X2_isThere
set_option maxRecDepth 20000 in
theorem ggX5_would_X5_fillChain : GoodIn wsX5_would wsX5_fillChain := goodIn_r _ [23, 4, 1, 2, 24, 25, 26, 27, 28, 29, 30, 31, 32, 33, 8, 34, 10, 35, 36, 37, 38, 39, 40, 41, 6, 7, 9, 42, 43, 44, 45, 46, 47, 48, 49, 50, 51, 52, 53, 54, 55, 56, 57, 58, 59, 60, 61, 14, 62, 16, 63, 64, 65, 66, 67, 17, 18, 19, 68, 69, 70, 71, 72, 73, 74, 75, 76, 77, 78, 79, 80, 81, 82, 83, 84, 85, 86, 87, 88, 89, 90, 91, 134, 135, 136, 137, 138, 139, 140, 141, 142, 148, 149, 150, 151, 152, 153, 154, 155, 156, 143, 144, 145, 157, 158, 159, 160, 161, 162, 163, 164, 165, 166, 167, 168, 169, 170, 146, 147] (by decide +kernel) (by decide +kernel)
set_option maxRecDepth 20000 in
theorem gX5_would_X5_fillChain : GoodIn wsX5_would (wsV RX5 73 RX5 yX5_fillChain wsX5_fillChain) := goodIn_app (goodIn_of _ (by decide +kernel)) ggX5_would_X5_fillChain
set_option maxRecDepth 20000 in
theorem ggX5_would_X0_countWays : GoodIn wsX5_would wsX0_countWays := goodIn_r _ [95, 30, 96, 97, 98, 99, 100, 28, 101, 89, 102, 103, 104, 105, 90, 18, 91, 106, 107, 108, 109, 87, 110, 111, 112, 113, 88, 17, 19, 114, 115, 116, 117, 118, 119, 120, 121, 122, 123, 124, 125, 126, 127, 128, 129, 130, 131, 132, 148, 149, 150, 151, 152, 153, 154, 155, 156] (by decide +kernel) (by decide +kernel)
set_option maxRecDepth 20000 in
theorem gX5_would_X0_countWays : GoodIn wsX5_would (wsV RX5 156 RX0 yX0_countWays wsX0_countWays) := goodIn_app (goodIn_of _ (by decide +kernel)) ggX5_would_X0_countWays
set_option maxRecDepth 20000 in
theorem ggX5_would_X0_waysThrough : GoodIn wsX5_would wsX0_waysThrough := goodIn_r _ [132, 87, 124, 96, 102, 103, 104, 28, 105, 30, 90, 18, 91, 114, 115, 116, 148, 149, 150, 151, 152, 153, 154, 155, 156] (by decide +kernel) (by decide +kernel)
set_option maxRecDepth 20000 in
theorem gX5_would_X0_waysThrough : GoodIn wsX5_would (wsV RX5 178 RX0 yX0_waysThrough wsX0_waysThrough) := goodIn_app (goodIn_of _ (by decide +kernel)) ggX5_would_X0_waysThrough
theorem dX5_would_0 : decode cX5_would 0 = .ok (.aload_n 0, 1) := by decide +kernel
theorem dX5_would_1 : decode cX5_would 1 = .ok (.getfield 26, 3) := by decide +kernel
theorem dX5_would_4 : decode cX5_would 4 = .ok (.iload_n 1, 1) := by decide +kernel
theorem dX5_would_5 : decode cX5_would 5 = .ok (.invokevirtual 119, 3) := by decide +kernel
theorem dX5_would_8 : decode cX5_would 8 = .ok (.ifCond .eq 14, 3) := by decide +kernel
theorem dX5_would_11 : decode cX5_would 11 = .ok (.aload_n 0, 1) := by decide +kernel
theorem dX5_would_12 : decode cX5_would 12 = .ok (.getfield 12, 3) := by decide +kernel
theorem dX5_would_15 : decode cX5_would 15 = .ok (.iload_n 2, 1) := by decide +kernel
theorem dX5_would_16 : decode cX5_would 16 = .ok (.invokevirtual 66, 3) := by decide +kernel
theorem dX5_would_19 : decode cX5_would 19 = .ok (.ifCond .ne 7, 3) := by decide +kernel
theorem dX5_would_22 : decode cX5_would 22 = .ok (.ldc2_w 176, 3) := by decide +kernel
theorem dX5_would_25 : decode cX5_would 25 = .ok (.lreturn, 1) := by decide +kernel
theorem dX5_would_26 : decode cX5_would 26 = .ok (.aload_n 0, 1) := by decide +kernel
theorem dX5_would_27 : decode cX5_would 27 = .ok (.invokevirtual 73, 3) := by decide +kernel
theorem dX5_would_30 : decode cX5_would 30 = .ok (.aload_n 0, 1) := by decide +kernel
theorem dX5_would_31 : decode cX5_would 31 = .ok (.getfield 33, 3) := by decide +kernel
theorem dX5_would_34 : decode cX5_would 34 = .ok (.invokevirtual 156, 3) := by decide +kernel
theorem dX5_would_37 : decode cX5_would 37 = .ok (.pop2, 1) := by decide +kernel
theorem dX5_would_38 : decode cX5_would 38 = .ok (.aload_n 0, 1) := by decide +kernel
theorem dX5_would_39 : decode cX5_would 39 = .ok (.getfield 33, 3) := by decide +kernel
theorem dX5_would_42 : decode cX5_would 42 = .ok (.iload_n 1, 1) := by decide +kernel
theorem dX5_would_43 : decode cX5_would 43 = .ok (.iload_n 2, 1) := by decide +kernel
theorem dX5_would_44 : decode cX5_would 44 = .ok (.invokevirtual 178, 3) := by decide +kernel
theorem dX5_would_47 : decode cX5_would 47 = .ok (.lreturn, 1) := by decide +kernel
set_option maxRecDepth 20000 in
theorem ggX5_conflict_X5_fillChain : GoodIn wsX5_conflict wsX5_fillChain := goodIn_r _ [6, 1, 7, 8, 9, 10, 11, 12, 13, 14, 15, 16, 17, 18, 19, 20, 21, 22, 23, 24, 25, 26, 27, 28, 29, 30, 31, 32, 33, 34, 35, 36, 37, 38, 39, 40, 41, 42, 43, 44, 45, 46, 47, 48, 49, 50, 51, 52, 53, 54, 55, 56, 57, 58, 59, 60, 5, 61, 62, 63, 64, 65, 66, 67, 68, 69, 70, 71, 72, 73, 74, 75, 76, 77, 78, 79, 80, 81, 82, 83, 84, 85, 121, 122, 123, 124, 125, 126, 127, 128, 129, 130, 131, 132, 133, 134, 135, 136, 137, 138, 139, 140, 141, 142, 143, 144, 145, 146, 147, 148, 149, 150, 151, 152, 153, 154, 155, 156, 157] (by decide +kernel) (by decide +kernel)
set_option maxRecDepth 20000 in
theorem gX5_conflict_X5_fillChain : GoodIn wsX5_conflict (wsV RX5 73 RX5 yX5_fillChain wsX5_fillChain) := goodIn_app (goodIn_of _ (by decide +kernel)) ggX5_conflict_X5_fillChain
set_option maxRecDepth 20000 in
theorem ggX5_conflict_X0_conflictEnd : GoodIn wsX5_conflict wsX0_conflictEnd := goodIn_r _ [89, 15, 90, 91, 92, 13, 93, 94, 95, 96, 97, 98, 83, 99, 100, 101, 102, 84, 5, 85, 103, 104, 105, 106, 81, 107, 108, 109, 110, 82, 60, 61, 111, 112, 113, 114, 115, 116, 130, 131, 132, 133, 134, 135, 136, 137, 138] (by decide +kernel) (by decide +kernel)
set_option maxRecDepth 20000 in
theorem gX5_conflict_X0_conflictEnd : GoodIn wsX5_conflict (wsV RX5 182 RX0 yX0_conflictEnd wsX0_conflictEnd) := goodIn_app (goodIn_of _ (by decide +kernel)) ggX5_conflict_X0_conflictEnd
set_option maxRecDepth 20000 in
theorem ggX5_conflict_X0_conflictBeginning : GoodIn wsX5_conflict wsX0_conflictBeginning := goodIn_r _ [120, 90, 91, 92, 13, 93, 94, 95, 96, 97, 98, 83, 99, 100, 101, 102, 15, 84, 5, 85, 103, 104, 105, 106, 81, 107, 108, 109, 110, 82, 60, 61, 111, 112, 113, 114, 115, 116, 130, 131, 132, 133, 134, 135, 136, 137, 138] (by decide +kernel) (by decide +kernel)
set_option maxRecDepth 20000 in
theorem gX5_conflict_X0_conflictBeginning : GoodIn wsX5_conflict (wsV RX5 185 RX0 yX0_conflictBeginning wsX0_conflictBeginning) := goodIn_app (goodIn_of _ (by decide +kernel)) ggX5_conflict_X0_conflictBeginning
theorem dX5_conflict_0 : decode cX5_conflict 0 = .ok (.iload_n 1, 1) := by decide +kernel
theorem dX5_conflict_1 : decode cX5_conflict 1 = .ok (.ifCond .eq 11, 3) := by decide +kernel
theorem dX5_conflict_4 : decode cX5_conflict 4 = .ok (.iload_n 1, 1) := by decide +kernel
theorem dX5_conflict_5 : decode cX5_conflict 5 = .ok (.iconst 1, 1) := by decide +kernel
theorem dX5_conflict_6 : decode cX5_conflict 6 = .ok (.if_icmp .eq 6, 3) := by decide +kernel
theorem dX5_conflict_9 : decode cX5_conflict 9 = .ok (.bipush (-2), 2) := by decide +kernel
theorem dX5_conflict_11 : decode cX5_conflict 11 = .ok (.ireturn, 1) := by decide +kernel
theorem dX5_conflict_12 : decode cX5_conflict 12 = .ok (.aload_n 0, 1) := by decide +kernel
theorem dX5_conflict_13 : decode cX5_conflict 13 = .ok (.invokevirtual 73, 3) := by decide +kernel
theorem dX5_conflict_16 : decode cX5_conflict 16 = .ok (.aload_n 0, 1) := by decide +kernel
theorem dX5_conflict_17 : decode cX5_conflict 17 = .ok (.getfield 33, 3) := by decide +kernel
theorem dX5_conflict_20 : decode cX5_conflict 20 = .ok (.invokevirtual 182, 3) := by decide +kernel
theorem dX5_conflict_23 : decode cX5_conflict 23 = .ok (.istore_n 2, 1) := by decide +kernel
theorem dX5_conflict_24 : decode cX5_conflict 24 = .ok (.iload_n 2, 1) := by decide +kernel
theorem dX5_conflict_25 : decode cX5_conflict 25 = .ok (.bipush (-9), 2) := by decide +kernel
theorem dX5_conflict_27 : decode cX5_conflict 27 = .ok (.if_icmp .eq 8, 3) := by decide +kernel
theorem dX5_conflict_30 : decode cX5_conflict 30 = .ok (.iload_n 1, 1) := by decide +kernel
theorem dX5_conflict_31 : decode cX5_conflict 31 = .ok (.iconst 1, 1) := by decide +kernel
theorem dX5_conflict_32 : decode cX5_conflict 32 = .ok (.if_icmp .ne 5, 3) := by decide +kernel
theorem dX5_conflict_35 : decode cX5_conflict 35 = .ok (.iload_n 2, 1) := by decide +kernel
theorem dX5_conflict_36 : decode cX5_conflict 36 = .ok (.ireturn, 1) := by decide +kernel
theorem dX5_conflict_37 : decode cX5_conflict 37 = .ok (.aload_n 0, 1) := by decide +kernel
theorem dX5_conflict_38 : decode cX5_conflict 38 = .ok (.getfield 33, 3) := by decide +kernel
theorem dX5_conflict_41 : decode cX5_conflict 41 = .ok (.iload_n 2, 1) := by decide +kernel
theorem dX5_conflict_42 : decode cX5_conflict 42 = .ok (.invokevirtual 185, 3) := by decide +kernel
theorem dX5_conflict_45 : decode cX5_conflict 45 = .ok (.ireturn, 1) := by decide +kernel
set_option maxRecDepth 20000 in
theorem ggX5_asked_X5_fillChain : GoodIn wsX5_asked wsX5_fillChain := goodIn_r _ [7, 1, 2, 8, 9, 10, 11, 12, 13, 14, 15, 16, 17, 18, 19, 20, 21, 22, 23, 24, 25, 26, 27, 28, 29, 30, 31, 32, 33, 34, 35, 36, 37, 38, 39, 40, 41, 42, 43, 44, 45, 46, 47, 48, 49, 50, 51, 52, 53, 54, 55, 56, 57, 58, 59, 60, 6, 61, 62, 63, 64, 65, 66, 67, 68, 69, 70, 71, 72, 73, 74, 75, 76, 77, 78, 79, 80, 81, 82, 83, 84, 85, 146, 147, 148, 149, 150, 151, 152, 153, 154, 155, 156, 157, 158, 159, 160, 161, 162, 163, 164, 165, 166, 167, 168, 169, 170, 171, 172, 173, 174, 175, 176, 177, 178, 179, 180, 181, 182] (by decide +kernel) (by decide +kernel)
set_option maxRecDepth 20000 in
theorem gX5_asked_X5_fillChain : GoodIn wsX5_asked (wsV RX5 73 RX5 yX5_fillChain wsX5_fillChain) := goodIn_app (goodIn_of _ (by decide +kernel)) ggX5_asked_X5_fillChain
set_option maxRecDepth 20000 in
theorem ggX5_asked_X0_countWays : GoodIn wsX5_asked wsX0_countWays := goodIn_r _ [89, 15, 90, 91, 92, 93, 94, 13, 95, 83, 96, 97, 98, 99, 84, 6, 85, 100, 101, 102, 103, 81, 104, 105, 106, 107, 82, 60, 61, 108, 109, 110, 111, 112, 113, 114, 115, 116, 117, 118, 119, 120, 121, 122, 123, 124, 125, 126, 155, 156, 157, 158, 159, 160, 161, 162, 163] (by decide +kernel) (by decide +kernel)
set_option maxRecDepth 20000 in
theorem gX5_asked_X0_countWays : GoodIn wsX5_asked (wsV RX5 156 RX0 yX0_countWays wsX0_countWays) := goodIn_app (goodIn_of _ (by decide +kernel)) ggX5_asked_X0_countWays
set_option maxRecDepth 20000 in
theorem ggX5_asked_X3_length : GoodIn wsX5_asked wsX3_length := goodIn_r _ [20, 21, 164, 165, 166] (by decide +kernel) (by decide +kernel)
set_option maxRecDepth 20000 in
theorem gX5_asked_X3_length : GoodIn wsX5_asked (wsV RX5 115 RX3 yX3_length wsX3_length) := goodIn_app (goodIn_of _ (by decide +kernel)) ggX5_asked_X3_length
set_option maxRecDepth 20000 in
theorem ggX5_asked_X0_sureSet : GoodIn wsX5_asked wsX0_sureSet := goodIn_r _ [130, 91, 96, 97, 98, 13, 99, 15, 84, 6, 85, 155, 156, 157, 158, 159, 160, 161, 162, 163] (by decide +kernel) (by decide +kernel)
set_option maxRecDepth 20000 in
theorem gX5_asked_X0_sureSet : GoodIn wsX5_asked (wsV RX5 160 RX0 yX0_sureSet wsX0_sureSet) := goodIn_app (goodIn_of _ (by decide +kernel)) ggX5_asked_X0_sureSet
set_option maxRecDepth 20000 in
theorem ggX5_asked_J6_bitCount_0f7a4 : GoodIn wsX5_asked wsJ6_bitCount_0f7a4 := goodIn_r _ [134, 135, 136, 137] (by decide +kernel) (by decide +kernel)
set_option maxRecDepth 20000 in
theorem gX5_asked_J6_bitCount_0f7a4 : GoodIn wsX5_asked (va_wsS RX5 188 yJ6_bitCount_0f7a4 wsJ6_bitCount_0f7a4) := goodIn_app (goodIn_of _ (by decide +kernel)) ggX5_asked_J6_bitCount_0f7a4
set_option maxRecDepth 20000 in
theorem ggX5_asked_X0_mostWaysLeft : GoodIn wsX5_asked wsX0_mostWaysLeft := goodIn_r _ [141, 142, 143, 144, 145, 123, 124, 125, 13, 126, 81, 118, 90, 96, 97, 98, 99, 15, 84, 6, 85, 108, 109, 110, 155, 156, 157, 158, 159, 160, 161, 162, 163] (by decide +kernel) (by decide +kernel)
set_option maxRecDepth 20000 in
theorem gX5_asked_X0_mostWaysLeft : GoodIn wsX5_asked (wsV RX5 193 RX0 yX0_mostWaysLeft wsX0_mostWaysLeft) := goodIn_app (goodIn_of _ (by decide +kernel)) ggX5_asked_X0_mostWaysLeft
theorem dX5_asked_0 : decode cX5_asked 0 = .ok (.aload_n 0, 1) := by decide +kernel
theorem dX5_asked_1 : decode cX5_asked 1 = .ok (.invokevirtual 73, 3) := by decide +kernel
theorem dX5_asked_4 : decode cX5_asked 4 = .ok (.aload_n 0, 1) := by decide +kernel
theorem dX5_asked_5 : decode cX5_asked 5 = .ok (.getfield 33, 3) := by decide +kernel
theorem dX5_asked_8 : decode cX5_asked 8 = .ok (.invokevirtual 156, 3) := by decide +kernel
theorem dX5_asked_11 : decode cX5_asked 11 = .ok (.pop2, 1) := by decide +kernel
theorem dX5_asked_12 : decode cX5_asked 12 = .ok (.bipush (-9), 2) := by decide +kernel
theorem dX5_asked_14 : decode cX5_asked 14 = .ok (.istore_n 1, 1) := by decide +kernel
theorem dX5_asked_15 : decode cX5_asked 15 = .ok (.lconst 0, 1) := by decide +kernel
theorem dX5_asked_16 : decode cX5_asked 16 = .ok (.lstore_n 2, 1) := by decide +kernel
theorem dX5_asked_17 : decode cX5_asked 17 = .ok (.iconst 0, 1) := by decide +kernel
theorem dX5_asked_18 : decode cX5_asked 18 = .ok (.istore 4, 2) := by decide +kernel
theorem dX5_asked_20 : decode cX5_asked 20 = .ok (.iload 4, 2) := by decide +kernel
theorem dX5_asked_22 : decode cX5_asked 22 = .ok (.aload_n 0, 1) := by decide +kernel
theorem dX5_asked_23 : decode cX5_asked 23 = .ok (.getfield 26, 3) := by decide +kernel
theorem dX5_asked_26 : decode cX5_asked 26 = .ok (.invokevirtual 115, 3) := by decide +kernel
theorem dX5_asked_29 : decode cX5_asked 29 = .ok (.if_icmp .ge 55, 3) := by decide +kernel
theorem dX5_asked_32 : decode cX5_asked 32 = .ok (.aload_n 0, 1) := by decide +kernel
theorem dX5_asked_33 : decode cX5_asked 33 = .ok (.getfield 33, 3) := by decide +kernel
theorem dX5_asked_36 : decode cX5_asked 36 = .ok (.iload 4, 2) := by decide +kernel
theorem dX5_asked_38 : decode cX5_asked 38 = .ok (.invokevirtual 160, 3) := by decide +kernel
theorem dX5_asked_41 : decode cX5_asked 41 = .ok (.invokestatic 188, 3) := by decide +kernel
theorem dX5_asked_44 : decode cX5_asked 44 = .ok (.iconst 2, 1) := by decide +kernel
theorem dX5_asked_45 : decode cX5_asked 45 = .ok (.if_icmp .lt 33, 3) := by decide +kernel
theorem dX5_asked_48 : decode cX5_asked 48 = .ok (.aload_n 0, 1) := by decide +kernel
theorem dX5_asked_49 : decode cX5_asked 49 = .ok (.getfield 33, 3) := by decide +kernel
theorem dX5_asked_52 : decode cX5_asked 52 = .ok (.iload 4, 2) := by decide +kernel
theorem dX5_asked_54 : decode cX5_asked 54 = .ok (.invokevirtual 193, 3) := by decide +kernel
theorem dX5_asked_57 : decode cX5_asked 57 = .ok (.lstore 5, 2) := by decide +kernel
theorem dX5_asked_59 : decode cX5_asked 59 = .ok (.iload_n 1, 1) := by decide +kernel
theorem dX5_asked_60 : decode cX5_asked 60 = .ok (.bipush (-9), 2) := by decide +kernel
theorem dX5_asked_62 : decode cX5_asked 62 = .ok (.if_icmp .eq 10, 3) := by decide +kernel
theorem dX5_asked_65 : decode cX5_asked 65 = .ok (.lload 5, 2) := by decide +kernel
theorem dX5_asked_67 : decode cX5_asked 67 = .ok (.lload_n 2, 1) := by decide +kernel
theorem dX5_asked_68 : decode cX5_asked 68 = .ok (.lcmp, 1) := by decide +kernel
theorem dX5_asked_69 : decode cX5_asked 69 = .ok (.ifCond .ge 9, 3) := by decide +kernel
theorem dX5_asked_72 : decode cX5_asked 72 = .ok (.iload 4, 2) := by decide +kernel
theorem dX5_asked_74 : decode cX5_asked 74 = .ok (.istore_n 1, 1) := by decide +kernel
theorem dX5_asked_75 : decode cX5_asked 75 = .ok (.lload 5, 2) := by decide +kernel
theorem dX5_asked_77 : decode cX5_asked 77 = .ok (.lstore_n 2, 1) := by decide +kernel
theorem dX5_asked_78 : decode cX5_asked 78 = .ok (.iinc 4 1, 3) := by decide +kernel
theorem dX5_asked_81 : decode cX5_asked 81 = .ok (.goto (-61), 3) := by decide +kernel
theorem dX5_asked_84 : decode cX5_asked 84 = .ok (.iload_n 1, 1) := by decide +kernel
theorem dX5_asked_85 : decode cX5_asked 85 = .ok (.ireturn, 1) := by decide +kernel
set_option maxRecDepth 20000 in
theorem ggX5_run_X3_firstOfRun : GoodIn wsX5_run wsX3_firstOfRun := goodIn_r _ [7, 8, 9, 10, 11, 6, 12, 13, 14, 15, 16, 17, 18, 19, 20, 21, 22, 23, 24, 25, 26, 27, 28, 29, 30, 31, 32, 126, 127, 128, 129, 130, 131, 132, 133, 134, 135, 136, 137, 138, 139, 140, 141, 142] (by decide +kernel) (by decide +kernel)
set_option maxRecDepth 20000 in
theorem gX5_run_X3_firstOfRun : GoodIn wsX5_run (wsV RX5 197 RX3 yX3_firstOfRun wsX3_firstOfRun) := goodIn_app (goodIn_of _ (by decide +kernel)) ggX5_run_X3_firstOfRun
set_option maxRecDepth 20000 in
theorem ggX5_run_X3_runLength : GoodIn wsX5_run wsX3_runLength := goodIn_r _ [36, 8, 13, 14, 15, 6, 16, 17, 18, 19, 20, 21, 22, 23, 24, 25, 26, 27, 28, 29, 30, 31, 32, 126, 127, 128, 129, 130, 131, 132, 133, 134, 135, 136, 137, 138, 139, 140, 141, 142] (by decide +kernel) (by decide +kernel)
set_option maxRecDepth 20000 in
theorem gX5_run_X3_runLength : GoodIn wsX5_run (wsV RX5 200 RX3 yX3_runLength wsX3_runLength) := goodIn_app (goodIn_of _ (by decide +kernel)) ggX5_run_X3_runLength
set_option maxRecDepth 20000 in
theorem ggX5_run_X5_fillChain : GoodIn wsX5_run wsX5_fillChain := goodIn_r _ [41, 2, 1, 42, 43, 44, 45, 46, 47, 48, 49, 50, 51, 52, 6, 53, 8, 54, 18, 19, 20, 21, 22, 23, 24, 25, 26, 55, 28, 29, 30, 31, 32, 56, 57, 58, 59, 60, 61, 62, 63, 64, 65, 66, 67, 68, 69, 70, 71, 72, 73, 74, 75, 76, 77, 78, 40, 79, 80, 81, 82, 83, 13, 14, 15, 16, 17, 27, 84, 85, 86, 87, 88, 89, 90, 91, 92, 93, 94, 95, 96, 97, 117, 118, 119, 120, 121, 122, 123, 124, 125, 143, 144, 145, 146, 147, 148, 149, 150, 151, 126, 127, 128, 129, 130, 131, 132, 133, 134, 135, 136, 137, 138, 139, 140, 141, 142, 152, 153] (by decide +kernel) (by decide +kernel)
set_option maxRecDepth 20000 in
theorem gX5_run_X5_fillChain : GoodIn wsX5_run (wsV RX5 73 RX5 yX5_fillChain wsX5_fillChain) := goodIn_app (goodIn_of _ (by decide +kernel)) ggX5_run_X5_fillChain
set_option maxRecDepth 20000 in
theorem ggX5_run_X0_ownSetsJoined : GoodIn wsX5_run wsX0_ownSetsJoined := goodIn_r _ [101, 102, 103, 104, 47, 105, 94, 106, 107, 108, 109, 49, 96, 40, 97, 143, 144, 145, 146, 147, 148, 149, 150, 151] (by decide +kernel) (by decide +kernel)
set_option maxRecDepth 20000 in
theorem gX5_run_X0_ownSetsJoined : GoodIn wsX5_run (wsV RX5 203 RX0 yX0_ownSetsJoined wsX0_ownSetsJoined) := goodIn_app (goodIn_of _ (by decide +kernel)) ggX5_run_X0_ownSetsJoined
set_option maxRecDepth 20000 in
theorem ggX5_run_J6_bitCount_0f7a4 : GoodIn wsX5_run wsJ6_bitCount_0f7a4 := goodIn_r _ [113, 114, 115, 116] (by decide +kernel) (by decide +kernel)
set_option maxRecDepth 20000 in
theorem gX5_run_J6_bitCount_0f7a4 : GoodIn wsX5_run (va_wsS RX5 188 yJ6_bitCount_0f7a4 wsJ6_bitCount_0f7a4) := goodIn_app (goodIn_of _ (by decide +kernel)) ggX5_run_J6_bitCount_0f7a4
theorem dX5_run_0 : decode cX5_run 0 = .ok (.aload_n 0, 1) := by decide +kernel
theorem dX5_run_1 : decode cX5_run 1 = .ok (.getfield 26, 3) := by decide +kernel
theorem dX5_run_4 : decode cX5_run 4 = .ok (.iload_n 1, 1) := by decide +kernel
theorem dX5_run_5 : decode cX5_run 5 = .ok (.invokevirtual 197, 3) := by decide +kernel
theorem dX5_run_8 : decode cX5_run 8 = .ok (.istore_n 3, 1) := by decide +kernel
theorem dX5_run_9 : decode cX5_run 9 = .ok (.iload_n 3, 1) := by decide +kernel
theorem dX5_run_10 : decode cX5_run 10 = .ok (.bipush (-9), 2) := by decide +kernel
theorem dX5_run_12 : decode cX5_run 12 = .ok (.if_icmp .ne 5, 3) := by decide +kernel
theorem dX5_run_15 : decode cX5_run 15 = .ok (.iconst (-1), 1) := by decide +kernel
theorem dX5_run_16 : decode cX5_run 16 = .ok (.ireturn, 1) := by decide +kernel
theorem dX5_run_17 : decode cX5_run 17 = .ok (.aload_n 0, 1) := by decide +kernel
theorem dX5_run_18 : decode cX5_run 18 = .ok (.getfield 26, 3) := by decide +kernel
theorem dX5_run_21 : decode cX5_run 21 = .ok (.iload_n 3, 1) := by decide +kernel
theorem dX5_run_22 : decode cX5_run 22 = .ok (.invokevirtual 200, 3) := by decide +kernel
theorem dX5_run_25 : decode cX5_run 25 = .ok (.istore 4, 2) := by decide +kernel
theorem dX5_run_27 : decode cX5_run 27 = .ok (.iload_n 2, 1) := by decide +kernel
theorem dX5_run_28 : decode cX5_run 28 = .ok (.tableswitch 51 0 2 #[28, 30, 33], 28) := by decide +kernel
theorem dX5_run_56 : decode cX5_run 56 = .ok (.iload_n 3, 1) := by decide +kernel
theorem dX5_run_57 : decode cX5_run 57 = .ok (.ireturn, 1) := by decide +kernel
theorem dX5_run_58 : decode cX5_run 58 = .ok (.iload 4, 2) := by decide +kernel
theorem dX5_run_60 : decode cX5_run 60 = .ok (.ireturn, 1) := by decide +kernel
theorem dX5_run_61 : decode cX5_run 61 = .ok (.aload_n 0, 1) := by decide +kernel
theorem dX5_run_62 : decode cX5_run 62 = .ok (.invokevirtual 73, 3) := by decide +kernel
theorem dX5_run_65 : decode cX5_run 65 = .ok (.aload_n 0, 1) := by decide +kernel
theorem dX5_run_66 : decode cX5_run 66 = .ok (.getfield 33, 3) := by decide +kernel
theorem dX5_run_69 : decode cX5_run 69 = .ok (.iload_n 3, 1) := by decide +kernel
theorem dX5_run_70 : decode cX5_run 70 = .ok (.iload 4, 2) := by decide +kernel
theorem dX5_run_72 : decode cX5_run 72 = .ok (.invokevirtual 203, 3) := by decide +kernel
theorem dX5_run_75 : decode cX5_run 75 = .ok (.invokestatic 188, 3) := by decide +kernel
theorem dX5_run_78 : decode cX5_run 78 = .ok (.ireturn, 1) := by decide +kernel
theorem dX5_run_79 : decode cX5_run 79 = .ok (.bipush (-2), 2) := by decide +kernel
theorem dX5_run_81 : decode cX5_run 81 = .ok (.ireturn, 1) := by decide +kernel
set_option maxRecDepth 20000 in
theorem ggX5_ofPerson_X2_isThere : GoodIn wsX5_ofPerson wsX2_isThere := goodIn_r _ [8, 9, 10, 11, 12, 171, 172] (by decide +kernel) (by decide +kernel)
set_option maxRecDepth 20000 in
theorem gX5_ofPerson_X2_isThere : GoodIn wsX5_ofPerson (wsV RX5 66 RX2 yX2_isThere wsX2_isThere) := goodIn_app (goodIn_of _ (by decide +kernel)) ggX5_ofPerson_X2_isThere
set_option maxRecDepth 20000 in
theorem ggX5_ofPerson_X2_sortOf : GoodIn wsX5_ofPerson wsX2_sortOf := goodIn_r _ [16, 17, 18, 11, 19, 20, 5, 6, 7, 8, 9, 10, 12, 171, 172] (by decide +kernel) (by decide +kernel)
set_option maxRecDepth 20000 in
theorem gX5_ofPerson_X2_sortOf : GoodIn wsX5_ofPerson (wsV RX5 58 RX2 yX2_sortOf wsX2_sortOf) := goodIn_app (goodIn_of _ (by decide +kernel)) ggX5_ofPerson_X2_sortOf
set_option maxRecDepth 20000 in
theorem ggX5_ofPerson_X5_bitOf : GoodIn wsX5_ofPerson wsX5_bitOf := goodIn_r _ [12] (by decide +kernel) (by decide +kernel)
set_option maxRecDepth 20000 in
theorem gX5_ofPerson_X5_bitOf : GoodIn wsX5_ofPerson (va_wsS RX5 83 yX5_bitOf wsX5_bitOf) := goodIn_app (goodIn_of _ (by decide +kernel)) ggX5_ofPerson_X5_bitOf
set_option maxRecDepth 20000 in
theorem ggX5_ofPerson_X5_fillChain : GoodIn wsX5_ofPerson wsX5_fillChain := goodIn_r _ [25, 3, 26, 1, 27, 28, 29, 30, 31, 32, 33, 34, 35, 36, 37, 38, 39, 40, 41, 42, 43, 44, 45, 46, 47, 48, 49, 50, 51, 52, 53, 54, 55, 56, 57, 58, 59, 60, 61, 62, 63, 64, 65, 66, 67, 68, 69, 7, 70, 9, 71, 72, 73, 74, 17, 10, 11, 12, 75, 76, 77, 78, 79, 80, 81, 82, 83, 84, 85, 86, 87, 88, 89, 90, 91, 92, 93, 94, 95, 96, 18, 19, 162, 163, 164, 165, 166, 167, 168, 169, 170, 173, 174, 175, 176, 177, 178, 179, 180, 181, 182, 183, 184, 185, 186, 187, 188, 189, 190, 191, 192, 193, 194, 195, 196, 197, 198, 171, 172] (by decide +kernel) (by decide +kernel)
set_option maxRecDepth 20000 in
theorem gX5_ofPerson_X5_fillChain : GoodIn wsX5_ofPerson (wsV RX5 73 RX5 yX5_fillChain wsX5_fillChain) := goodIn_app (goodIn_of _ (by decide +kernel)) ggX5_ofPerson_X5_fillChain
set_option maxRecDepth 20000 in
theorem ggX5_ofPerson_X0_countWays : GoodIn wsX5_ofPerson wsX0_countWays := goodIn_r _ [100, 33, 101, 102, 103, 104, 105, 31, 106, 96, 107, 108, 109, 110, 18, 11, 19, 111, 112, 113, 114, 94, 115, 116, 117, 118, 95, 10, 12, 119, 120, 121, 122, 123, 124, 125, 126, 127, 128, 129, 130, 131, 132, 133, 134, 135, 136, 137, 173, 174, 175, 176, 177, 178, 179, 180, 181] (by decide +kernel) (by decide +kernel)
set_option maxRecDepth 20000 in
theorem gX5_ofPerson_X0_countWays : GoodIn wsX5_ofPerson (wsV RX5 156 RX0 yX0_countWays wsX0_countWays) := goodIn_app (goodIn_of _ (by decide +kernel)) ggX5_ofPerson_X0_countWays
set_option maxRecDepth 20000 in
theorem ggX5_ofPerson_X0_hadBy : GoodIn wsX5_ofPerson wsX0_hadBy := goodIn_r _ [141, 33, 142, 143, 144, 31, 145, 18, 11, 19, 146, 147, 148, 149, 102, 107, 108, 109, 110, 10, 12, 173, 174, 175, 176, 177, 178, 179, 180, 181] (by decide +kernel) (by decide +kernel)
set_option maxRecDepth 20000 in
theorem gX5_ofPerson_X0_hadBy : GoodIn wsX5_ofPerson (wsV RX5 206 RX0 yX0_hadBy wsX0_hadBy) := goodIn_app (goodIn_of _ (by decide +kernel)) ggX5_ofPerson_X0_hadBy
set_option maxRecDepth 20000 in
theorem ggX5_ofPerson_X0_maybeHadBy : GoodIn wsX5_ofPerson wsX0_maybeHadBy := goodIn_r _ [153, 33, 146, 147, 148, 31, 149, 102, 107, 108, 109, 110, 18, 11, 19, 10, 12, 173, 174, 175, 176, 177, 178, 179, 180, 181] (by decide +kernel) (by decide +kernel)
set_option maxRecDepth 20000 in
theorem gX5_ofPerson_X0_maybeHadBy : GoodIn wsX5_ofPerson (wsV RX5 209 RX0 yX0_maybeHadBy wsX0_maybeHadBy) := goodIn_app (goodIn_of _ (by decide +kernel)) ggX5_ofPerson_X0_maybeHadBy
set_option maxRecDepth 20000 in
theorem ggX5_ofPerson_X0_firstHadBy : GoodIn wsX5_ofPerson wsX0_firstHadBy := goodIn_r _ [157, 33, 142, 143, 144, 31, 145, 18, 11, 19, 146, 147, 148, 149, 102, 107, 108, 109, 110, 10, 12, 173, 174, 175, 176, 177, 178, 179, 180, 181] (by decide +kernel) (by decide +kernel)
set_option maxRecDepth 20000 in
theorem gX5_ofPerson_X0_firstHadBy : GoodIn wsX5_ofPerson (wsV RX5 212 RX0 yX0_firstHadBy wsX0_firstHadBy) := goodIn_app (goodIn_of _ (by decide +kernel)) ggX5_ofPerson_X0_firstHadBy
set_option maxRecDepth 20000 in
theorem ggX5_ofPerson_X0_lastHadBy : GoodIn wsX5_ofPerson wsX0_lastHadBy := goodIn_r _ [161, 33, 142, 143, 144, 31, 145, 18, 11, 19, 146, 147, 148, 149, 102, 107, 108, 109, 110, 10, 12, 173, 174, 175, 176, 177, 178, 179, 180, 181] (by decide +kernel) (by decide +kernel)
set_option maxRecDepth 20000 in
theorem gX5_ofPerson_X0_lastHadBy : GoodIn wsX5_ofPerson (wsV RX5 215 RX0 yX0_lastHadBy wsX0_lastHadBy) := goodIn_app (goodIn_of _ (by decide +kernel)) ggX5_ofPerson_X0_lastHadBy
theorem dX5_ofPerson_0 : decode cX5_ofPerson 0 = .ok (.aload_n 0, 1) := by decide +kernel
theorem dX5_ofPerson_1 : decode cX5_ofPerson 1 = .ok (.getfield 12, 3) := by decide +kernel
theorem dX5_ofPerson_4 : decode cX5_ofPerson 4 = .ok (.iload_n 1, 1) := by decide +kernel
theorem dX5_ofPerson_5 : decode cX5_ofPerson 5 = .ok (.invokevirtual 66, 3) := by decide +kernel
theorem dX5_ofPerson_8 : decode cX5_ofPerson 8 = .ok (.ifCond .ne 5, 3) := by decide +kernel
theorem dX5_ofPerson_11 : decode cX5_ofPerson 11 = .ok (.iconst (-1), 1) := by decide +kernel
theorem dX5_ofPerson_12 : decode cX5_ofPerson 12 = .ok (.ireturn, 1) := by decide +kernel
theorem dX5_ofPerson_13 : decode cX5_ofPerson 13 = .ok (.iload_n 2, 1) := by decide +kernel
