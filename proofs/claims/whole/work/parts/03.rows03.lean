theorem dX1_ownSet_79 : decode cX1_ownSet 79 = .ok (.istore_n 3, 1) := by decide +kernel
theorem dX1_ownSet_80 : decode cX1_ownSet 80 = .ok (.iload_n 2, 1) := by decide +kernel
theorem dX1_ownSet_81 : decode cX1_ownSet 81 = .ok (.iconst 4, 1) := by decide +kernel
theorem dX1_ownSet_82 : decode cX1_ownSet 82 = .ok (.iand, 1) := by decide +kernel
theorem dX1_ownSet_83 : decode cX1_ownSet 83 = .ok (.ifCond .eq 10, 3) := by decide +kernel
theorem dX1_ownSet_86 : decode cX1_ownSet 86 = .ok (.iload_n 3, 1) := by decide +kernel
theorem dX1_ownSet_87 : decode cX1_ownSet 87 = .ok (.aload_n 0, 1) := by decide +kernel
theorem dX1_ownSet_88 : decode cX1_ownSet 88 = .ok (.getfield 56, 3) := by decide +kernel
theorem dX1_ownSet_91 : decode cX1_ownSet 91 = .ok (.iand, 1) := by decide +kernel
theorem dX1_ownSet_92 : decode cX1_ownSet 92 = .ok (.istore_n 3, 1) := by decide +kernel
theorem dX1_ownSet_93 : decode cX1_ownSet 93 = .ok (.aload_n 0, 1) := by decide +kernel
theorem dX1_ownSet_94 : decode cX1_ownSet 94 = .ok (.getfield 32, 3) := by decide +kernel
theorem dX1_ownSet_97 : decode cX1_ownSet 97 = .ok (.bipush (-9), 2) := by decide +kernel
theorem dX1_ownSet_99 : decode cX1_ownSet 99 = .ok (.if_icmp .ne 7, 3) := by decide +kernel
theorem dX1_ownSet_102 : decode cX1_ownSet 102 = .ok (.iload_n 3, 1) := by decide +kernel
theorem dX1_ownSet_103 : decode cX1_ownSet 103 = .ok (.goto 9, 3) := by decide +kernel
theorem dX1_ownSet_106 : decode cX1_ownSet 106 = .ok (.iload_n 3, 1) := by decide +kernel
theorem dX1_ownSet_107 : decode cX1_ownSet 107 = .ok (.aload_n 0, 1) := by decide +kernel
theorem dX1_ownSet_108 : decode cX1_ownSet 108 = .ok (.getfield 32, 3) := by decide +kernel
theorem dX1_ownSet_111 : decode cX1_ownSet 111 = .ok (.iand, 1) := by decide +kernel
theorem dX1_ownSet_112 : decode cX1_ownSet 112 = .ok (.ireturn, 1) := by decide +kernel
theorem dX2_init_0 : decode cX2_init 0 = .ok (.aload_n 0, 1) := by decide +kernel
theorem dX2_init_1 : decode cX2_init 1 = .ok (.invokespecial 3, 3) := by decide +kernel
theorem dX2_init_4 : decode cX2_init 4 = .ok (.aload_n 0, 1) := by decide +kernel
theorem dX2_init_5 : decode cX2_init 5 = .ok (.bipush 8, 2) := by decide +kernel
theorem dX2_init_7 : decode cX2_init 7 = .ok (.newarray .int, 2) := by decide +kernel
theorem dX2_init_9 : decode cX2_init 9 = .ok (.putfield 9, 3) := by decide +kernel
theorem dX2_init_12 : decode cX2_init 12 = .ok (.aload_n 0, 1) := by decide +kernel
theorem dX2_init_13 : decode cX2_init 13 = .ok (.iconst 0, 1) := by decide +kernel
theorem dX2_init_14 : decode cX2_init 14 = .ok (.putfield 15, 3) := by decide +kernel
theorem dX2_init_17 : decode cX2_init 17 = .ok (.return_, 1) := by decide +kernel
theorem dX2_thereSet_0 : decode cX2_thereSet 0 = .ok (.aload_n 0, 1) := by decide +kernel
theorem dX2_thereSet_1 : decode cX2_thereSet 1 = .ok (.getfield 15, 3) := by decide +kernel
theorem dX2_thereSet_4 : decode cX2_thereSet 4 = .ok (.ireturn, 1) := by decide +kernel
set_option maxRecDepth 20000 in
theorem ggX2_isThere_X5_bitOf : GoodIn wsX2_isThere wsX5_bitOf := goodIn_r _ [4] (by decide +kernel) (by decide +kernel)
set_option maxRecDepth 20000 in
theorem gX2_isThere_X5_bitOf_n19 : GoodIn wsX2_isThere (wsX5_bitOf) := ggX2_isThere_X5_bitOf
theorem dX2_isThere_0 : decode cX2_isThere 0 = .ok (.aload_n 0, 1) := by decide +kernel
theorem dX2_isThere_1 : decode cX2_isThere 1 = .ok (.getfield 15, 3) := by decide +kernel
theorem dX2_isThere_4 : decode cX2_isThere 4 = .ok (.iload_n 1, 1) := by decide +kernel
theorem dX2_isThere_5 : decode cX2_isThere 5 = .ok (.invokestatic 19, 3) := by decide +kernel
theorem dX2_isThere_8 : decode cX2_isThere 8 = .ok (.iand, 1) := by decide +kernel
theorem dX2_isThere_9 : decode cX2_isThere 9 = .ok (.ifCond .eq 7, 3) := by decide +kernel
theorem dX2_isThere_12 : decode cX2_isThere 12 = .ok (.iconst 1, 1) := by decide +kernel
theorem dX2_isThere_13 : decode cX2_isThere 13 = .ok (.goto 4, 3) := by decide +kernel
theorem dX2_isThere_16 : decode cX2_isThere 16 = .ok (.iconst 0, 1) := by decide +kernel
theorem dX2_isThere_17 : decode cX2_isThere 17 = .ok (.ireturn, 1) := by decide +kernel
set_option maxRecDepth 20000 in
theorem ggX2_sortOf_X5_isWithin : GoodIn wsX2_sortOf wsX5_isWithin := goodIn_r _ [4] (by decide +kernel) (by decide +kernel)
set_option maxRecDepth 20000 in
theorem gX2_sortOf_X5_isWithin_n23 : GoodIn wsX2_sortOf (wsX5_isWithin) := ggX2_sortOf_X5_isWithin
set_option maxRecDepth 20000 in
theorem ggX2_sortOf_X2_isThere : GoodIn wsX2_sortOf wsX2_isThere := goodIn_r _ [9, 10, 11, 3, 12, 13, 14] (by decide +kernel) (by decide +kernel)
set_option maxRecDepth 20000 in
theorem gX2_sortOf_X2_isThere : GoodIn wsX2_sortOf (wsV RX2 27 RX2 yX2_isThere wsX2_isThere) := goodIn_app (goodIn_of _ (by decide +kernel)) ggX2_sortOf_X2_isThere
theorem dX2_sortOf_0 : decode cX2_sortOf 0 = .ok (.iload_n 1, 1) := by decide +kernel
theorem dX2_sortOf_1 : decode cX2_sortOf 1 = .ok (.aload_n 0, 1) := by decide +kernel
theorem dX2_sortOf_2 : decode cX2_sortOf 2 = .ok (.getfield 9, 3) := by decide +kernel
theorem dX2_sortOf_5 : decode cX2_sortOf 5 = .ok (.arraylength, 1) := by decide +kernel
theorem dX2_sortOf_6 : decode cX2_sortOf 6 = .ok (.invokestatic 23, 3) := by decide +kernel
theorem dX2_sortOf_9 : decode cX2_sortOf 9 = .ok (.ifCond .eq 20, 3) := by decide +kernel
theorem dX2_sortOf_12 : decode cX2_sortOf 12 = .ok (.aload_n 0, 1) := by decide +kernel
theorem dX2_sortOf_13 : decode cX2_sortOf 13 = .ok (.iload_n 1, 1) := by decide +kernel
theorem dX2_sortOf_14 : decode cX2_sortOf 14 = .ok (.invokevirtual 27, 3) := by decide +kernel
theorem dX2_sortOf_17 : decode cX2_sortOf 17 = .ok (.ifCond .eq 12, 3) := by decide +kernel
theorem dX2_sortOf_20 : decode cX2_sortOf 20 = .ok (.aload_n 0, 1) := by decide +kernel
theorem dX2_sortOf_21 : decode cX2_sortOf 21 = .ok (.getfield 9, 3) := by decide +kernel
theorem dX2_sortOf_24 : decode cX2_sortOf 24 = .ok (.iload_n 1, 1) := by decide +kernel
theorem dX2_sortOf_25 : decode cX2_sortOf 25 = .ok (.iaload, 1) := by decide +kernel
theorem dX2_sortOf_26 : decode cX2_sortOf 26 = .ok (.goto 5, 3) := by decide +kernel
theorem dX2_sortOf_29 : decode cX2_sortOf 29 = .ok (.bipush (-9), 2) := by decide +kernel
theorem dX2_sortOf_31 : decode cX2_sortOf 31 = .ok (.ireturn, 1) := by decide +kernel
set_option maxRecDepth 20000 in
theorem ggX2_allOfSort_X5_bitOf : GoodIn wsX2_allOfSort wsX5_bitOf := goodIn_r _ [5] (by decide +kernel) (by decide +kernel)
set_option maxRecDepth 20000 in
theorem gX2_allOfSort_X5_bitOf_n19 : GoodIn wsX2_allOfSort (wsX5_bitOf) := ggX2_allOfSort_X5_bitOf
theorem dX2_allOfSort_0 : decode cX2_allOfSort 0 = .ok (.iconst 0, 1) := by decide +kernel
theorem dX2_allOfSort_1 : decode cX2_allOfSort 1 = .ok (.istore_n 2, 1) := by decide +kernel
theorem dX2_allOfSort_2 : decode cX2_allOfSort 2 = .ok (.iconst 0, 1) := by decide +kernel
theorem dX2_allOfSort_3 : decode cX2_allOfSort 3 = .ok (.istore_n 3, 1) := by decide +kernel
theorem dX2_allOfSort_4 : decode cX2_allOfSort 4 = .ok (.iload_n 3, 1) := by decide +kernel
theorem dX2_allOfSort_5 : decode cX2_allOfSort 5 = .ok (.aload_n 0, 1) := by decide +kernel
theorem dX2_allOfSort_6 : decode cX2_allOfSort 6 = .ok (.getfield 9, 3) := by decide +kernel
theorem dX2_allOfSort_9 : decode cX2_allOfSort 9 = .ok (.arraylength, 1) := by decide +kernel
theorem dX2_allOfSort_10 : decode cX2_allOfSort 10 = .ok (.if_icmp .ge 26, 3) := by decide +kernel
theorem dX2_allOfSort_13 : decode cX2_allOfSort 13 = .ok (.aload_n 0, 1) := by decide +kernel
theorem dX2_allOfSort_14 : decode cX2_allOfSort 14 = .ok (.getfield 9, 3) := by decide +kernel
theorem dX2_allOfSort_17 : decode cX2_allOfSort 17 = .ok (.iload_n 3, 1) := by decide +kernel
theorem dX2_allOfSort_18 : decode cX2_allOfSort 18 = .ok (.iaload, 1) := by decide +kernel
theorem dX2_allOfSort_19 : decode cX2_allOfSort 19 = .ok (.iload_n 1, 1) := by decide +kernel
theorem dX2_allOfSort_20 : decode cX2_allOfSort 20 = .ok (.if_icmp .ne 10, 3) := by decide +kernel
theorem dX2_allOfSort_23 : decode cX2_allOfSort 23 = .ok (.iload_n 2, 1) := by decide +kernel
theorem dX2_allOfSort_24 : decode cX2_allOfSort 24 = .ok (.iload_n 3, 1) := by decide +kernel
theorem dX2_allOfSort_25 : decode cX2_allOfSort 25 = .ok (.invokestatic 19, 3) := by decide +kernel
theorem dX2_allOfSort_28 : decode cX2_allOfSort 28 = .ok (.ior, 1) := by decide +kernel
theorem dX2_allOfSort_29 : decode cX2_allOfSort 29 = .ok (.istore_n 2, 1) := by decide +kernel
theorem dX2_allOfSort_30 : decode cX2_allOfSort 30 = .ok (.iinc 3 1, 3) := by decide +kernel
theorem dX2_allOfSort_33 : decode cX2_allOfSort 33 = .ok (.goto (-29), 3) := by decide +kernel
theorem dX2_allOfSort_36 : decode cX2_allOfSort 36 = .ok (.iload_n 2, 1) := by decide +kernel
theorem dX2_allOfSort_37 : decode cX2_allOfSort 37 = .ok (.aload_n 0, 1) := by decide +kernel
theorem dX2_allOfSort_38 : decode cX2_allOfSort 38 = .ok (.getfield 15, 3) := by decide +kernel
theorem dX2_allOfSort_41 : decode cX2_allOfSort 41 = .ok (.iand, 1) := by decide +kernel
theorem dX2_allOfSort_42 : decode cX2_allOfSort 42 = .ok (.ireturn, 1) := by decide +kernel
set_option maxRecDepth 20000 in
theorem ggX2_isName_X2_isThere : GoodIn wsX2_isName wsX2_isThere := goodIn_r _ [5, 6, 7, 8, 9, 10, 11] (by decide +kernel) (by decide +kernel)
set_option maxRecDepth 20000 in
theorem gX2_isName_X2_isThere : GoodIn wsX2_isName (wsV RX2 27 RX2 yX2_isThere wsX2_isThere) := goodIn_app (goodIn_of _ (by decide +kernel)) ggX2_isName_X2_isThere
theorem dX2_isName_0 : decode cX2_isName 0 = .ok (.aload_n 0, 1) := by decide +kernel
theorem dX2_isName_1 : decode cX2_isName 1 = .ok (.iload_n 1, 1) := by decide +kernel
theorem dX2_isName_2 : decode cX2_isName 2 = .ok (.bipush 65, 2) := by decide +kernel
theorem dX2_isName_4 : decode cX2_isName 4 = .ok (.isub, 1) := by decide +kernel
theorem dX2_isName_5 : decode cX2_isName 5 = .ok (.invokevirtual 27, 3) := by decide +kernel
theorem dX2_isName_8 : decode cX2_isName 8 = .ok (.ireturn, 1) := by decide +kernel
set_option maxRecDepth 20000 in
theorem ggX2_bring_X5_isWithin : GoodIn wsX2_bring wsX5_isWithin := goodIn_r _ [5] (by decide +kernel) (by decide +kernel)
set_option maxRecDepth 20000 in
theorem gX2_bring_X5_isWithin_n23 : GoodIn wsX2_bring (wsX5_isWithin) := ggX2_bring_X5_isWithin
set_option maxRecDepth 20000 in
theorem ggX2_bring_X5_bitOf : GoodIn wsX2_bring wsX5_bitOf := goodIn_r _ [7] (by decide +kernel) (by decide +kernel)
set_option maxRecDepth 20000 in
theorem gX2_bring_X5_bitOf_n19 : GoodIn wsX2_bring (wsX5_bitOf) := ggX2_bring_X5_bitOf
theorem dX2_bring_0 : decode cX2_bring 0 = .ok (.iload_n 1, 1) := by decide +kernel
theorem dX2_bring_1 : decode cX2_bring 1 = .ok (.aload_n 0, 1) := by decide +kernel
theorem dX2_bring_2 : decode cX2_bring 2 = .ok (.getfield 9, 3) := by decide +kernel
theorem dX2_bring_5 : decode cX2_bring 5 = .ok (.arraylength, 1) := by decide +kernel
theorem dX2_bring_6 : decode cX2_bring 6 = .ok (.invokestatic 23, 3) := by decide +kernel
theorem dX2_bring_9 : decode cX2_bring 9 = .ok (.ifCond .eq 23, 3) := by decide +kernel
theorem dX2_bring_12 : decode cX2_bring 12 = .ok (.aload_n 0, 1) := by decide +kernel
theorem dX2_bring_13 : decode cX2_bring 13 = .ok (.getfield 9, 3) := by decide +kernel
theorem dX2_bring_16 : decode cX2_bring 16 = .ok (.iload_n 1, 1) := by decide +kernel
theorem dX2_bring_17 : decode cX2_bring 17 = .ok (.iload_n 2, 1) := by decide +kernel
theorem dX2_bring_18 : decode cX2_bring 18 = .ok (.iastore, 1) := by decide +kernel
theorem dX2_bring_19 : decode cX2_bring 19 = .ok (.aload_n 0, 1) := by decide +kernel
theorem dX2_bring_20 : decode cX2_bring 20 = .ok (.dup, 1) := by decide +kernel
theorem dX2_bring_21 : decode cX2_bring 21 = .ok (.getfield 15, 3) := by decide +kernel
theorem dX2_bring_24 : decode cX2_bring 24 = .ok (.iload_n 1, 1) := by decide +kernel
theorem dX2_bring_25 : decode cX2_bring 25 = .ok (.invokestatic 19, 3) := by decide +kernel
theorem dX2_bring_28 : decode cX2_bring 28 = .ok (.ior, 1) := by decide +kernel
theorem dX2_bring_29 : decode cX2_bring 29 = .ok (.putfield 15, 3) := by decide +kernel
theorem dX2_bring_32 : decode cX2_bring 32 = .ok (.return_, 1) := by decide +kernel
set_option maxRecDepth 20000 in
theorem ggX2_takeAway_X5_bitOf : GoodIn wsX2_takeAway wsX5_bitOf := goodIn_r _ [4] (by decide +kernel) (by decide +kernel)
set_option maxRecDepth 20000 in
theorem gX2_takeAway_X5_bitOf_n19 : GoodIn wsX2_takeAway (wsX5_bitOf) := ggX2_takeAway_X5_bitOf
theorem dX2_takeAway_0 : decode cX2_takeAway 0 = .ok (.aload_n 0, 1) := by decide +kernel
theorem dX2_takeAway_1 : decode cX2_takeAway 1 = .ok (.dup, 1) := by decide +kernel
theorem dX2_takeAway_2 : decode cX2_takeAway 2 = .ok (.getfield 15, 3) := by decide +kernel
theorem dX2_takeAway_5 : decode cX2_takeAway 5 = .ok (.iload_n 1, 1) := by decide +kernel
theorem dX2_takeAway_6 : decode cX2_takeAway 6 = .ok (.invokestatic 19, 3) := by decide +kernel
theorem dX2_takeAway_9 : decode cX2_takeAway 9 = .ok (.iconst (-1), 1) := by decide +kernel
theorem dX2_takeAway_10 : decode cX2_takeAway 10 = .ok (.ixor, 1) := by decide +kernel
theorem dX2_takeAway_11 : decode cX2_takeAway 11 = .ok (.iand, 1) := by decide +kernel
theorem dX2_takeAway_12 : decode cX2_takeAway 12 = .ok (.putfield 15, 3) := by decide +kernel
theorem dX2_takeAway_15 : decode cX2_takeAway 15 = .ok (.return_, 1) := by decide +kernel
set_option maxRecDepth 20000 in
theorem ggX3_init_X1_init : GoodIn wsX3_init wsX1_init := goodIn_r _ [12, 13, 2, 3, 14, 15, 16, 17, 18, 19, 7, 20, 21, 22, 23, 24, 25, 26, 27, 28, 29, 30, 31, 32, 36, 37, 38, 39, 40, 41, 42, 43, 44, 45, 46, 47, 48, 49] (by decide +kernel) (by decide +kernel)
set_option maxRecDepth 20000 in
theorem gX3_init_X1_init : GoodIn wsX3_init (wsX1_init) := ggX3_init_X1_init
theorem dX3_init_0 : decode cX3_init 0 = .ok (.aload_n 0, 1) := by decide +kernel
theorem dX3_init_1 : decode cX3_init 1 = .ok (.invokespecial 3, 3) := by decide +kernel
theorem dX3_init_4 : decode cX3_init 4 = .ok (.aload_n 0, 1) := by decide +kernel
theorem dX3_init_5 : decode cX3_init 5 = .ok (.bipush 16, 2) := by decide +kernel
theorem dX3_init_7 : decode cX3_init 7 = .ok (.anewarray 9, 3) := by decide +kernel
theorem dX3_init_10 : decode cX3_init 10 = .ok (.putfield 11, 3) := by decide +kernel
theorem dX3_init_13 : decode cX3_init 13 = .ok (.iconst 0, 1) := by decide +kernel
theorem dX3_init_14 : decode cX3_init 14 = .ok (.istore_n 1, 1) := by decide +kernel
theorem dX3_init_15 : decode cX3_init 15 = .ok (.iload_n 1, 1) := by decide +kernel
theorem dX3_init_16 : decode cX3_init 16 = .ok (.aload_n 0, 1) := by decide +kernel
theorem dX3_init_17 : decode cX3_init 17 = .ok (.getfield 11, 3) := by decide +kernel
theorem dX3_init_20 : decode cX3_init 20 = .ok (.arraylength, 1) := by decide +kernel
theorem dX3_init_21 : decode cX3_init 21 = .ok (.if_icmp .ge 22, 3) := by decide +kernel
theorem dX3_init_24 : decode cX3_init 24 = .ok (.aload_n 0, 1) := by decide +kernel
theorem dX3_init_25 : decode cX3_init 25 = .ok (.getfield 11, 3) := by decide +kernel
theorem dX3_init_28 : decode cX3_init 28 = .ok (.iload_n 1, 1) := by decide +kernel
theorem dX3_init_29 : decode cX3_init 29 = .ok (.new 9, 3) := by decide +kernel
theorem dX3_init_32 : decode cX3_init 32 = .ok (.dup, 1) := by decide +kernel
theorem dX3_init_33 : decode cX3_init 33 = .ok (.invokespecial 17, 3) := by decide +kernel
theorem dX3_init_36 : decode cX3_init 36 = .ok (.aastore, 1) := by decide +kernel
theorem dX3_init_37 : decode cX3_init 37 = .ok (.iinc 1 1, 3) := by decide +kernel
theorem dX3_init_40 : decode cX3_init 40 = .ok (.goto (-25), 3) := by decide +kernel
theorem dX3_init_43 : decode cX3_init 43 = .ok (.aload_n 0, 1) := by decide +kernel
theorem dX3_init_44 : decode cX3_init 44 = .ok (.new 9, 3) := by decide +kernel
theorem dX3_init_47 : decode cX3_init 47 = .ok (.dup, 1) := by decide +kernel
theorem dX3_init_48 : decode cX3_init 48 = .ok (.invokespecial 17, 3) := by decide +kernel
theorem dX3_init_51 : decode cX3_init 51 = .ok (.putfield 18, 3) := by decide +kernel
theorem dX3_init_54 : decode cX3_init 54 = .ok (.aload_n 0, 1) := by decide +kernel
theorem dX3_init_55 : decode cX3_init 55 = .ok (.iconst 0, 1) := by decide +kernel
theorem dX3_init_56 : decode cX3_init 56 = .ok (.putfield 22, 3) := by decide +kernel
theorem dX3_init_59 : decode cX3_init 59 = .ok (.return_, 1) := by decide +kernel
theorem dX3_length_0 : decode cX3_length 0 = .ok (.aload_n 0, 1) := by decide +kernel
theorem dX3_length_1 : decode cX3_length 1 = .ok (.getfield 22, 3) := by decide +kernel
theorem dX3_length_4 : decode cX3_length 4 = .ok (.ireturn, 1) := by decide +kernel
theorem dX3_isFull_0 : decode cX3_isFull 0 = .ok (.aload_n 0, 1) := by decide +kernel
theorem dX3_isFull_1 : decode cX3_isFull 1 = .ok (.getfield 22, 3) := by decide +kernel
theorem dX3_isFull_4 : decode cX3_isFull 4 = .ok (.aload_n 0, 1) := by decide +kernel
theorem dX3_isFull_5 : decode cX3_isFull 5 = .ok (.getfield 11, 3) := by decide +kernel
theorem dX3_isFull_8 : decode cX3_isFull 8 = .ok (.arraylength, 1) := by decide +kernel
theorem dX3_isFull_9 : decode cX3_isFull 9 = .ok (.if_icmp .lt 7, 3) := by decide +kernel
theorem dX3_isFull_12 : decode cX3_isFull 12 = .ok (.iconst 1, 1) := by decide +kernel
theorem dX3_isFull_13 : decode cX3_isFull 13 = .ok (.goto 4, 3) := by decide +kernel
theorem dX3_isFull_16 : decode cX3_isFull 16 = .ok (.iconst 0, 1) := by decide +kernel
theorem dX3_isFull_17 : decode cX3_isFull 17 = .ok (.ireturn, 1) := by decide +kernel
theorem dX3_holds_0 : decode cX3_holds 0 = .ok (.iload_n 1, 1) := by decide +kernel
theorem dX3_holds_1 : decode cX3_holds 1 = .ok (.ifCond .lt 15, 3) := by decide +kernel
theorem dX3_holds_4 : decode cX3_holds 4 = .ok (.iload_n 1, 1) := by decide +kernel
theorem dX3_holds_5 : decode cX3_holds 5 = .ok (.aload_n 0, 1) := by decide +kernel
theorem dX3_holds_6 : decode cX3_holds 6 = .ok (.getfield 22, 3) := by decide +kernel
theorem dX3_holds_9 : decode cX3_holds 9 = .ok (.if_icmp .ge 7, 3) := by decide +kernel
theorem dX3_holds_12 : decode cX3_holds 12 = .ok (.iconst 1, 1) := by decide +kernel
theorem dX3_holds_13 : decode cX3_holds 13 = .ok (.goto 4, 3) := by decide +kernel
theorem dX3_holds_16 : decode cX3_holds 16 = .ok (.iconst 0, 1) := by decide +kernel
theorem dX3_holds_17 : decode cX3_holds 17 = .ok (.ireturn, 1) := by decide +kernel
set_option maxRecDepth 20000 in
theorem ggX3_paragraphAt_X3_holds : GoodIn wsX3_paragraphAt wsX3_holds := goodIn_r _ [7, 8, 9, 10, 11] (by decide +kernel) (by decide +kernel)
set_option maxRecDepth 20000 in
theorem gX3_paragraphAt_X3_holds : GoodIn wsX3_paragraphAt (wsV RX3 26 RX3 yX3_holds wsX3_holds) := goodIn_app (goodIn_of _ (by decide +kernel)) ggX3_paragraphAt_X3_holds
theorem dX3_paragraphAt_0 : decode cX3_paragraphAt 0 = .ok (.aload_n 0, 1) := by decide +kernel
theorem dX3_paragraphAt_1 : decode cX3_paragraphAt 1 = .ok (.iload_n 1, 1) := by decide +kernel
theorem dX3_paragraphAt_2 : decode cX3_paragraphAt 2 = .ok (.invokevirtual 26, 3) := by decide +kernel
theorem dX3_paragraphAt_5 : decode cX3_paragraphAt 5 = .ok (.ifCond .eq 21, 3) := by decide +kernel
theorem dX3_paragraphAt_8 : decode cX3_paragraphAt 8 = .ok (.iload_n 1, 1) := by decide +kernel
theorem dX3_paragraphAt_9 : decode cX3_paragraphAt 9 = .ok (.aload_n 0, 1) := by decide +kernel
theorem dX3_paragraphAt_10 : decode cX3_paragraphAt 10 = .ok (.getfield 11, 3) := by decide +kernel
theorem dX3_paragraphAt_13 : decode cX3_paragraphAt 13 = .ok (.arraylength, 1) := by decide +kernel
theorem dX3_paragraphAt_14 : decode cX3_paragraphAt 14 = .ok (.if_icmp .ge 12, 3) := by decide +kernel
theorem dX3_paragraphAt_17 : decode cX3_paragraphAt 17 = .ok (.aload_n 0, 1) := by decide +kernel
theorem dX3_paragraphAt_18 : decode cX3_paragraphAt 18 = .ok (.getfield 11, 3) := by decide +kernel
theorem dX3_paragraphAt_21 : decode cX3_paragraphAt 21 = .ok (.iload_n 1, 1) := by decide +kernel
theorem dX3_paragraphAt_22 : decode cX3_paragraphAt 22 = .ok (.aaload, 1) := by decide +kernel
theorem dX3_paragraphAt_23 : decode cX3_paragraphAt 23 = .ok (.goto 7, 3) := by decide +kernel
theorem dX3_paragraphAt_26 : decode cX3_paragraphAt 26 = .ok (.aload_n 0, 1) := by decide +kernel
theorem dX3_paragraphAt_27 : decode cX3_paragraphAt 27 = .ok (.getfield 18, 3) := by decide +kernel
theorem dX3_paragraphAt_30 : decode cX3_paragraphAt 30 = .ok (.areturn, 1) := by decide +kernel
set_option maxRecDepth 20000 in
theorem ggX3_speaksAt_X3_paragraphAt : GoodIn wsX3_speaksAt wsX3_paragraphAt := goodIn_r _ [5, 6, 7, 8, 9, 10, 4, 11, 12, 19, 20, 21] (by decide +kernel) (by decide +kernel)
set_option maxRecDepth 20000 in
theorem gX3_speaksAt_X3_paragraphAt : GoodIn wsX3_speaksAt (wsV RX3 30 RX3 yX3_paragraphAt wsX3_paragraphAt) := goodIn_app (goodIn_of _ (by decide +kernel)) ggX3_speaksAt_X3_paragraphAt
set_option maxRecDepth 20000 in
theorem ggX3_speaksAt_X1_speaks : GoodIn wsX3_speaksAt wsX1_speaks := goodIn_r _ [17, 18, 22, 23, 24, 25, 26, 27, 28, 29, 30, 31, 32, 33, 34, 35] (by decide +kernel) (by decide +kernel)
set_option maxRecDepth 20000 in
theorem gX3_speaksAt_X1_speaks : GoodIn wsX3_speaksAt (wsV RX3 34 RX1 yX1_speaks wsX1_speaks) := goodIn_app (goodIn_of _ (by decide +kernel)) ggX3_speaksAt_X1_speaks
theorem dX3_speaksAt_0 : decode cX3_speaksAt 0 = .ok (.aload_n 0, 1) := by decide +kernel
theorem dX3_speaksAt_1 : decode cX3_speaksAt 1 = .ok (.iload_n 1, 1) := by decide +kernel
theorem dX3_speaksAt_2 : decode cX3_speaksAt 2 = .ok (.invokevirtual 30, 3) := by decide +kernel
theorem dX3_speaksAt_5 : decode cX3_speaksAt 5 = .ok (.invokevirtual 34, 3) := by decide +kernel
theorem dX3_speaksAt_8 : decode cX3_speaksAt 8 = .ok (.ireturn, 1) := by decide +kernel
set_option maxRecDepth 20000 in
theorem ggX3_mayGoOn_X3_speaksAt : GoodIn wsX3_mayGoOn wsX3_speaksAt := goodIn_r _ [6, 7, 8, 9, 5, 10, 11, 12, 13, 14, 15, 16, 1, 17, 18, 19, 20, 21, 22, 23, 24, 25, 26, 27, 28, 29, 30, 31, 32, 33, 34, 35, 36, 37, 38, 39] (by decide +kernel) (by decide +kernel)
set_option maxRecDepth 20000 in
theorem gX3_mayGoOn_X3_speaksAt : GoodIn wsX3_mayGoOn (wsV RX3 38 RX3 yX3_speaksAt wsX3_speaksAt) := goodIn_app (goodIn_of _ (by decide +kernel)) ggX3_mayGoOn_X3_speaksAt
theorem dX3_mayGoOn_0 : decode cX3_mayGoOn 0 = .ok (.aload_n 0, 1) := by decide +kernel
theorem dX3_mayGoOn_1 : decode cX3_mayGoOn 1 = .ok (.aload_n 0, 1) := by decide +kernel
theorem dX3_mayGoOn_2 : decode cX3_mayGoOn 2 = .ok (.getfield 22, 3) := by decide +kernel
theorem dX3_mayGoOn_5 : decode cX3_mayGoOn 5 = .ok (.iconst 1, 1) := by decide +kernel
theorem dX3_mayGoOn_6 : decode cX3_mayGoOn 6 = .ok (.isub, 1) := by decide +kernel
theorem dX3_mayGoOn_7 : decode cX3_mayGoOn 7 = .ok (.invokevirtual 38, 3) := by decide +kernel
theorem dX3_mayGoOn_10 : decode cX3_mayGoOn 10 = .ok (.ireturn, 1) := by decide +kernel
set_option maxRecDepth 20000 in
theorem ggX3_append_X3_isFull : GoodIn wsX3_append wsX3_isFull := goodIn_r _ [6, 1, 7, 102, 103, 104] (by decide +kernel) (by decide +kernel)
set_option maxRecDepth 20000 in
theorem gX3_append_X3_isFull : GoodIn wsX3_append (wsV RX3 41 RX3 yX3_isFull wsX3_isFull) := goodIn_app (goodIn_of _ (by decide +kernel)) ggX3_append_X3_isFull
set_option maxRecDepth 20000 in
theorem ggX3_append_X3_paragraphAt : GoodIn wsX3_append wsX3_paragraphAt := goodIn_r _ [11, 7, 12, 13, 14, 15, 5, 16, 1, 102, 103, 104] (by decide +kernel) (by decide +kernel)
set_option maxRecDepth 20000 in
theorem gX3_append_X3_paragraphAt : GoodIn wsX3_append (wsV RX3 30 RX3 yX3_paragraphAt wsX3_paragraphAt) := goodIn_app (goodIn_of _ (by decide +kernel)) ggX3_append_X3_paragraphAt
set_option maxRecDepth 20000 in
theorem ggX3_append_X1_read : GoodIn wsX3_append wsX1_read := goodIn_r _ [21, 22, 23, 24, 25, 26, 20, 27, 28, 29, 30, 31, 32, 33, 34, 35, 36, 37, 38, 39, 40, 41, 42, 43, 44, 45, 46, 47, 48, 49, 50, 51, 52, 53, 54, 55, 56, 57, 58, 59, 60, 61, 62, 63, 64, 65, 66, 67, 68, 69, 70, 71, 72, 73, 74, 75, 76, 77, 78, 79, 80, 81, 82, 83, 84, 85, 86, 87, 88, 89, 90, 91, 92, 93, 94, 95, 96, 97, 98, 99, 100, 101, 105, 106, 107, 108, 109, 110, 111, 112, 113, 114, 115, 116, 117, 118, 119, 120] (by decide +kernel) (by decide +kernel)
set_option maxRecDepth 20000 in
theorem gX3_append_X1_read : GoodIn wsX3_append (wsV RX3 44 RX1 yX1_read wsX1_read) := goodIn_app (goodIn_of _ (by decide +kernel)) ggX3_append_X1_read
theorem dX3_append_0 : decode cX3_append 0 = .ok (.aload_n 0, 1) := by decide +kernel
theorem dX3_append_1 : decode cX3_append 1 = .ok (.invokevirtual 41, 3) := by decide +kernel
theorem dX3_append_4 : decode cX3_append 4 = .ok (.ifCond .ne 28, 3) := by decide +kernel
theorem dX3_append_7 : decode cX3_append 7 = .ok (.aload_n 0, 1) := by decide +kernel
theorem dX3_append_8 : decode cX3_append 8 = .ok (.dup, 1) := by decide +kernel
theorem dX3_append_9 : decode cX3_append 9 = .ok (.getfield 22, 3) := by decide +kernel
theorem dX3_append_12 : decode cX3_append 12 = .ok (.iconst 1, 1) := by decide +kernel
theorem dX3_append_13 : decode cX3_append 13 = .ok (.iadd, 1) := by decide +kernel
theorem dX3_append_14 : decode cX3_append 14 = .ok (.putfield 22, 3) := by decide +kernel
theorem dX3_append_17 : decode cX3_append 17 = .ok (.aload_n 0, 1) := by decide +kernel
theorem dX3_append_18 : decode cX3_append 18 = .ok (.aload_n 0, 1) := by decide +kernel
theorem dX3_append_19 : decode cX3_append 19 = .ok (.getfield 22, 3) := by decide +kernel
theorem dX3_append_22 : decode cX3_append 22 = .ok (.iconst 1, 1) := by decide +kernel
theorem dX3_append_23 : decode cX3_append 23 = .ok (.isub, 1) := by decide +kernel
theorem dX3_append_24 : decode cX3_append 24 = .ok (.invokevirtual 30, 3) := by decide +kernel
theorem dX3_append_27 : decode cX3_append 27 = .ok (.aload_n 1, 1) := by decide +kernel
theorem dX3_append_28 : decode cX3_append 28 = .ok (.iload_n 2, 1) := by decide +kernel
theorem dX3_append_29 : decode cX3_append 29 = .ok (.invokevirtual 44, 3) := by decide +kernel
theorem dX3_append_32 : decode cX3_append 32 = .ok (.return_, 1) := by decide +kernel
theorem dX3_dropLast_0 : decode cX3_dropLast 0 = .ok (.aload_n 0, 1) := by decide +kernel
theorem dX3_dropLast_1 : decode cX3_dropLast 1 = .ok (.getfield 22, 3) := by decide +kernel
theorem dX3_dropLast_4 : decode cX3_dropLast 4 = .ok (.ifCond .le 13, 3) := by decide +kernel
theorem dX3_dropLast_7 : decode cX3_dropLast 7 = .ok (.aload_n 0, 1) := by decide +kernel
theorem dX3_dropLast_8 : decode cX3_dropLast 8 = .ok (.dup, 1) := by decide +kernel
theorem dX3_dropLast_9 : decode cX3_dropLast 9 = .ok (.getfield 22, 3) := by decide +kernel
theorem dX3_dropLast_12 : decode cX3_dropLast 12 = .ok (.iconst 1, 1) := by decide +kernel
theorem dX3_dropLast_13 : decode cX3_dropLast 13 = .ok (.isub, 1) := by decide +kernel
theorem dX3_dropLast_14 : decode cX3_dropLast 14 = .ok (.putfield 22, 3) := by decide +kernel
theorem dX3_dropLast_17 : decode cX3_dropLast 17 = .ok (.return_, 1) := by decide +kernel
set_option maxRecDepth 20000 in
theorem ggX3_namesAnywhere_X3_paragraphAt : GoodIn wsX3_namesAnywhere wsX3_paragraphAt := goodIn_r _ [6, 7, 8, 9, 10, 11, 5, 12, 1, 22, 23, 24] (by decide +kernel) (by decide +kernel)
set_option maxRecDepth 20000 in
theorem gX3_namesAnywhere_X3_paragraphAt : GoodIn wsX3_namesAnywhere (wsV RX3 30 RX3 yX3_paragraphAt wsX3_paragraphAt) := goodIn_app (goodIn_of _ (by decide +kernel)) ggX3_namesAnywhere_X3_paragraphAt
set_option maxRecDepth 20000 in
theorem ggX3_namesAnywhere_X1_mentions : GoodIn wsX3_namesAnywhere wsX1_mentions := goodIn_r _ [17, 18, 19, 20, 21, 25, 26, 27, 28, 29, 30, 31, 32, 33, 34, 35, 36, 37, 38] (by decide +kernel) (by decide +kernel)
set_option maxRecDepth 20000 in
theorem gX3_namesAnywhere_X1_mentions : GoodIn wsX3_namesAnywhere (wsV RX3 48 RX1 yX1_mentions wsX1_mentions) := goodIn_app (goodIn_of _ (by decide +kernel)) ggX3_namesAnywhere_X1_mentions
theorem dX3_namesAnywhere_0 : decode cX3_namesAnywhere 0 = .ok (.iconst 0, 1) := by decide +kernel
theorem dX3_namesAnywhere_1 : decode cX3_namesAnywhere 1 = .ok (.istore_n 2, 1) := by decide +kernel
theorem dX3_namesAnywhere_2 : decode cX3_namesAnywhere 2 = .ok (.iload_n 2, 1) := by decide +kernel
theorem dX3_namesAnywhere_3 : decode cX3_namesAnywhere 3 = .ok (.aload_n 0, 1) := by decide +kernel
theorem dX3_namesAnywhere_4 : decode cX3_namesAnywhere 4 = .ok (.getfield 22, 3) := by decide +kernel
theorem dX3_namesAnywhere_7 : decode cX3_namesAnywhere 7 = .ok (.if_icmp .ge 23, 3) := by decide +kernel
theorem dX3_namesAnywhere_10 : decode cX3_namesAnywhere 10 = .ok (.aload_n 0, 1) := by decide +kernel
theorem dX3_namesAnywhere_11 : decode cX3_namesAnywhere 11 = .ok (.iload_n 2, 1) := by decide +kernel
theorem dX3_namesAnywhere_12 : decode cX3_namesAnywhere 12 = .ok (.invokevirtual 30, 3) := by decide +kernel
theorem dX3_namesAnywhere_15 : decode cX3_namesAnywhere 15 = .ok (.iload_n 1, 1) := by decide +kernel
theorem dX3_namesAnywhere_16 : decode cX3_namesAnywhere 16 = .ok (.invokevirtual 48, 3) := by decide +kernel
theorem dX3_namesAnywhere_19 : decode cX3_namesAnywhere 19 = .ok (.ifCond .eq 5, 3) := by decide +kernel
theorem dX3_namesAnywhere_22 : decode cX3_namesAnywhere 22 = .ok (.iconst 1, 1) := by decide +kernel
theorem dX3_namesAnywhere_23 : decode cX3_namesAnywhere 23 = .ok (.ireturn, 1) := by decide +kernel
theorem dX3_namesAnywhere_24 : decode cX3_namesAnywhere 24 = .ok (.iinc 2 1, 3) := by decide +kernel
theorem dX3_namesAnywhere_27 : decode cX3_namesAnywhere 27 = .ok (.goto (-25), 3) := by decide +kernel
theorem dX3_namesAnywhere_30 : decode cX3_namesAnywhere 30 = .ok (.iconst 0, 1) := by decide +kernel
theorem dX3_namesAnywhere_31 : decode cX3_namesAnywhere 31 = .ok (.ireturn, 1) := by decide +kernel
set_option maxRecDepth 20000 in
theorem ggX3_linkAhead_X3_speaksAt : GoodIn wsX3_linkAhead wsX3_speaksAt := goodIn_r _ [5, 6, 7, 8, 4, 9, 10, 11, 12, 13, 14, 15, 16, 17, 18, 19, 20, 21, 22, 28, 29, 30, 31, 32, 33, 34, 35, 36, 37, 38, 39, 40, 41, 42, 43, 44] (by decide +kernel) (by decide +kernel)
set_option maxRecDepth 20000 in
theorem gX3_linkAhead_X3_speaksAt : GoodIn wsX3_linkAhead (wsV RX3 38 RX3 yX3_speaksAt wsX3_speaksAt) := goodIn_app (goodIn_of _ (by decide +kernel)) ggX3_linkAhead_X3_speaksAt
set_option maxRecDepth 20000 in
theorem ggX3_linkAhead_X3_paragraphAt : GoodIn wsX3_linkAhead wsX3_paragraphAt := goodIn_r _ [9, 10, 11, 12, 13, 14, 4, 15, 16, 28, 29, 30] (by decide +kernel) (by decide +kernel)
set_option maxRecDepth 20000 in
theorem gX3_linkAhead_X3_paragraphAt : GoodIn wsX3_linkAhead (wsV RX3 30 RX3 yX3_paragraphAt wsX3_paragraphAt) := goodIn_app (goodIn_of _ (by decide +kernel)) ggX3_linkAhead_X3_paragraphAt
set_option maxRecDepth 20000 in
theorem ggX3_linkAhead_X1_goesOn : GoodIn wsX3_linkAhead wsX1_goesOn := goodIn_r _ [26, 27, 31, 32, 33, 34, 35, 36, 37, 38, 39, 40, 41, 42, 43, 44] (by decide +kernel) (by decide +kernel)
set_option maxRecDepth 20000 in
theorem gX3_linkAhead_X1_goesOn : GoodIn wsX3_linkAhead (wsV RX3 51 RX1 yX1_goesOn wsX1_goesOn) := goodIn_app (goodIn_of _ (by decide +kernel)) ggX3_linkAhead_X1_goesOn
theorem dX3_linkAhead_0 : decode cX3_linkAhead 0 = .ok (.aload_n 0, 1) := by decide +kernel
theorem dX3_linkAhead_1 : decode cX3_linkAhead 1 = .ok (.iload_n 1, 1) := by decide +kernel
theorem dX3_linkAhead_2 : decode cX3_linkAhead 2 = .ok (.iconst 1, 1) := by decide +kernel
theorem dX3_linkAhead_3 : decode cX3_linkAhead 3 = .ok (.isub, 1) := by decide +kernel
theorem dX3_linkAhead_4 : decode cX3_linkAhead 4 = .ok (.invokevirtual 38, 3) := by decide +kernel
theorem dX3_linkAhead_7 : decode cX3_linkAhead 7 = .ok (.ifCond .eq 11, 3) := by decide +kernel
theorem dX3_linkAhead_10 : decode cX3_linkAhead 10 = .ok (.aload_n 0, 1) := by decide +kernel
theorem dX3_linkAhead_11 : decode cX3_linkAhead 11 = .ok (.iload_n 1, 1) := by decide +kernel
theorem dX3_linkAhead_12 : decode cX3_linkAhead 12 = .ok (.invokevirtual 38, 3) := by decide +kernel
theorem dX3_linkAhead_15 : decode cX3_linkAhead 15 = .ok (.ifCond .ne 5, 3) := by decide +kernel
theorem dX3_linkAhead_18 : decode cX3_linkAhead 18 = .ok (.iconst 0, 1) := by decide +kernel
theorem dX3_linkAhead_19 : decode cX3_linkAhead 19 = .ok (.ireturn, 1) := by decide +kernel
theorem dX3_linkAhead_20 : decode cX3_linkAhead 20 = .ok (.aload_n 0, 1) := by decide +kernel
theorem dX3_linkAhead_21 : decode cX3_linkAhead 21 = .ok (.iload_n 1, 1) := by decide +kernel
theorem dX3_linkAhead_22 : decode cX3_linkAhead 22 = .ok (.invokevirtual 30, 3) := by decide +kernel
theorem dX3_linkAhead_25 : decode cX3_linkAhead 25 = .ok (.invokevirtual 51, 3) := by decide +kernel
theorem dX3_linkAhead_28 : decode cX3_linkAhead 28 = .ok (.ifCond .eq 5, 3) := by decide +kernel
theorem dX3_linkAhead_31 : decode cX3_linkAhead 31 = .ok (.iconst 1, 1) := by decide +kernel
theorem dX3_linkAhead_32 : decode cX3_linkAhead 32 = .ok (.ireturn, 1) := by decide +kernel
theorem dX3_linkAhead_33 : decode cX3_linkAhead 33 = .ok (.iload_n 2, 1) := by decide +kernel
theorem dX3_linkAhead_34 : decode cX3_linkAhead 34 = .ok (.bipush 8, 2) := by decide +kernel
theorem dX3_linkAhead_36 : decode cX3_linkAhead 36 = .ok (.iand, 1) := by decide +kernel
theorem dX3_linkAhead_37 : decode cX3_linkAhead 37 = .ok (.ifCond .eq 7, 3) := by decide +kernel
theorem dX3_linkAhead_40 : decode cX3_linkAhead 40 = .ok (.iconst 2, 1) := by decide +kernel
theorem dX3_linkAhead_41 : decode cX3_linkAhead 41 = .ok (.goto 4, 3) := by decide +kernel
theorem dX3_linkAhead_44 : decode cX3_linkAhead 44 = .ok (.iconst 0, 1) := by decide +kernel
theorem dX3_linkAhead_45 : decode cX3_linkAhead 45 = .ok (.ireturn, 1) := by decide +kernel
set_option maxRecDepth 20000 in
theorem ggX3_speaking_X3_speaksAt : GoodIn wsX3_speaking wsX3_speaksAt := goodIn_r _ [6, 7, 8, 9, 5, 10, 11, 12, 13, 14, 15, 16, 1, 17, 18, 19, 20, 21, 22, 23, 24, 25, 26, 27, 28, 29, 30, 31, 32, 33, 34, 35, 36, 37, 38, 39] (by decide +kernel) (by decide +kernel)
set_option maxRecDepth 20000 in
theorem gX3_speaking_X3_speaksAt : GoodIn wsX3_speaking (wsV RX3 38 RX3 yX3_speaksAt wsX3_speaksAt) := goodIn_app (goodIn_of _ (by decide +kernel)) ggX3_speaking_X3_speaksAt
theorem dX3_speaking_0 : decode cX3_speaking 0 = .ok (.iconst 0, 1) := by decide +kernel
theorem dX3_speaking_1 : decode cX3_speaking 1 = .ok (.istore_n 1, 1) := by decide +kernel
theorem dX3_speaking_2 : decode cX3_speaking 2 = .ok (.iconst 0, 1) := by decide +kernel
theorem dX3_speaking_3 : decode cX3_speaking 3 = .ok (.istore_n 2, 1) := by decide +kernel
theorem dX3_speaking_4 : decode cX3_speaking 4 = .ok (.iload_n 2, 1) := by decide +kernel
theorem dX3_speaking_5 : decode cX3_speaking 5 = .ok (.aload_n 0, 1) := by decide +kernel
theorem dX3_speaking_6 : decode cX3_speaking 6 = .ok (.getfield 22, 3) := by decide +kernel
theorem dX3_speaking_9 : decode cX3_speaking 9 = .ok (.if_icmp .ge 20, 3) := by decide +kernel
theorem dX3_speaking_12 : decode cX3_speaking 12 = .ok (.aload_n 0, 1) := by decide +kernel
theorem dX3_speaking_13 : decode cX3_speaking 13 = .ok (.iload_n 2, 1) := by decide +kernel
theorem dX3_speaking_14 : decode cX3_speaking 14 = .ok (.invokevirtual 38, 3) := by decide +kernel
theorem dX3_speaking_17 : decode cX3_speaking 17 = .ok (.ifCond .eq 6, 3) := by decide +kernel
theorem dX3_speaking_20 : decode cX3_speaking 20 = .ok (.iinc 1 1, 3) := by decide +kernel
theorem dX3_speaking_23 : decode cX3_speaking 23 = .ok (.iinc 2 1, 3) := by decide +kernel
theorem dX3_speaking_26 : decode cX3_speaking 26 = .ok (.goto (-22), 3) := by decide +kernel
theorem dX3_speaking_29 : decode cX3_speaking 29 = .ok (.iload_n 1, 1) := by decide +kernel
theorem dX3_speaking_30 : decode cX3_speaking 30 = .ok (.ireturn, 1) := by decide +kernel
set_option maxRecDepth 20000 in
theorem ggX3_hints_X3_paragraphAt : GoodIn wsX3_hints wsX3_paragraphAt := goodIn_r _ [6, 7, 8, 9, 10, 11, 5, 12, 1, 19, 20, 21] (by decide +kernel) (by decide +kernel)
set_option maxRecDepth 20000 in
theorem gX3_hints_X3_paragraphAt : GoodIn wsX3_hints (wsV RX3 30 RX3 yX3_paragraphAt wsX3_paragraphAt) := goodIn_app (goodIn_of _ (by decide +kernel)) ggX3_hints_X3_paragraphAt
set_option maxRecDepth 20000 in
theorem ggX3_hints_X1_hintSet : GoodIn wsX3_hints wsX1_hintSet := goodIn_r _ [17, 18, 22, 23, 24, 25, 26, 27, 28, 29, 30, 31, 32, 33, 34, 35] (by decide +kernel) (by decide +kernel)
set_option maxRecDepth 20000 in
theorem gX3_hints_X1_hintSet : GoodIn wsX3_hints (wsV RX3 54 RX1 yX1_hintSet wsX1_hintSet) := goodIn_app (goodIn_of _ (by decide +kernel)) ggX3_hints_X1_hintSet
theorem dX3_hints_0 : decode cX3_hints 0 = .ok (.iconst 0, 1) := by decide +kernel
theorem dX3_hints_1 : decode cX3_hints 1 = .ok (.istore_n 1, 1) := by decide +kernel
theorem dX3_hints_2 : decode cX3_hints 2 = .ok (.iconst 0, 1) := by decide +kernel
theorem dX3_hints_3 : decode cX3_hints 3 = .ok (.istore_n 2, 1) := by decide +kernel
theorem dX3_hints_4 : decode cX3_hints 4 = .ok (.iload_n 2, 1) := by decide +kernel
theorem dX3_hints_5 : decode cX3_hints 5 = .ok (.aload_n 0, 1) := by decide +kernel
theorem dX3_hints_6 : decode cX3_hints 6 = .ok (.getfield 22, 3) := by decide +kernel
theorem dX3_hints_9 : decode cX3_hints 9 = .ok (.if_icmp .ge 25, 3) := by decide +kernel
theorem dX3_hints_12 : decode cX3_hints 12 = .ok (.aload_n 0, 1) := by decide +kernel
theorem dX3_hints_13 : decode cX3_hints 13 = .ok (.iload_n 2, 1) := by decide +kernel
theorem dX3_hints_14 : decode cX3_hints 14 = .ok (.invokevirtual 30, 3) := by decide +kernel
theorem dX3_hints_17 : decode cX3_hints 17 = .ok (.invokevirtual 54, 3) := by decide +kernel
theorem dX3_hints_20 : decode cX3_hints 20 = .ok (.bipush (-9), 2) := by decide +kernel
theorem dX3_hints_22 : decode cX3_hints 22 = .ok (.if_icmp .eq 6, 3) := by decide +kernel
theorem dX3_hints_25 : decode cX3_hints 25 = .ok (.iinc 1 1, 3) := by decide +kernel
theorem dX3_hints_28 : decode cX3_hints 28 = .ok (.iinc 2 1, 3) := by decide +kernel
theorem dX3_hints_31 : decode cX3_hints 31 = .ok (.goto (-27), 3) := by decide +kernel
theorem dX3_hints_34 : decode cX3_hints 34 = .ok (.iload_n 1, 1) := by decide +kernel
theorem dX3_hints_35 : decode cX3_hints 35 = .ok (.ireturn, 1) := by decide +kernel
set_option maxRecDepth 20000 in
theorem ggX3_runs_X3_beginsRun : GoodIn wsX3_runs wsX3_beginsRun := goodIn_r _ [6, 7, 8, 9, 5, 10, 11, 12, 13, 14, 15, 16, 17, 18, 19, 20, 1, 21, 22, 23, 24, 25, 26, 27, 28, 29, 30, 31, 32, 33, 34, 35, 36, 37, 38, 39, 40, 41, 42, 43] (by decide +kernel) (by decide +kernel)
set_option maxRecDepth 20000 in
theorem gX3_runs_X3_beginsRun : GoodIn wsX3_runs (wsV RX3 58 RX3 yX3_beginsRun wsX3_beginsRun) := goodIn_app (goodIn_of _ (by decide +kernel)) ggX3_runs_X3_beginsRun
theorem dX3_runs_0 : decode cX3_runs 0 = .ok (.iconst 0, 1) := by decide +kernel
theorem dX3_runs_1 : decode cX3_runs 1 = .ok (.istore_n 1, 1) := by decide +kernel
theorem dX3_runs_2 : decode cX3_runs 2 = .ok (.iconst 0, 1) := by decide +kernel
theorem dX3_runs_3 : decode cX3_runs 3 = .ok (.istore_n 2, 1) := by decide +kernel
theorem dX3_runs_4 : decode cX3_runs 4 = .ok (.iload_n 2, 1) := by decide +kernel
theorem dX3_runs_5 : decode cX3_runs 5 = .ok (.aload_n 0, 1) := by decide +kernel
theorem dX3_runs_6 : decode cX3_runs 6 = .ok (.getfield 22, 3) := by decide +kernel
theorem dX3_runs_9 : decode cX3_runs 9 = .ok (.if_icmp .ge 20, 3) := by decide +kernel
theorem dX3_runs_12 : decode cX3_runs 12 = .ok (.aload_n 0, 1) := by decide +kernel
theorem dX3_runs_13 : decode cX3_runs 13 = .ok (.iload_n 2, 1) := by decide +kernel
theorem dX3_runs_14 : decode cX3_runs 14 = .ok (.invokevirtual 58, 3) := by decide +kernel
theorem dX3_runs_17 : decode cX3_runs 17 = .ok (.ifCond .eq 6, 3) := by decide +kernel
theorem dX3_runs_20 : decode cX3_runs 20 = .ok (.iinc 1 1, 3) := by decide +kernel
theorem dX3_runs_23 : decode cX3_runs 23 = .ok (.iinc 2 1, 3) := by decide +kernel
theorem dX3_runs_26 : decode cX3_runs 26 = .ok (.goto (-22), 3) := by decide +kernel
theorem dX3_runs_29 : decode cX3_runs 29 = .ok (.iload_n 1, 1) := by decide +kernel
theorem dX3_runs_30 : decode cX3_runs 30 = .ok (.ireturn, 1) := by decide +kernel
set_option maxRecDepth 20000 in
theorem ggX3_beginsRun_X3_speaksAt : GoodIn wsX3_beginsRun wsX3_speaksAt := goodIn_r _ [5, 6, 7, 8, 4, 9, 10, 11, 12, 13, 14, 15, 16, 17, 18, 19, 20, 21, 22, 23, 24, 25, 26, 27, 28, 29, 30, 31, 32, 33, 34, 35, 36, 37, 38, 39] (by decide +kernel) (by decide +kernel)
set_option maxRecDepth 20000 in
theorem gX3_beginsRun_X3_speaksAt : GoodIn wsX3_beginsRun (wsV RX3 38 RX3 yX3_speaksAt wsX3_speaksAt) := goodIn_app (goodIn_of _ (by decide +kernel)) ggX3_beginsRun_X3_speaksAt
theorem dX3_beginsRun_0 : decode cX3_beginsRun 0 = .ok (.aload_n 0, 1) := by decide +kernel
theorem dX3_beginsRun_1 : decode cX3_beginsRun 1 = .ok (.iload_n 1, 1) := by decide +kernel
theorem dX3_beginsRun_2 : decode cX3_beginsRun 2 = .ok (.invokevirtual 38, 3) := by decide +kernel
theorem dX3_beginsRun_5 : decode cX3_beginsRun 5 = .ok (.ifCond .eq 17, 3) := by decide +kernel
theorem dX3_beginsRun_8 : decode cX3_beginsRun 8 = .ok (.aload_n 0, 1) := by decide +kernel
theorem dX3_beginsRun_9 : decode cX3_beginsRun 9 = .ok (.iload_n 1, 1) := by decide +kernel
theorem dX3_beginsRun_10 : decode cX3_beginsRun 10 = .ok (.iconst 1, 1) := by decide +kernel
theorem dX3_beginsRun_11 : decode cX3_beginsRun 11 = .ok (.isub, 1) := by decide +kernel
theorem dX3_beginsRun_12 : decode cX3_beginsRun 12 = .ok (.invokevirtual 38, 3) := by decide +kernel
theorem dX3_beginsRun_15 : decode cX3_beginsRun 15 = .ok (.ifCond .ne 7, 3) := by decide +kernel
theorem dX3_beginsRun_18 : decode cX3_beginsRun 18 = .ok (.iconst 1, 1) := by decide +kernel
theorem dX3_beginsRun_19 : decode cX3_beginsRun 19 = .ok (.goto 4, 3) := by decide +kernel
theorem dX3_beginsRun_22 : decode cX3_beginsRun 22 = .ok (.iconst 0, 1) := by decide +kernel
theorem dX3_beginsRun_23 : decode cX3_beginsRun 23 = .ok (.ireturn, 1) := by decide +kernel
set_option maxRecDepth 20000 in
theorem ggX3_firstOfRun_X3_beginsRun : GoodIn wsX3_firstOfRun wsX3_beginsRun := goodIn_r _ [6, 7, 8, 9, 5, 10, 11, 12, 13, 14, 15, 16, 17, 18, 19, 20, 1, 21, 22, 23, 24, 25, 26, 27, 28, 29, 30, 31, 32, 33, 34, 35, 36, 37, 38, 39, 40, 41, 42, 43] (by decide +kernel) (by decide +kernel)
set_option maxRecDepth 20000 in
theorem gX3_firstOfRun_X3_beginsRun : GoodIn wsX3_firstOfRun (wsV RX3 58 RX3 yX3_beginsRun wsX3_beginsRun) := goodIn_app (goodIn_of _ (by decide +kernel)) ggX3_firstOfRun_X3_beginsRun
theorem dX3_firstOfRun_0 : decode cX3_firstOfRun 0 = .ok (.iconst 0, 1) := by decide +kernel
theorem dX3_firstOfRun_1 : decode cX3_firstOfRun 1 = .ok (.istore_n 2, 1) := by decide +kernel
theorem dX3_firstOfRun_2 : decode cX3_firstOfRun 2 = .ok (.iconst 0, 1) := by decide +kernel
theorem dX3_firstOfRun_3 : decode cX3_firstOfRun 3 = .ok (.istore_n 3, 1) := by decide +kernel
theorem dX3_firstOfRun_4 : decode cX3_firstOfRun 4 = .ok (.iload_n 3, 1) := by decide +kernel
theorem dX3_firstOfRun_5 : decode cX3_firstOfRun 5 = .ok (.aload_n 0, 1) := by decide +kernel
theorem dX3_firstOfRun_6 : decode cX3_firstOfRun 6 = .ok (.getfield 22, 3) := by decide +kernel
theorem dX3_firstOfRun_9 : decode cX3_firstOfRun 9 = .ok (.if_icmp .ge 27, 3) := by decide +kernel
theorem dX3_firstOfRun_12 : decode cX3_firstOfRun 12 = .ok (.aload_n 0, 1) := by decide +kernel
theorem dX3_firstOfRun_13 : decode cX3_firstOfRun 13 = .ok (.iload_n 3, 1) := by decide +kernel
theorem dX3_firstOfRun_14 : decode cX3_firstOfRun 14 = .ok (.invokevirtual 58, 3) := by decide +kernel
theorem dX3_firstOfRun_17 : decode cX3_firstOfRun 17 = .ok (.ifCond .eq 13, 3) := by decide +kernel
theorem dX3_firstOfRun_20 : decode cX3_firstOfRun 20 = .ok (.iload_n 2, 1) := by decide +kernel
theorem dX3_firstOfRun_21 : decode cX3_firstOfRun 21 = .ok (.iload_n 1, 1) := by decide +kernel
theorem dX3_firstOfRun_22 : decode cX3_firstOfRun 22 = .ok (.if_icmp .ne 5, 3) := by decide +kernel
theorem dX3_firstOfRun_25 : decode cX3_firstOfRun 25 = .ok (.iload_n 3, 1) := by decide +kernel
theorem dX3_firstOfRun_26 : decode cX3_firstOfRun 26 = .ok (.ireturn, 1) := by decide +kernel
theorem dX3_firstOfRun_27 : decode cX3_firstOfRun 27 = .ok (.iinc 2 1, 3) := by decide +kernel
theorem dX3_firstOfRun_30 : decode cX3_firstOfRun 30 = .ok (.iinc 3 1, 3) := by decide +kernel
theorem dX3_firstOfRun_33 : decode cX3_firstOfRun 33 = .ok (.goto (-29), 3) := by decide +kernel
theorem dX3_firstOfRun_36 : decode cX3_firstOfRun 36 = .ok (.bipush (-9), 2) := by decide +kernel
theorem dX3_firstOfRun_38 : decode cX3_firstOfRun 38 = .ok (.ireturn, 1) := by decide +kernel
set_option maxRecDepth 20000 in
theorem ggX3_runLength_X3_speaksAt : GoodIn wsX3_runLength wsX3_speaksAt := goodIn_r _ [6, 7, 8, 9, 5, 10, 11, 12, 13, 14, 15, 16, 1, 17, 18, 19, 20, 21, 22, 23, 24, 25, 26, 27, 28, 29, 30, 31, 32, 33, 34, 35, 36, 37, 38, 39] (by decide +kernel) (by decide +kernel)
set_option maxRecDepth 20000 in
theorem gX3_runLength_X3_speaksAt : GoodIn wsX3_runLength (wsV RX3 38 RX3 yX3_speaksAt wsX3_speaksAt) := goodIn_app (goodIn_of _ (by decide +kernel)) ggX3_runLength_X3_speaksAt
theorem dX3_runLength_0 : decode cX3_runLength 0 = .ok (.iconst 0, 1) := by decide +kernel
theorem dX3_runLength_1 : decode cX3_runLength 1 = .ok (.istore_n 2, 1) := by decide +kernel
theorem dX3_runLength_2 : decode cX3_runLength 2 = .ok (.iload_n 1, 1) := by decide +kernel
theorem dX3_runLength_3 : decode cX3_runLength 3 = .ok (.istore_n 3, 1) := by decide +kernel
theorem dX3_runLength_4 : decode cX3_runLength 4 = .ok (.iload_n 3, 1) := by decide +kernel
theorem dX3_runLength_5 : decode cX3_runLength 5 = .ok (.aload_n 0, 1) := by decide +kernel
theorem dX3_runLength_6 : decode cX3_runLength 6 = .ok (.getfield 22, 3) := by decide +kernel
theorem dX3_runLength_9 : decode cX3_runLength 9 = .ok (.if_icmp .ge 20, 3) := by decide +kernel
theorem dX3_runLength_12 : decode cX3_runLength 12 = .ok (.aload_n 0, 1) := by decide +kernel
theorem dX3_runLength_13 : decode cX3_runLength 13 = .ok (.iload_n 3, 1) := by decide +kernel
theorem dX3_runLength_14 : decode cX3_runLength 14 = .ok (.invokevirtual 38, 3) := by decide +kernel
theorem dX3_runLength_17 : decode cX3_runLength 17 = .ok (.ifCond .eq 12, 3) := by decide +kernel
theorem dX3_runLength_20 : decode cX3_runLength 20 = .ok (.iinc 2 1, 3) := by decide +kernel
theorem dX3_runLength_23 : decode cX3_runLength 23 = .ok (.iinc 3 1, 3) := by decide +kernel
theorem dX3_runLength_26 : decode cX3_runLength 26 = .ok (.goto (-22), 3) := by decide +kernel
theorem dX3_runLength_29 : decode cX3_runLength 29 = .ok (.iload_n 2, 1) := by decide +kernel
theorem dX3_runLength_30 : decode cX3_runLength 30 = .ok (.ireturn, 1) := by decide +kernel
theorem dX4_init_0 : decode cX4_init 0 = .ok (.aload_n 0, 1) := by decide +kernel
theorem dX4_init_1 : decode cX4_init 1 = .ok (.invokespecial 3, 3) := by decide +kernel
theorem dX4_init_4 : decode cX4_init 4 = .ok (.aload_n 0, 1) := by decide +kernel
theorem dX4_init_5 : decode cX4_init 5 = .ok (.bipush 12, 2) := by decide +kernel
theorem dX4_init_7 : decode cX4_init 7 = .ok (.newarray .int, 2) := by decide +kernel
theorem dX4_init_9 : decode cX4_init 9 = .ok (.putfield 9, 3) := by decide +kernel
theorem dX4_init_12 : decode cX4_init 12 = .ok (.aload_n 0, 1) := by decide +kernel
theorem dX4_init_13 : decode cX4_init 13 = .ok (.iconst 0, 1) := by decide +kernel
theorem dX4_init_14 : decode cX4_init 14 = .ok (.putfield 15, 3) := by decide +kernel
theorem dX4_init_17 : decode cX4_init 17 = .ok (.return_, 1) := by decide +kernel
theorem dX4_length_0 : decode cX4_length 0 = .ok (.aload_n 0, 1) := by decide +kernel
theorem dX4_length_1 : decode cX4_length 1 = .ok (.getfield 15, 3) := by decide +kernel
theorem dX4_length_4 : decode cX4_length 4 = .ok (.ireturn, 1) := by decide +kernel
theorem dX4_isFull_0 : decode cX4_isFull 0 = .ok (.aload_n 0, 1) := by decide +kernel
theorem dX4_isFull_1 : decode cX4_isFull 1 = .ok (.getfield 15, 3) := by decide +kernel
theorem dX4_isFull_4 : decode cX4_isFull 4 = .ok (.aload_n 0, 1) := by decide +kernel
theorem dX4_isFull_5 : decode cX4_isFull 5 = .ok (.getfield 9, 3) := by decide +kernel
theorem dX4_isFull_8 : decode cX4_isFull 8 = .ok (.arraylength, 1) := by decide +kernel
theorem dX4_isFull_9 : decode cX4_isFull 9 = .ok (.if_icmp .lt 7, 3) := by decide +kernel
theorem dX4_isFull_12 : decode cX4_isFull 12 = .ok (.iconst 1, 1) := by decide +kernel
theorem dX4_isFull_13 : decode cX4_isFull 13 = .ok (.goto 4, 3) := by decide +kernel
theorem dX4_isFull_16 : decode cX4_isFull 16 = .ok (.iconst 0, 1) := by decide +kernel
theorem dX4_isFull_17 : decode cX4_isFull 17 = .ok (.ireturn, 1) := by decide +kernel
set_option maxRecDepth 20000 in
theorem ggX4_codeAt_X5_isWithin : GoodIn wsX4_codeAt wsX5_isWithin := goodIn_r _ [5] (by decide +kernel) (by decide +kernel)
set_option maxRecDepth 20000 in
theorem gX4_codeAt_X5_isWithin_n19 : GoodIn wsX4_codeAt (wsX5_isWithin) := ggX4_codeAt_X5_isWithin
theorem dX4_codeAt_0 : decode cX4_codeAt 0 = .ok (.iload_n 1, 1) := by decide +kernel
theorem dX4_codeAt_1 : decode cX4_codeAt 1 = .ok (.aload_n 0, 1) := by decide +kernel
theorem dX4_codeAt_2 : decode cX4_codeAt 2 = .ok (.getfield 15, 3) := by decide +kernel
theorem dX4_codeAt_5 : decode cX4_codeAt 5 = .ok (.invokestatic 19, 3) := by decide +kernel
theorem dX4_codeAt_8 : decode cX4_codeAt 8 = .ok (.ifCond .eq 21, 3) := by decide +kernel
theorem dX4_codeAt_11 : decode cX4_codeAt 11 = .ok (.iload_n 1, 1) := by decide +kernel
theorem dX4_codeAt_12 : decode cX4_codeAt 12 = .ok (.aload_n 0, 1) := by decide +kernel
theorem dX4_codeAt_13 : decode cX4_codeAt 13 = .ok (.getfield 9, 3) := by decide +kernel
theorem dX4_codeAt_16 : decode cX4_codeAt 16 = .ok (.arraylength, 1) := by decide +kernel
theorem dX4_codeAt_17 : decode cX4_codeAt 17 = .ok (.if_icmp .ge 12, 3) := by decide +kernel
theorem dX4_codeAt_20 : decode cX4_codeAt 20 = .ok (.aload_n 0, 1) := by decide +kernel
theorem dX4_codeAt_21 : decode cX4_codeAt 21 = .ok (.getfield 9, 3) := by decide +kernel
theorem dX4_codeAt_24 : decode cX4_codeAt 24 = .ok (.iload_n 1, 1) := by decide +kernel
theorem dX4_codeAt_25 : decode cX4_codeAt 25 = .ok (.iaload, 1) := by decide +kernel
theorem dX4_codeAt_26 : decode cX4_codeAt 26 = .ok (.goto 4, 3) := by decide +kernel
theorem dX4_codeAt_29 : decode cX4_codeAt 29 = .ok (.iconst (-1), 1) := by decide +kernel
theorem dX4_codeAt_30 : decode cX4_codeAt 30 = .ok (.ireturn, 1) := by decide +kernel
set_option maxRecDepth 20000 in
theorem ggX4_put_X5_isWithin : GoodIn wsX4_put wsX5_isWithin := goodIn_r _ [5] (by decide +kernel) (by decide +kernel)
set_option maxRecDepth 20000 in
theorem gX4_put_X5_isWithin_n19 : GoodIn wsX4_put (wsX5_isWithin) := ggX4_put_X5_isWithin
theorem dX4_put_0 : decode cX4_put 0 = .ok (.aload_n 0, 1) := by decide +kernel
theorem dX4_put_1 : decode cX4_put 1 = .ok (.getfield 15, 3) := by decide +kernel
theorem dX4_put_4 : decode cX4_put 4 = .ok (.aload_n 0, 1) := by decide +kernel
theorem dX4_put_5 : decode cX4_put 5 = .ok (.getfield 9, 3) := by decide +kernel
theorem dX4_put_8 : decode cX4_put 8 = .ok (.arraylength, 1) := by decide +kernel
theorem dX4_put_9 : decode cX4_put 9 = .ok (.invokestatic 19, 3) := by decide +kernel
theorem dX4_put_12 : decode cX4_put 12 = .ok (.ifCond .eq 23, 3) := by decide +kernel
theorem dX4_put_15 : decode cX4_put 15 = .ok (.aload_n 0, 1) := by decide +kernel
theorem dX4_put_16 : decode cX4_put 16 = .ok (.getfield 9, 3) := by decide +kernel
theorem dX4_put_19 : decode cX4_put 19 = .ok (.aload_n 0, 1) := by decide +kernel
theorem dX4_put_20 : decode cX4_put 20 = .ok (.getfield 15, 3) := by decide +kernel
theorem dX4_put_23 : decode cX4_put 23 = .ok (.iload_n 1, 1) := by decide +kernel
theorem dX4_put_24 : decode cX4_put 24 = .ok (.iastore, 1) := by decide +kernel
theorem dX4_put_25 : decode cX4_put 25 = .ok (.aload_n 0, 1) := by decide +kernel
theorem dX4_put_26 : decode cX4_put 26 = .ok (.dup, 1) := by decide +kernel
theorem dX4_put_27 : decode cX4_put 27 = .ok (.getfield 15, 3) := by decide +kernel
theorem dX4_put_30 : decode cX4_put 30 = .ok (.iconst 1, 1) := by decide +kernel
theorem dX4_put_31 : decode cX4_put 31 = .ok (.iadd, 1) := by decide +kernel
theorem dX4_put_32 : decode cX4_put 32 = .ok (.putfield 15, 3) := by decide +kernel
theorem dX4_put_35 : decode cX4_put 35 = .ok (.return_, 1) := by decide +kernel
theorem dX4_clear_0 : decode cX4_clear 0 = .ok (.aload_n 0, 1) := by decide +kernel
theorem dX4_clear_1 : decode cX4_clear 1 = .ok (.iconst 0, 1) := by decide +kernel
theorem dX4_clear_2 : decode cX4_clear 2 = .ok (.putfield 15, 3) := by decide +kernel
theorem dX4_clear_5 : decode cX4_clear 5 = .ok (.return_, 1) := by decide +kernel
set_option maxRecDepth 20000 in
theorem ggX4_firstFault_X4_mayStand : GoodIn wsX4_firstFault wsX4_mayStand := goodIn_r _ [6, 7, 8, 9, 5, 10, 1, 11, 12, 13, 14, 15, 16, 17, 18, 19, 20, 21, 22, 23, 24, 25, 26, 27, 28, 29, 30] (by decide +kernel) (by decide +kernel)
set_option maxRecDepth 20000 in
theorem gX4_firstFault_X4_mayStand : GoodIn wsX4_firstFault (wsV RX4 23 RX4 yX4_mayStand wsX4_mayStand) := goodIn_app (goodIn_of _ (by decide +kernel)) ggX4_firstFault_X4_mayStand
set_option maxRecDepth 20000 in
theorem ggX4_firstFault_X4_codeAt : GoodIn wsX4_firstFault wsX4_codeAt := goodIn_r _ [10, 1, 11, 12, 13, 14, 27, 28] (by decide +kernel) (by decide +kernel)
set_option maxRecDepth 20000 in
theorem gX4_firstFault_X4_codeAt : GoodIn wsX4_firstFault (wsV RX4 27 RX4 yX4_codeAt wsX4_codeAt) := goodIn_app (goodIn_of _ (by decide +kernel)) ggX4_firstFault_X4_codeAt
theorem dX4_firstFault_0 : decode cX4_firstFault 0 = .ok (.iconst 0, 1) := by decide +kernel
theorem dX4_firstFault_1 : decode cX4_firstFault 1 = .ok (.istore_n 3, 1) := by decide +kernel
theorem dX4_firstFault_2 : decode cX4_firstFault 2 = .ok (.iconst 0, 1) := by decide +kernel
theorem dX4_firstFault_3 : decode cX4_firstFault 3 = .ok (.istore 4, 2) := by decide +kernel
theorem dX4_firstFault_5 : decode cX4_firstFault 5 = .ok (.iload 4, 2) := by decide +kernel
theorem dX4_firstFault_7 : decode cX4_firstFault 7 = .ok (.aload_n 0, 1) := by decide +kernel
theorem dX4_firstFault_8 : decode cX4_firstFault 8 = .ok (.getfield 15, 3) := by decide +kernel
theorem dX4_firstFault_11 : decode cX4_firstFault 11 = .ok (.if_icmp .ge 44, 3) := by decide +kernel
theorem dX4_firstFault_14 : decode cX4_firstFault 14 = .ok (.aload_n 0, 1) := by decide +kernel
theorem dX4_firstFault_15 : decode cX4_firstFault 15 = .ok (.iload 4, 2) := by decide +kernel
theorem dX4_firstFault_17 : decode cX4_firstFault 17 = .ok (.aload_n 1, 1) := by decide +kernel
theorem dX4_firstFault_18 : decode cX4_firstFault 18 = .ok (.iload_n 2, 1) := by decide +kernel
theorem dX4_firstFault_19 : decode cX4_firstFault 19 = .ok (.invokevirtual 23, 3) := by decide +kernel
theorem dX4_firstFault_22 : decode cX4_firstFault 22 = .ok (.ifCond .ne 6, 3) := by decide +kernel
theorem dX4_firstFault_25 : decode cX4_firstFault 25 = .ok (.iload 4, 2) := by decide +kernel
theorem dX4_firstFault_27 : decode cX4_firstFault 27 = .ok (.ireturn, 1) := by decide +kernel
theorem dX4_firstFault_28 : decode cX4_firstFault 28 = .ok (.iload_n 3, 1) := by decide +kernel
theorem dX4_firstFault_29 : decode cX4_firstFault 29 = .ok (.ifCond .ne 14, 3) := by decide +kernel
theorem dX4_firstFault_32 : decode cX4_firstFault 32 = .ok (.aload_n 0, 1) := by decide +kernel
theorem dX4_firstFault_33 : decode cX4_firstFault 33 = .ok (.iload 4, 2) := by decide +kernel
theorem dX4_firstFault_35 : decode cX4_firstFault 35 = .ok (.invokevirtual 27, 3) := by decide +kernel
theorem dX4_firstFault_38 : decode cX4_firstFault 38 = .ok (.bipush 113, 2) := by decide +kernel
theorem dX4_firstFault_40 : decode cX4_firstFault 40 = .ok (.if_icmp .ne 7, 3) := by decide +kernel
theorem dX4_firstFault_43 : decode cX4_firstFault 43 = .ok (.iconst 1, 1) := by decide +kernel
theorem dX4_firstFault_44 : decode cX4_firstFault 44 = .ok (.goto 4, 3) := by decide +kernel
theorem dX4_firstFault_47 : decode cX4_firstFault 47 = .ok (.iconst 0, 1) := by decide +kernel
theorem dX4_firstFault_48 : decode cX4_firstFault 48 = .ok (.istore_n 3, 1) := by decide +kernel
theorem dX4_firstFault_49 : decode cX4_firstFault 49 = .ok (.iinc 4 1, 3) := by decide +kernel
theorem dX4_firstFault_52 : decode cX4_firstFault 52 = .ok (.goto (-47), 3) := by decide +kernel
theorem dX4_firstFault_55 : decode cX4_firstFault 55 = .ok (.aload_n 0, 1) := by decide +kernel
theorem dX4_firstFault_56 : decode cX4_firstFault 56 = .ok (.aload_n 0, 1) := by decide +kernel
theorem dX4_firstFault_57 : decode cX4_firstFault 57 = .ok (.getfield 15, 3) := by decide +kernel
theorem dX4_firstFault_60 : decode cX4_firstFault 60 = .ok (.iconst 1, 1) := by decide +kernel
theorem dX4_firstFault_61 : decode cX4_firstFault 61 = .ok (.isub, 1) := by decide +kernel
theorem dX4_firstFault_62 : decode cX4_firstFault 62 = .ok (.invokevirtual 27, 3) := by decide +kernel
theorem dX4_firstFault_65 : decode cX4_firstFault 65 = .ok (.bipush 64, 2) := by decide +kernel
theorem dX4_firstFault_67 : decode cX4_firstFault 67 = .ok (.if_icmp .ne 7, 3) := by decide +kernel
theorem dX4_firstFault_70 : decode cX4_firstFault 70 = .ok (.iconst 1, 1) := by decide +kernel
theorem dX4_firstFault_71 : decode cX4_firstFault 71 = .ok (.goto 4, 3) := by decide +kernel
theorem dX4_firstFault_74 : decode cX4_firstFault 74 = .ok (.iconst 0, 1) := by decide +kernel
theorem dX4_firstFault_75 : decode cX4_firstFault 75 = .ok (.istore 4, 2) := by decide +kernel
theorem dX4_firstFault_77 : decode cX4_firstFault 77 = .ok (.aload_n 0, 1) := by decide +kernel
theorem dX4_firstFault_78 : decode cX4_firstFault 78 = .ok (.iconst 0, 1) := by decide +kernel
theorem dX4_firstFault_79 : decode cX4_firstFault 79 = .ok (.invokevirtual 27, 3) := by decide +kernel
theorem dX4_firstFault_82 : decode cX4_firstFault 82 = .ok (.bipush 43, 2) := by decide +kernel
theorem dX4_firstFault_84 : decode cX4_firstFault 84 = .ok (.if_icmp .ne 11, 3) := by decide +kernel
theorem dX4_firstFault_87 : decode cX4_firstFault 87 = .ok (.iload_n 3, 1) := by decide +kernel
theorem dX4_firstFault_88 : decode cX4_firstFault 88 = .ok (.ifCond .ne 7, 3) := by decide +kernel
theorem dX4_firstFault_91 : decode cX4_firstFault 91 = .ok (.iconst 1, 1) := by decide +kernel
theorem dX4_firstFault_92 : decode cX4_firstFault 92 = .ok (.goto 4, 3) := by decide +kernel
theorem dX4_firstFault_95 : decode cX4_firstFault 95 = .ok (.iconst 0, 1) := by decide +kernel
theorem dX4_firstFault_96 : decode cX4_firstFault 96 = .ok (.istore 5, 2) := by decide +kernel
theorem dX4_firstFault_98 : decode cX4_firstFault 98 = .ok (.aload_n 0, 1) := by decide +kernel
theorem dX4_firstFault_99 : decode cX4_firstFault 99 = .ok (.getfield 15, 3) := by decide +kernel
theorem dX4_firstFault_102 : decode cX4_firstFault 102 = .ok (.ifCond .eq 13, 3) := by decide +kernel
theorem dX4_firstFault_105 : decode cX4_firstFault 105 = .ok (.iload 4, 2) := by decide +kernel
theorem dX4_firstFault_107 : decode cX4_firstFault 107 = .ok (.ifCond .ne 8, 3) := by decide +kernel
theorem dX4_firstFault_110 : decode cX4_firstFault 110 = .ok (.iload 5, 2) := by decide +kernel
theorem dX4_firstFault_112 : decode cX4_firstFault 112 = .ok (.ifCond .eq 10, 3) := by decide +kernel
theorem dX4_firstFault_115 : decode cX4_firstFault 115 = .ok (.aload_n 0, 1) := by decide +kernel
theorem dX4_firstFault_116 : decode cX4_firstFault 116 = .ok (.getfield 15, 3) := by decide +kernel
theorem dX4_firstFault_119 : decode cX4_firstFault 119 = .ok (.goto 5, 3) := by decide +kernel
theorem dX4_firstFault_122 : decode cX4_firstFault 122 = .ok (.bipush (-9), 2) := by decide +kernel
theorem dX4_firstFault_124 : decode cX4_firstFault 124 = .ok (.ireturn, 1) := by decide +kernel
set_option maxRecDepth 20000 in
theorem ggX4_mayStand_X4_codeAt : GoodIn wsX4_mayStand wsX4_codeAt := goodIn_r _ [5, 6, 7, 8, 9, 10, 23, 24] (by decide +kernel) (by decide +kernel)
set_option maxRecDepth 20000 in
theorem gX4_mayStand_X4_codeAt : GoodIn wsX4_mayStand (wsV RX4 27 RX4 yX4_codeAt wsX4_codeAt) := goodIn_app (goodIn_of _ (by decide +kernel)) ggX4_mayStand_X4_codeAt
set_option maxRecDepth 20000 in
theorem ggX4_mayStand_X2_isName : GoodIn wsX4_mayStand wsX2_isName := goodIn_r _ [15, 16, 17, 18, 14, 19, 20, 21, 9, 22, 25, 26] (by decide +kernel) (by decide +kernel)
set_option maxRecDepth 20000 in
theorem gX4_mayStand_X2_isName : GoodIn wsX4_mayStand (wsV RX4 31 RX2 yX2_isName wsX2_isName) := goodIn_app (goodIn_of _ (by decide +kernel)) ggX4_mayStand_X2_isName
theorem dX4_mayStand_0 : decode cX4_mayStand 0 = .ok (.aload_n 0, 1) := by decide +kernel
theorem dX4_mayStand_1 : decode cX4_mayStand 1 = .ok (.iload_n 1, 1) := by decide +kernel
theorem dX4_mayStand_2 : decode cX4_mayStand 2 = .ok (.invokevirtual 27, 3) := by decide +kernel
theorem dX4_mayStand_5 : decode cX4_mayStand 5 = .ok (.istore 4, 2) := by decide +kernel
theorem dX4_mayStand_7 : decode cX4_mayStand 7 = .ok (.aload_n 0, 1) := by decide +kernel
theorem dX4_mayStand_8 : decode cX4_mayStand 8 = .ok (.iload_n 1, 1) := by decide +kernel
theorem dX4_mayStand_9 : decode cX4_mayStand 9 = .ok (.iconst 1, 1) := by decide +kernel
theorem dX4_mayStand_10 : decode cX4_mayStand 10 = .ok (.isub, 1) := by decide +kernel
theorem dX4_mayStand_11 : decode cX4_mayStand 11 = .ok (.invokevirtual 27, 3) := by decide +kernel
theorem dX4_mayStand_14 : decode cX4_mayStand 14 = .ok (.istore 5, 2) := by decide +kernel
theorem dX4_mayStand_16 : decode cX4_mayStand 16 = .ok (.iload 5, 2) := by decide +kernel
theorem dX4_mayStand_18 : decode cX4_mayStand 18 = .ok (.bipush 64, 2) := by decide +kernel
theorem dX4_mayStand_20 : decode cX4_mayStand 20 = .ok (.if_icmp .ne 10, 3) := by decide +kernel
theorem dX4_mayStand_23 : decode cX4_mayStand 23 = .ok (.aload_n 2, 1) := by decide +kernel
theorem dX4_mayStand_24 : decode cX4_mayStand 24 = .ok (.iload 4, 2) := by decide +kernel
theorem dX4_mayStand_26 : decode cX4_mayStand 26 = .ok (.invokevirtual 31, 3) := by decide +kernel
theorem dX4_mayStand_29 : decode cX4_mayStand 29 = .ok (.ireturn, 1) := by decide +kernel
theorem dX4_mayStand_30 : decode cX4_mayStand 30 = .ok (.iload 4, 2) := by decide +kernel
theorem dX4_mayStand_32 : decode cX4_mayStand 32 = .ok (.lookupswitch 97 #[(43, 68), (64, 82), (104, 95), (111, 95), (113, 95), (115, 95), (118, 95)], 68) := by decide +kernel
theorem dX4_mayStand_100 : decode cX4_mayStand 100 = .ok (.iload_n 1, 1) := by decide +kernel
theorem dX4_mayStand_101 : decode cX4_mayStand 101 = .ok (.ifCond .ne 11, 3) := by decide +kernel
theorem dX4_mayStand_104 : decode cX4_mayStand 104 = .ok (.iload_n 3, 1) := by decide +kernel
theorem dX4_mayStand_105 : decode cX4_mayStand 105 = .ok (.ifCond .eq 7, 3) := by decide +kernel
theorem dX4_mayStand_108 : decode cX4_mayStand 108 = .ok (.iconst 1, 1) := by decide +kernel
theorem dX4_mayStand_109 : decode cX4_mayStand 109 = .ok (.goto 4, 3) := by decide +kernel
theorem dX4_mayStand_112 : decode cX4_mayStand 112 = .ok (.iconst 0, 1) := by decide +kernel
theorem dX4_mayStand_113 : decode cX4_mayStand 113 = .ok (.ireturn, 1) := by decide +kernel
theorem dX4_mayStand_114 : decode cX4_mayStand 114 = .ok (.iload 5, 2) := by decide +kernel
theorem dX4_mayStand_116 : decode cX4_mayStand 116 = .ok (.bipush 113, 2) := by decide +kernel
theorem dX4_mayStand_118 : decode cX4_mayStand 118 = .ok (.if_icmp .ne 7, 3) := by decide +kernel
theorem dX4_mayStand_121 : decode cX4_mayStand 121 = .ok (.iconst 1, 1) := by decide +kernel
theorem dX4_mayStand_122 : decode cX4_mayStand 122 = .ok (.goto 4, 3) := by decide +kernel
theorem dX4_mayStand_125 : decode cX4_mayStand 125 = .ok (.iconst 0, 1) := by decide +kernel
theorem dX4_mayStand_126 : decode cX4_mayStand 126 = .ok (.ireturn, 1) := by decide +kernel
theorem dX4_mayStand_127 : decode cX4_mayStand 127 = .ok (.iconst 1, 1) := by decide +kernel
theorem dX4_mayStand_128 : decode cX4_mayStand 128 = .ok (.ireturn, 1) := by decide +kernel
theorem dX4_mayStand_129 : decode cX4_mayStand 129 = .ok (.aload_n 2, 1) := by decide +kernel
theorem dX4_mayStand_130 : decode cX4_mayStand 130 = .ok (.iload 4, 2) := by decide +kernel
theorem dX4_mayStand_132 : decode cX4_mayStand 132 = .ok (.invokevirtual 31, 3) := by decide +kernel
theorem dX4_mayStand_135 : decode cX4_mayStand 135 = .ok (.ireturn, 1) := by decide +kernel
set_option maxRecDepth 20000 in
theorem ggX5_init_X2_init : GoodIn wsX5_init wsX2_init := goodIn_r _ [28, 29, 2, 3, 20, 30, 31, 85, 86] (by decide +kernel) (by decide +kernel)
set_option maxRecDepth 20000 in
theorem gX5_init_X2_init : GoodIn wsX5_init (wsX2_init) := ggX5_init_X2_init
set_option maxRecDepth 20000 in
theorem ggX5_init_X4_init : GoodIn wsX5_init wsX4_init := goodIn_r _ [34, 35, 2, 3, 20, 36, 37, 96, 97] (by decide +kernel) (by decide +kernel)
set_option maxRecDepth 20000 in
theorem gX5_init_X4_init : GoodIn wsX5_init (wsX4_init) := ggX5_init_X4_init
set_option maxRecDepth 20000 in
theorem ggX5_init_X3_init : GoodIn wsX5_init wsX3_init := goodIn_r _ [40, 41, 2, 3, 42, 43, 44, 45, 46, 47, 48, 49, 50, 51, 20, 52, 53, 54, 55, 56, 57, 58, 59, 60, 61, 62, 63, 64, 65, 66, 67, 68, 69, 98, 99, 100, 110, 111, 112, 113, 114, 115, 116, 117, 118, 119, 120, 121, 122, 123] (by decide +kernel) (by decide +kernel)
set_option maxRecDepth 20000 in
theorem gX5_init_X3_init : GoodIn wsX5_init (wsX3_init) := ggX5_init_X3_init
set_option maxRecDepth 20000 in
theorem ggX5_init_X0_init : GoodIn wsX5_init wsX0_init := goodIn_r _ [72, 73, 2, 3, 74, 75, 20, 76, 77, 78, 79, 80, 81, 82, 83, 84, 101, 102, 103, 104, 105, 106, 107, 108, 109] (by decide +kernel) (by decide +kernel)
set_option maxRecDepth 20000 in
theorem gX5_init_X0_init : GoodIn wsX5_init (wsX0_init) := ggX5_init_X0_init
theorem dX5_init_0 : decode cX5_init 0 = .ok (.aload_n 0, 1) := by decide +kernel
theorem dX5_init_1 : decode cX5_init 1 = .ok (.invokespecial 3, 3) := by decide +kernel
theorem dX5_init_4 : decode cX5_init 4 = .ok (.aload_n 0, 1) := by decide +kernel
theorem dX5_init_5 : decode cX5_init 5 = .ok (.new 9, 3) := by decide +kernel
theorem dX5_init_8 : decode cX5_init 8 = .ok (.dup, 1) := by decide +kernel
theorem dX5_init_9 : decode cX5_init 9 = .ok (.invokespecial 11, 3) := by decide +kernel
theorem dX5_init_12 : decode cX5_init 12 = .ok (.putfield 12, 3) := by decide +kernel
theorem dX5_init_15 : decode cX5_init 15 = .ok (.aload_n 0, 1) := by decide +kernel
theorem dX5_init_16 : decode cX5_init 16 = .ok (.new 16, 3) := by decide +kernel
theorem dX5_init_19 : decode cX5_init 19 = .ok (.dup, 1) := by decide +kernel
