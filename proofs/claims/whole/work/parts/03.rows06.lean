theorem dX6_has_2 : decode cX6_has 2 = .ok (.ishr, 1) := by decide +kernel
theorem dX6_has_3 : decode cX6_has 3 = .ok (.iconst 1, 1) := by decide +kernel
theorem dX6_has_4 : decode cX6_has 4 = .ok (.iand, 1) := by decide +kernel
theorem dX6_has_5 : decode cX6_has 5 = .ok (.iconst 1, 1) := by decide +kernel
theorem dX6_has_6 : decode cX6_has 6 = .ok (.if_icmp .ne 7, 3) := by decide +kernel
theorem dX6_has_9 : decode cX6_has 9 = .ok (.iconst 1, 1) := by decide +kernel
theorem dX6_has_10 : decode cX6_has 10 = .ok (.goto 4, 3) := by decide +kernel
theorem dX6_has_13 : decode cX6_has 13 = .ok (.iconst 0, 1) := by decide +kernel
theorem dX6_has_14 : decode cX6_has 14 = .ok (.ireturn, 1) := by decide +kernel
theorem dX6_size_0 : decode cX6_size 0 = .ok (.iconst 0, 1) := by decide +kernel
theorem dX6_size_1 : decode cX6_size 1 = .ok (.istore_n 1, 1) := by decide +kernel
theorem dX6_size_2 : decode cX6_size 2 = .ok (.iconst 0, 1) := by decide +kernel
theorem dX6_size_3 : decode cX6_size 3 = .ok (.istore_n 2, 1) := by decide +kernel
theorem dX6_size_4 : decode cX6_size 4 = .ok (.iload_n 2, 1) := by decide +kernel
theorem dX6_size_5 : decode cX6_size 5 = .ok (.bipush 8, 2) := by decide +kernel
theorem dX6_size_7 : decode cX6_size 7 = .ok (.if_icmp .ge 17, 3) := by decide +kernel
theorem dX6_size_10 : decode cX6_size 10 = .ok (.iload_n 1, 1) := by decide +kernel
theorem dX6_size_11 : decode cX6_size 11 = .ok (.iload_n 0, 1) := by decide +kernel
theorem dX6_size_12 : decode cX6_size 12 = .ok (.iload_n 2, 1) := by decide +kernel
theorem dX6_size_13 : decode cX6_size 13 = .ok (.ishr, 1) := by decide +kernel
theorem dX6_size_14 : decode cX6_size 14 = .ok (.iconst 1, 1) := by decide +kernel
theorem dX6_size_15 : decode cX6_size 15 = .ok (.iand, 1) := by decide +kernel
theorem dX6_size_16 : decode cX6_size 16 = .ok (.iadd, 1) := by decide +kernel
theorem dX6_size_17 : decode cX6_size 17 = .ok (.istore_n 1, 1) := by decide +kernel
theorem dX6_size_18 : decode cX6_size 18 = .ok (.iinc 2 1, 3) := by decide +kernel
theorem dX6_size_21 : decode cX6_size 21 = .ok (.goto (-17), 3) := by decide +kernel
theorem dX6_size_24 : decode cX6_size 24 = .ok (.iload_n 1, 1) := by decide +kernel
theorem dX6_size_25 : decode cX6_size 25 = .ok (.ireturn, 1) := by decide +kernel
set_option maxRecDepth 20000 in
theorem ggX6_isThere_X6_within : GoodIn wsX6_isThere wsX6_within := goodIn_r _ [5] (by decide +kernel) (by decide +kernel)
set_option maxRecDepth 20000 in
theorem gX6_isThere_X6_within : GoodIn wsX6_isThere (va_wsS RX6 64 yX6_within wsX6_within) := goodIn_app (goodIn_of _ (by decide +kernel)) ggX6_isThere_X6_within
theorem dX6_isThere_0 : decode cX6_isThere 0 = .ok (.iload_n 1, 1) := by decide +kernel
theorem dX6_isThere_1 : decode cX6_isThere 1 = .ok (.iconst 0, 1) := by decide +kernel
theorem dX6_isThere_2 : decode cX6_isThere 2 = .ok (.bipush 7, 2) := by decide +kernel
theorem dX6_isThere_4 : decode cX6_isThere 4 = .ok (.invokestatic 64, 3) := by decide +kernel
theorem dX6_isThere_7 : decode cX6_isThere 7 = .ok (.ifCond .eq 18, 3) := by decide +kernel
theorem dX6_isThere_10 : decode cX6_isThere 10 = .ok (.aload_n 0, 1) := by decide +kernel
theorem dX6_isThere_11 : decode cX6_isThere 11 = .ok (.getfield 7, 3) := by decide +kernel
theorem dX6_isThere_14 : decode cX6_isThere 14 = .ok (.iload_n 1, 1) := by decide +kernel
theorem dX6_isThere_15 : decode cX6_isThere 15 = .ok (.iaload, 1) := by decide +kernel
theorem dX6_isThere_16 : decode cX6_isThere 16 = .ok (.bipush (-9), 2) := by decide +kernel
theorem dX6_isThere_18 : decode cX6_isThere 18 = .ok (.if_icmp .eq 7, 3) := by decide +kernel
theorem dX6_isThere_21 : decode cX6_isThere 21 = .ok (.iconst 1, 1) := by decide +kernel
theorem dX6_isThere_22 : decode cX6_isThere 22 = .ok (.goto 4, 3) := by decide +kernel
theorem dX6_isThere_25 : decode cX6_isThere 25 = .ok (.iconst 0, 1) := by decide +kernel
theorem dX6_isThere_26 : decode cX6_isThere 26 = .ok (.ireturn, 1) := by decide +kernel
theorem dX6_there_0 : decode cX6_there 0 = .ok (.iconst 0, 1) := by decide +kernel
theorem dX6_there_1 : decode cX6_there 1 = .ok (.istore_n 1, 1) := by decide +kernel
theorem dX6_there_2 : decode cX6_there 2 = .ok (.iconst 0, 1) := by decide +kernel
theorem dX6_there_3 : decode cX6_there 3 = .ok (.istore_n 2, 1) := by decide +kernel
theorem dX6_there_4 : decode cX6_there 4 = .ok (.iload_n 2, 1) := by decide +kernel
theorem dX6_there_5 : decode cX6_there 5 = .ok (.bipush 8, 2) := by decide +kernel
theorem dX6_there_7 : decode cX6_there 7 = .ok (.if_icmp .ge 30, 3) := by decide +kernel
theorem dX6_there_10 : decode cX6_there 10 = .ok (.iload_n 1, 1) := by decide +kernel
theorem dX6_there_11 : decode cX6_there 11 = .ok (.aload_n 0, 1) := by decide +kernel
theorem dX6_there_12 : decode cX6_there 12 = .ok (.getfield 7, 3) := by decide +kernel
theorem dX6_there_15 : decode cX6_there 15 = .ok (.iload_n 2, 1) := by decide +kernel
theorem dX6_there_16 : decode cX6_there 16 = .ok (.iaload, 1) := by decide +kernel
theorem dX6_there_17 : decode cX6_there 17 = .ok (.bipush (-9), 2) := by decide +kernel
theorem dX6_there_19 : decode cX6_there 19 = .ok (.if_icmp .eq 9, 3) := by decide +kernel
theorem dX6_there_22 : decode cX6_there 22 = .ok (.iconst 1, 1) := by decide +kernel
theorem dX6_there_23 : decode cX6_there 23 = .ok (.iload_n 2, 1) := by decide +kernel
theorem dX6_there_24 : decode cX6_there 24 = .ok (.ishl, 1) := by decide +kernel
theorem dX6_there_25 : decode cX6_there 25 = .ok (.goto 4, 3) := by decide +kernel
theorem dX6_there_28 : decode cX6_there 28 = .ok (.iconst 0, 1) := by decide +kernel
theorem dX6_there_29 : decode cX6_there 29 = .ok (.ior, 1) := by decide +kernel
theorem dX6_there_30 : decode cX6_there 30 = .ok (.istore_n 1, 1) := by decide +kernel
theorem dX6_there_31 : decode cX6_there 31 = .ok (.iinc 2 1, 3) := by decide +kernel
theorem dX6_there_34 : decode cX6_there 34 = .ok (.goto (-30), 3) := by decide +kernel
theorem dX6_there_37 : decode cX6_there 37 = .ok (.iload_n 1, 1) := by decide +kernel
theorem dX6_there_38 : decode cX6_there 38 = .ok (.ireturn, 1) := by decide +kernel
set_option maxRecDepth 20000 in
theorem ggX6_person_X6_within : GoodIn wsX6_person wsX6_within := goodIn_r _ [5] (by decide +kernel) (by decide +kernel)
set_option maxRecDepth 20000 in
theorem gX6_person_X6_within : GoodIn wsX6_person (va_wsS RX6 64 yX6_within wsX6_within) := goodIn_app (goodIn_of _ (by decide +kernel)) ggX6_person_X6_within
theorem dX6_person_0 : decode cX6_person 0 = .ok (.iload_n 1, 1) := by decide +kernel
theorem dX6_person_1 : decode cX6_person 1 = .ok (.iconst 0, 1) := by decide +kernel
theorem dX6_person_2 : decode cX6_person 2 = .ok (.bipush 7, 2) := by decide +kernel
theorem dX6_person_4 : decode cX6_person 4 = .ok (.invokestatic 64, 3) := by decide +kernel
theorem dX6_person_7 : decode cX6_person 7 = .ok (.ifCond .ne 5, 3) := by decide +kernel
theorem dX6_person_10 : decode cX6_person 10 = .ok (.iconst (-1), 1) := by decide +kernel
theorem dX6_person_11 : decode cX6_person 11 = .ok (.ireturn, 1) := by decide +kernel
theorem dX6_person_12 : decode cX6_person 12 = .ok (.iload_n 2, 1) := by decide +kernel
theorem dX6_person_13 : decode cX6_person 13 = .ok (.iconst 0, 1) := by decide +kernel
theorem dX6_person_14 : decode cX6_person 14 = .ok (.iconst 2, 1) := by decide +kernel
theorem dX6_person_15 : decode cX6_person 15 = .ok (.invokestatic 64, 3) := by decide +kernel
theorem dX6_person_18 : decode cX6_person 18 = .ok (.ifCond .ne 6, 3) := by decide +kernel
theorem dX6_person_21 : decode cX6_person 21 = .ok (.bipush (-2), 2) := by decide +kernel
theorem dX6_person_23 : decode cX6_person 23 = .ok (.ireturn, 1) := by decide +kernel
theorem dX6_person_24 : decode cX6_person 24 = .ok (.aload_n 0, 1) := by decide +kernel
theorem dX6_person_25 : decode cX6_person 25 = .ok (.getfield 7, 3) := by decide +kernel
theorem dX6_person_28 : decode cX6_person 28 = .ok (.iload_n 1, 1) := by decide +kernel
theorem dX6_person_29 : decode cX6_person 29 = .ok (.iaload, 1) := by decide +kernel
theorem dX6_person_30 : decode cX6_person 30 = .ok (.istore_n 3, 1) := by decide +kernel
theorem dX6_person_31 : decode cX6_person 31 = .ok (.aload_n 0, 1) := by decide +kernel
theorem dX6_person_32 : decode cX6_person 32 = .ok (.getfield 7, 3) := by decide +kernel
theorem dX6_person_35 : decode cX6_person 35 = .ok (.iload_n 1, 1) := by decide +kernel
theorem dX6_person_36 : decode cX6_person 36 = .ok (.iload_n 2, 1) := by decide +kernel
theorem dX6_person_37 : decode cX6_person 37 = .ok (.iastore, 1) := by decide +kernel
theorem dX6_person_38 : decode cX6_person 38 = .ok (.iload_n 3, 1) := by decide +kernel
theorem dX6_person_39 : decode cX6_person 39 = .ok (.ireturn, 1) := by decide +kernel
theorem dX6_isNamed_0 : decode cX6_isNamed 0 = .ok (.iconst 0, 1) := by decide +kernel
theorem dX6_isNamed_1 : decode cX6_isNamed 1 = .ok (.istore_n 2, 1) := by decide +kernel
theorem dX6_isNamed_2 : decode cX6_isNamed 2 = .ok (.iload_n 2, 1) := by decide +kernel
theorem dX6_isNamed_3 : decode cX6_isNamed 3 = .ok (.aload_n 0, 1) := by decide +kernel
theorem dX6_isNamed_4 : decode cX6_isNamed 4 = .ok (.getfield 68, 3) := by decide +kernel
theorem dX6_isNamed_7 : decode cX6_isNamed 7 = .ok (.if_icmp .ge 44, 3) := by decide +kernel
theorem dX6_isNamed_10 : decode cX6_isNamed 10 = .ok (.iconst 0, 1) := by decide +kernel
theorem dX6_isNamed_11 : decode cX6_isNamed 11 = .ok (.istore_n 3, 1) := by decide +kernel
theorem dX6_isNamed_12 : decode cX6_isNamed 12 = .ok (.iload_n 3, 1) := by decide +kernel
theorem dX6_isNamed_13 : decode cX6_isNamed 13 = .ok (.aload_n 0, 1) := by decide +kernel
theorem dX6_isNamed_14 : decode cX6_isNamed 14 = .ok (.getfield 20, 3) := by decide +kernel
theorem dX6_isNamed_17 : decode cX6_isNamed 17 = .ok (.iload_n 2, 1) := by decide +kernel
theorem dX6_isNamed_18 : decode cX6_isNamed 18 = .ok (.iaload, 1) := by decide +kernel
theorem dX6_isNamed_19 : decode cX6_isNamed 19 = .ok (.if_icmp .ge 26, 3) := by decide +kernel
theorem dX6_isNamed_22 : decode cX6_isNamed 22 = .ok (.aload_n 0, 1) := by decide +kernel
theorem dX6_isNamed_23 : decode cX6_isNamed 23 = .ok (.getfield 26, 3) := by decide +kernel
theorem dX6_isNamed_26 : decode cX6_isNamed 26 = .ok (.bipush 12, 2) := by decide +kernel
theorem dX6_isNamed_28 : decode cX6_isNamed 28 = .ok (.iload_n 2, 1) := by decide +kernel
theorem dX6_isNamed_29 : decode cX6_isNamed 29 = .ok (.imul, 1) := by decide +kernel
theorem dX6_isNamed_30 : decode cX6_isNamed 30 = .ok (.iload_n 3, 1) := by decide +kernel
theorem dX6_isNamed_31 : decode cX6_isNamed 31 = .ok (.iadd, 1) := by decide +kernel
theorem dX6_isNamed_32 : decode cX6_isNamed 32 = .ok (.iaload, 1) := by decide +kernel
theorem dX6_isNamed_33 : decode cX6_isNamed 33 = .ok (.iload_n 1, 1) := by decide +kernel
theorem dX6_isNamed_34 : decode cX6_isNamed 34 = .ok (.if_icmp .ne 5, 3) := by decide +kernel
theorem dX6_isNamed_37 : decode cX6_isNamed 37 = .ok (.iconst 1, 1) := by decide +kernel
theorem dX6_isNamed_38 : decode cX6_isNamed 38 = .ok (.ireturn, 1) := by decide +kernel
theorem dX6_isNamed_39 : decode cX6_isNamed 39 = .ok (.iinc 3 1, 3) := by decide +kernel
theorem dX6_isNamed_42 : decode cX6_isNamed 42 = .ok (.goto (-30), 3) := by decide +kernel
theorem dX6_isNamed_45 : decode cX6_isNamed 45 = .ok (.iinc 2 1, 3) := by decide +kernel
theorem dX6_isNamed_48 : decode cX6_isNamed 48 = .ok (.goto (-46), 3) := by decide +kernel
theorem dX6_isNamed_51 : decode cX6_isNamed 51 = .ok (.iconst 0, 1) := by decide +kernel
theorem dX6_isNamed_52 : decode cX6_isNamed 52 = .ok (.ireturn, 1) := by decide +kernel
set_option maxRecDepth 20000 in
theorem ggX6_away_X6_isThere : GoodIn wsX6_away wsX6_isThere := goodIn_r _ [8, 2, 9, 10, 7, 11, 69, 70, 71, 72, 73, 74, 75, 76, 77, 78, 79, 80, 81, 82, 83, 84, 85, 86, 87, 88, 89] (by decide +kernel) (by decide +kernel)
set_option maxRecDepth 20000 in
theorem gX6_away_X6_isThere : GoodIn wsX6_away (wsV RX6 71 RX6 yX6_isThere wsX6_isThere) := goodIn_app (goodIn_of _ (by decide +kernel)) ggX6_away_X6_isThere
set_option maxRecDepth 20000 in
theorem ggX6_away_X6_isNamed : GoodIn wsX6_away wsX6_isNamed := goodIn_r _ [15, 1, 16, 17, 69, 70, 71, 72, 73, 74, 75, 76, 77, 78, 79, 80, 81, 82, 83, 84, 85, 86, 87, 88, 89] (by decide +kernel) (by decide +kernel)
set_option maxRecDepth 20000 in
theorem gX6_away_X6_isNamed : GoodIn wsX6_away (wsV RX6 75 RX6 yX6_isNamed wsX6_isNamed) := goodIn_app (goodIn_of _ (by decide +kernel)) ggX6_away_X6_isNamed
set_option maxRecDepth 20000 in
theorem ggX6_away_X6_speaks : GoodIn wsX6_away wsX6_speaks := goodIn_r _ [21, 22, 23, 24, 7, 25, 16, 26, 69, 70, 71, 72, 73, 74, 75, 76, 77, 78, 79, 80, 81, 82, 83, 84, 85, 86, 87, 88, 89] (by decide +kernel) (by decide +kernel)
set_option maxRecDepth 20000 in
theorem gX6_away_X6_speaks : GoodIn wsX6_away (wsV RX6 78 RX6 yX6_speaks wsX6_speaks) := goodIn_app (goodIn_of _ (by decide +kernel)) ggX6_away_X6_speaks
set_option maxRecDepth 20000 in
theorem ggX6_away_X6_ownOf : GoodIn wsX6_away wsX6_ownOf := goodIn_r _ [30, 31, 16, 17, 32, 33, 34, 35, 36, 7, 37, 2, 38, 39, 40, 41, 26, 9, 10, 11, 42, 43, 44, 45, 46, 47, 48, 49, 50, 51, 52, 53, 54, 55, 56, 57, 58, 59, 60, 61, 62, 63, 64, 65, 66, 67, 68, 69, 70, 71, 72, 73, 74, 75, 76, 77, 78, 79, 80, 81, 82, 83, 84, 85, 86, 87, 88, 89] (by decide +kernel) (by decide +kernel)
set_option maxRecDepth 20000 in
theorem gX6_away_X6_ownOf : GoodIn wsX6_away (wsV RX6 81 RX6 yX6_ownOf wsX6_ownOf) := goodIn_app (goodIn_of _ (by decide +kernel)) ggX6_away_X6_ownOf
set_option maxRecDepth 20000 in
theorem ggX6_away_X6_has : GoodIn wsX6_away wsX6_has := goodIn_r _ [44] (by decide +kernel) (by decide +kernel)
set_option maxRecDepth 20000 in
theorem gX6_away_X6_has : GoodIn wsX6_away (va_wsS RX6 85 yX6_has wsX6_has) := goodIn_app (goodIn_of _ (by decide +kernel)) ggX6_away_X6_has
theorem dX6_away_0 : decode cX6_away 0 = .ok (.aload_n 0, 1) := by decide +kernel
theorem dX6_away_1 : decode cX6_away 1 = .ok (.iload_n 1, 1) := by decide +kernel
theorem dX6_away_2 : decode cX6_away 2 = .ok (.invokevirtual 71, 3) := by decide +kernel
theorem dX6_away_5 : decode cX6_away 5 = .ok (.ifCond .ne 5, 3) := by decide +kernel
theorem dX6_away_8 : decode cX6_away 8 = .ok (.iconst (-1), 1) := by decide +kernel
theorem dX6_away_9 : decode cX6_away 9 = .ok (.ireturn, 1) := by decide +kernel
theorem dX6_away_10 : decode cX6_away 10 = .ok (.aload_n 0, 1) := by decide +kernel
theorem dX6_away_11 : decode cX6_away 11 = .ok (.iload_n 1, 1) := by decide +kernel
theorem dX6_away_12 : decode cX6_away 12 = .ok (.invokevirtual 75, 3) := by decide +kernel
theorem dX6_away_15 : decode cX6_away 15 = .ok (.ifCond .eq 6, 3) := by decide +kernel
theorem dX6_away_18 : decode cX6_away 18 = .ok (.bipush (-3), 2) := by decide +kernel
theorem dX6_away_20 : decode cX6_away 20 = .ok (.ireturn, 1) := by decide +kernel
theorem dX6_away_21 : decode cX6_away 21 = .ok (.iconst 0, 1) := by decide +kernel
theorem dX6_away_22 : decode cX6_away 22 = .ok (.istore_n 2, 1) := by decide +kernel
theorem dX6_away_23 : decode cX6_away 23 = .ok (.iconst 0, 1) := by decide +kernel
theorem dX6_away_24 : decode cX6_away 24 = .ok (.istore_n 3, 1) := by decide +kernel
theorem dX6_away_25 : decode cX6_away 25 = .ok (.iload_n 3, 1) := by decide +kernel
theorem dX6_away_26 : decode cX6_away 26 = .ok (.aload_n 0, 1) := by decide +kernel
theorem dX6_away_27 : decode cX6_away 27 = .ok (.getfield 68, 3) := by decide +kernel
theorem dX6_away_30 : decode cX6_away 30 = .ok (.if_icmp .ge 37, 3) := by decide +kernel
theorem dX6_away_33 : decode cX6_away 33 = .ok (.iload_n 2, 1) := by decide +kernel
theorem dX6_away_34 : decode cX6_away 34 = .ok (.aload_n 0, 1) := by decide +kernel
theorem dX6_away_35 : decode cX6_away 35 = .ok (.iload_n 3, 1) := by decide +kernel
theorem dX6_away_36 : decode cX6_away 36 = .ok (.invokevirtual 78, 3) := by decide +kernel
theorem dX6_away_39 : decode cX6_away 39 = .ok (.ifCond .eq 19, 3) := by decide +kernel
theorem dX6_away_42 : decode cX6_away 42 = .ok (.aload_n 0, 1) := by decide +kernel
theorem dX6_away_43 : decode cX6_away 43 = .ok (.iload_n 3, 1) := by decide +kernel
theorem dX6_away_44 : decode cX6_away 44 = .ok (.invokevirtual 81, 3) := by decide +kernel
theorem dX6_away_47 : decode cX6_away 47 = .ok (.iload_n 1, 1) := by decide +kernel
theorem dX6_away_48 : decode cX6_away 48 = .ok (.invokestatic 85, 3) := by decide +kernel
theorem dX6_away_51 : decode cX6_away 51 = .ok (.ifCond .eq 7, 3) := by decide +kernel
theorem dX6_away_54 : decode cX6_away 54 = .ok (.iconst 1, 1) := by decide +kernel
theorem dX6_away_55 : decode cX6_away 55 = .ok (.goto 4, 3) := by decide +kernel
theorem dX6_away_58 : decode cX6_away 58 = .ok (.iconst 0, 1) := by decide +kernel
theorem dX6_away_59 : decode cX6_away 59 = .ok (.iadd, 1) := by decide +kernel
theorem dX6_away_60 : decode cX6_away 60 = .ok (.istore_n 2, 1) := by decide +kernel
theorem dX6_away_61 : decode cX6_away 61 = .ok (.iinc 3 1, 3) := by decide +kernel
theorem dX6_away_64 : decode cX6_away 64 = .ok (.goto (-39), 3) := by decide +kernel
theorem dX6_away_67 : decode cX6_away 67 = .ok (.aload_n 0, 1) := by decide +kernel
theorem dX6_away_68 : decode cX6_away 68 = .ok (.getfield 7, 3) := by decide +kernel
theorem dX6_away_71 : decode cX6_away 71 = .ok (.iload_n 1, 1) := by decide +kernel
theorem dX6_away_72 : decode cX6_away 72 = .ok (.bipush (-9), 2) := by decide +kernel
theorem dX6_away_74 : decode cX6_away 74 = .ok (.iastore, 1) := by decide +kernel
theorem dX6_away_75 : decode cX6_away 75 = .ok (.aload_n 0, 1) := by decide +kernel
theorem dX6_away_76 : decode cX6_away 76 = .ok (.dup, 1) := by decide +kernel
theorem dX6_away_77 : decode cX6_away 77 = .ok (.getfield 89, 3) := by decide +kernel
theorem dX6_away_80 : decode cX6_away 80 = .ok (.iconst 1, 1) := by decide +kernel
theorem dX6_away_81 : decode cX6_away 81 = .ok (.iload_n 1, 1) := by decide +kernel
theorem dX6_away_82 : decode cX6_away 82 = .ok (.ishl, 1) := by decide +kernel
theorem dX6_away_83 : decode cX6_away 83 = .ok (.iconst (-1), 1) := by decide +kernel
theorem dX6_away_84 : decode cX6_away 84 = .ok (.ixor, 1) := by decide +kernel
theorem dX6_away_85 : decode cX6_away 85 = .ok (.iand, 1) := by decide +kernel
theorem dX6_away_86 : decode cX6_away 86 = .ok (.putfield 89, 3) := by decide +kernel
theorem dX6_away_89 : decode cX6_away 89 = .ok (.iload_n 2, 1) := by decide +kernel
theorem dX6_away_90 : decode cX6_away 90 = .ok (.ireturn, 1) := by decide +kernel
set_option maxRecDepth 20000 in
theorem ggX6_here_X6_within : GoodIn wsX6_here wsX6_within := goodIn_r _ [5] (by decide +kernel) (by decide +kernel)
set_option maxRecDepth 20000 in
theorem gX6_here_X6_within : GoodIn wsX6_here (va_wsS RX6 64 yX6_within wsX6_within) := goodIn_app (goodIn_of _ (by decide +kernel)) ggX6_here_X6_within
set_option maxRecDepth 20000 in
theorem ggX6_here_X6_there : GoodIn wsX6_here wsX6_there := goodIn_r _ [9, 10, 11, 12, 13, 14, 15, 16, 17, 18, 19, 20, 21, 22, 23, 24, 25, 26, 27, 28, 29, 30, 31] (by decide +kernel) (by decide +kernel)
set_option maxRecDepth 20000 in
theorem gX6_here_X6_there : GoodIn wsX6_here (wsV RX6 92 RX6 yX6_there wsX6_there) := goodIn_app (goodIn_of _ (by decide +kernel)) ggX6_here_X6_there
theorem dX6_here_0 : decode cX6_here 0 = .ok (.iload_n 1, 1) := by decide +kernel
theorem dX6_here_1 : decode cX6_here 1 = .ok (.iconst 0, 1) := by decide +kernel
theorem dX6_here_2 : decode cX6_here 2 = .ok (.sipush 255, 3) := by decide +kernel
theorem dX6_here_5 : decode cX6_here 5 = .ok (.invokestatic 64, 3) := by decide +kernel
theorem dX6_here_8 : decode cX6_here 8 = .ok (.ifCond .eq 14, 3) := by decide +kernel
theorem dX6_here_11 : decode cX6_here 11 = .ok (.iload_n 1, 1) := by decide +kernel
theorem dX6_here_12 : decode cX6_here 12 = .ok (.aload_n 0, 1) := by decide +kernel
theorem dX6_here_13 : decode cX6_here 13 = .ok (.invokevirtual 92, 3) := by decide +kernel
theorem dX6_here_16 : decode cX6_here 16 = .ok (.iconst (-1), 1) := by decide +kernel
theorem dX6_here_17 : decode cX6_here 17 = .ok (.ixor, 1) := by decide +kernel
theorem dX6_here_18 : decode cX6_here 18 = .ok (.iand, 1) := by decide +kernel
theorem dX6_here_19 : decode cX6_here 19 = .ok (.ifCond .eq 6, 3) := by decide +kernel
theorem dX6_here_22 : decode cX6_here 22 = .ok (.bipush (-2), 2) := by decide +kernel
theorem dX6_here_24 : decode cX6_here 24 = .ok (.ireturn, 1) := by decide +kernel
theorem dX6_here_25 : decode cX6_here 25 = .ok (.aload_n 0, 1) := by decide +kernel
theorem dX6_here_26 : decode cX6_here 26 = .ok (.getfield 89, 3) := by decide +kernel
theorem dX6_here_29 : decode cX6_here 29 = .ok (.istore_n 2, 1) := by decide +kernel
theorem dX6_here_30 : decode cX6_here 30 = .ok (.aload_n 0, 1) := by decide +kernel
theorem dX6_here_31 : decode cX6_here 31 = .ok (.iload_n 1, 1) := by decide +kernel
theorem dX6_here_32 : decode cX6_here 32 = .ok (.putfield 89, 3) := by decide +kernel
theorem dX6_here_35 : decode cX6_here 35 = .ok (.iload_n 2, 1) := by decide +kernel
theorem dX6_here_36 : decode cX6_here 36 = .ok (.ireturn, 1) := by decide +kernel
set_option maxRecDepth 20000 in
theorem ggX6_rules_X6_within : GoodIn wsX6_rules wsX6_within := goodIn_r _ [5] (by decide +kernel) (by decide +kernel)
set_option maxRecDepth 20000 in
theorem gX6_rules_X6_within : GoodIn wsX6_rules (va_wsS RX6 64 yX6_within wsX6_within) := goodIn_app (goodIn_of _ (by decide +kernel)) ggX6_rules_X6_within
theorem dX6_rules_0 : decode cX6_rules 0 = .ok (.iload_n 1, 1) := by decide +kernel
theorem dX6_rules_1 : decode cX6_rules 1 = .ok (.iconst 0, 1) := by decide +kernel
theorem dX6_rules_2 : decode cX6_rules 2 = .ok (.bipush 15, 2) := by decide +kernel
theorem dX6_rules_4 : decode cX6_rules 4 = .ok (.invokestatic 64, 3) := by decide +kernel
theorem dX6_rules_7 : decode cX6_rules 7 = .ok (.ifCond .ne 6, 3) := by decide +kernel
theorem dX6_rules_10 : decode cX6_rules 10 = .ok (.bipush (-2), 2) := by decide +kernel
theorem dX6_rules_12 : decode cX6_rules 12 = .ok (.ireturn, 1) := by decide +kernel
theorem dX6_rules_13 : decode cX6_rules 13 = .ok (.aload_n 0, 1) := by decide +kernel
theorem dX6_rules_14 : decode cX6_rules 14 = .ok (.getfield 13, 3) := by decide +kernel
theorem dX6_rules_17 : decode cX6_rules 17 = .ok (.istore_n 2, 1) := by decide +kernel
theorem dX6_rules_18 : decode cX6_rules 18 = .ok (.aload_n 0, 1) := by decide +kernel
theorem dX6_rules_19 : decode cX6_rules 19 = .ok (.iload_n 1, 1) := by decide +kernel
theorem dX6_rules_20 : decode cX6_rules 20 = .ok (.putfield 13, 3) := by decide +kernel
theorem dX6_rules_23 : decode cX6_rules 23 = .ok (.iload_n 2, 1) := by decide +kernel
theorem dX6_rules_24 : decode cX6_rules 24 = .ok (.ireturn, 1) := by decide +kernel
set_option maxRecDepth 20000 in
theorem ggX6_key_X6_within : GoodIn wsX6_key wsX6_within := goodIn_r _ [6] (by decide +kernel) (by decide +kernel)
set_option maxRecDepth 20000 in
theorem gX6_key_X6_within : GoodIn wsX6_key (va_wsS RX6 64 yX6_within wsX6_within) := goodIn_app (goodIn_of _ (by decide +kernel)) ggX6_key_X6_within
theorem dX6_key_0 : decode cX6_key 0 = .ok (.iload_n 1, 1) := by decide +kernel
theorem dX6_key_1 : decode cX6_key 1 = .ok (.iconst 0, 1) := by decide +kernel
theorem dX6_key_2 : decode cX6_key 2 = .ok (.bipush 127, 2) := by decide +kernel
theorem dX6_key_4 : decode cX6_key 4 = .ok (.invokestatic 64, 3) := by decide +kernel
theorem dX6_key_7 : decode cX6_key 7 = .ok (.ifCond .ne 6, 3) := by decide +kernel
theorem dX6_key_10 : decode cX6_key 10 = .ok (.bipush (-2), 2) := by decide +kernel
theorem dX6_key_12 : decode cX6_key 12 = .ok (.ireturn, 1) := by decide +kernel
theorem dX6_key_13 : decode cX6_key 13 = .ok (.aload_n 0, 1) := by decide +kernel
theorem dX6_key_14 : decode cX6_key 14 = .ok (.getfield 96, 3) := by decide +kernel
theorem dX6_key_17 : decode cX6_key 17 = .ok (.bipush 12, 2) := by decide +kernel
theorem dX6_key_19 : decode cX6_key 19 = .ok (.if_icmp .ne 6, 3) := by decide +kernel
theorem dX6_key_22 : decode cX6_key 22 = .ok (.bipush (-4), 2) := by decide +kernel
theorem dX6_key_24 : decode cX6_key 24 = .ok (.ireturn, 1) := by decide +kernel
theorem dX6_key_25 : decode cX6_key 25 = .ok (.aload_n 0, 1) := by decide +kernel
theorem dX6_key_26 : decode cX6_key 26 = .ok (.getfield 17, 3) := by decide +kernel
theorem dX6_key_29 : decode cX6_key 29 = .ok (.aload_n 0, 1) := by decide +kernel
theorem dX6_key_30 : decode cX6_key 30 = .ok (.getfield 96, 3) := by decide +kernel
theorem dX6_key_33 : decode cX6_key 33 = .ok (.iload_n 1, 1) := by decide +kernel
theorem dX6_key_34 : decode cX6_key 34 = .ok (.iastore, 1) := by decide +kernel
theorem dX6_key_35 : decode cX6_key 35 = .ok (.aload_n 0, 1) := by decide +kernel
theorem dX6_key_36 : decode cX6_key 36 = .ok (.dup, 1) := by decide +kernel
theorem dX6_key_37 : decode cX6_key 37 = .ok (.getfield 96, 3) := by decide +kernel
theorem dX6_key_40 : decode cX6_key 40 = .ok (.iconst 1, 1) := by decide +kernel
theorem dX6_key_41 : decode cX6_key 41 = .ok (.iadd, 1) := by decide +kernel
theorem dX6_key_42 : decode cX6_key 42 = .ok (.putfield 96, 3) := by decide +kernel
theorem dX6_key_45 : decode cX6_key 45 = .ok (.aload_n 0, 1) := by decide +kernel
theorem dX6_key_46 : decode cX6_key 46 = .ok (.getfield 96, 3) := by decide +kernel
theorem dX6_key_49 : decode cX6_key 49 = .ok (.ireturn, 1) := by decide +kernel
theorem dX6_wipe_0 : decode cX6_wipe 0 = .ok (.aload_n 0, 1) := by decide +kernel
theorem dX6_wipe_1 : decode cX6_wipe 1 = .ok (.getfield 96, 3) := by decide +kernel
theorem dX6_wipe_4 : decode cX6_wipe 4 = .ok (.istore_n 1, 1) := by decide +kernel
theorem dX6_wipe_5 : decode cX6_wipe 5 = .ok (.aload_n 0, 1) := by decide +kernel
theorem dX6_wipe_6 : decode cX6_wipe 6 = .ok (.iconst 0, 1) := by decide +kernel
theorem dX6_wipe_7 : decode cX6_wipe 7 = .ok (.putfield 96, 3) := by decide +kernel
theorem dX6_wipe_10 : decode cX6_wipe 10 = .ok (.iload_n 1, 1) := by decide +kernel
theorem dX6_wipe_11 : decode cX6_wipe 11 = .ok (.ireturn, 1) := by decide +kernel
set_option maxRecDepth 20000 in
theorem ggX6_isParagraph_X6_within : GoodIn wsX6_isParagraph wsX6_within := goodIn_r _ [5] (by decide +kernel) (by decide +kernel)
set_option maxRecDepth 20000 in
theorem gX6_isParagraph_X6_within : GoodIn wsX6_isParagraph (va_wsS RX6 64 yX6_within wsX6_within) := goodIn_app (goodIn_of _ (by decide +kernel)) ggX6_isParagraph_X6_within
theorem dX6_isParagraph_0 : decode cX6_isParagraph 0 = .ok (.iload_n 1, 1) := by decide +kernel
theorem dX6_isParagraph_1 : decode cX6_isParagraph 1 = .ok (.iconst 0, 1) := by decide +kernel
theorem dX6_isParagraph_2 : decode cX6_isParagraph 2 = .ok (.aload_n 0, 1) := by decide +kernel
theorem dX6_isParagraph_3 : decode cX6_isParagraph 3 = .ok (.getfield 68, 3) := by decide +kernel
theorem dX6_isParagraph_6 : decode cX6_isParagraph 6 = .ok (.iconst 1, 1) := by decide +kernel
theorem dX6_isParagraph_7 : decode cX6_isParagraph 7 = .ok (.isub, 1) := by decide +kernel
theorem dX6_isParagraph_8 : decode cX6_isParagraph 8 = .ok (.invokestatic 64, 3) := by decide +kernel
theorem dX6_isParagraph_11 : decode cX6_isParagraph 11 = .ok (.ireturn, 1) := by decide +kernel
theorem dX6_manyOf_0 : decode cX6_manyOf 0 = .ok (.iconst 0, 1) := by decide +kernel
theorem dX6_manyOf_1 : decode cX6_manyOf 1 = .ok (.istore_n 3, 1) := by decide +kernel
theorem dX6_manyOf_2 : decode cX6_manyOf 2 = .ok (.iconst 0, 1) := by decide +kernel
theorem dX6_manyOf_3 : decode cX6_manyOf 3 = .ok (.istore 4, 2) := by decide +kernel
theorem dX6_manyOf_5 : decode cX6_manyOf 5 = .ok (.iload 4, 2) := by decide +kernel
theorem dX6_manyOf_7 : decode cX6_manyOf 7 = .ok (.aload_n 0, 1) := by decide +kernel
theorem dX6_manyOf_8 : decode cX6_manyOf 8 = .ok (.getfield 20, 3) := by decide +kernel
theorem dX6_manyOf_11 : decode cX6_manyOf 11 = .ok (.iload_n 1, 1) := by decide +kernel
theorem dX6_manyOf_12 : decode cX6_manyOf 12 = .ok (.iaload, 1) := by decide +kernel
theorem dX6_manyOf_13 : decode cX6_manyOf 13 = .ok (.if_icmp .ge 33, 3) := by decide +kernel
theorem dX6_manyOf_16 : decode cX6_manyOf 16 = .ok (.iload_n 3, 1) := by decide +kernel
theorem dX6_manyOf_17 : decode cX6_manyOf 17 = .ok (.aload_n 0, 1) := by decide +kernel
theorem dX6_manyOf_18 : decode cX6_manyOf 18 = .ok (.getfield 23, 3) := by decide +kernel
theorem dX6_manyOf_21 : decode cX6_manyOf 21 = .ok (.bipush 12, 2) := by decide +kernel
theorem dX6_manyOf_23 : decode cX6_manyOf 23 = .ok (.iload_n 1, 1) := by decide +kernel
theorem dX6_manyOf_24 : decode cX6_manyOf 24 = .ok (.imul, 1) := by decide +kernel
theorem dX6_manyOf_25 : decode cX6_manyOf 25 = .ok (.iload 4, 2) := by decide +kernel
theorem dX6_manyOf_27 : decode cX6_manyOf 27 = .ok (.iadd, 1) := by decide +kernel
theorem dX6_manyOf_28 : decode cX6_manyOf 28 = .ok (.iaload, 1) := by decide +kernel
theorem dX6_manyOf_29 : decode cX6_manyOf 29 = .ok (.iload_n 2, 1) := by decide +kernel
theorem dX6_manyOf_30 : decode cX6_manyOf 30 = .ok (.if_icmp .ne 7, 3) := by decide +kernel
theorem dX6_manyOf_33 : decode cX6_manyOf 33 = .ok (.iconst 1, 1) := by decide +kernel
theorem dX6_manyOf_34 : decode cX6_manyOf 34 = .ok (.goto 4, 3) := by decide +kernel
theorem dX6_manyOf_37 : decode cX6_manyOf 37 = .ok (.iconst 0, 1) := by decide +kernel
theorem dX6_manyOf_38 : decode cX6_manyOf 38 = .ok (.iadd, 1) := by decide +kernel
theorem dX6_manyOf_39 : decode cX6_manyOf 39 = .ok (.istore_n 3, 1) := by decide +kernel
theorem dX6_manyOf_40 : decode cX6_manyOf 40 = .ok (.iinc 4 1, 3) := by decide +kernel
theorem dX6_manyOf_43 : decode cX6_manyOf 43 = .ok (.goto (-38), 3) := by decide +kernel
theorem dX6_manyOf_46 : decode cX6_manyOf 46 = .ok (.iload_n 3, 1) := by decide +kernel
theorem dX6_manyOf_47 : decode cX6_manyOf 47 = .ok (.ireturn, 1) := by decide +kernel
set_option maxRecDepth 20000 in
theorem ggX6_speaks_X6_manyOf : GoodIn wsX6_speaks wsX6_manyOf := goodIn_r _ [5, 6, 7, 8, 9, 10, 11, 12, 13, 14, 15, 16, 17, 18, 19, 20, 21, 22, 23, 24, 25, 26, 27, 28] (by decide +kernel) (by decide +kernel)
set_option maxRecDepth 20000 in
theorem gX6_speaks_X6_manyOf : GoodIn wsX6_speaks (wsV RX6 99 RX6 yX6_manyOf wsX6_manyOf) := goodIn_app (goodIn_of _ (by decide +kernel)) ggX6_speaks_X6_manyOf
theorem dX6_speaks_0 : decode cX6_speaks 0 = .ok (.aload_n 0, 1) := by decide +kernel
theorem dX6_speaks_1 : decode cX6_speaks 1 = .ok (.iload_n 1, 1) := by decide +kernel
theorem dX6_speaks_2 : decode cX6_speaks 2 = .ok (.iconst 0, 1) := by decide +kernel
theorem dX6_speaks_3 : decode cX6_speaks 3 = .ok (.invokevirtual 99, 3) := by decide +kernel
theorem dX6_speaks_6 : decode cX6_speaks 6 = .ok (.ifCond .le 7, 3) := by decide +kernel
theorem dX6_speaks_9 : decode cX6_speaks 9 = .ok (.iconst 1, 1) := by decide +kernel
theorem dX6_speaks_10 : decode cX6_speaks 10 = .ok (.goto 4, 3) := by decide +kernel
theorem dX6_speaks_13 : decode cX6_speaks 13 = .ok (.iconst 0, 1) := by decide +kernel
theorem dX6_speaks_14 : decode cX6_speaks 14 = .ok (.ireturn, 1) := by decide +kernel
theorem dX6_sortOfItem_0 : decode cX6_sortOfItem 0 = .ok (.iload_n 0, 1) := by decide +kernel
theorem dX6_sortOfItem_1 : decode cX6_sortOfItem 1 = .ok (.tableswitch 85 104 118 #[81, 85, 85, 85, 85, 85, 85, 79, 85, 75, 85, 83, 85, 85, 77], 75) := by decide +kernel
theorem dX6_sortOfItem_76 : decode cX6_sortOfItem 76 = .ok (.iconst 0, 1) := by decide +kernel
theorem dX6_sortOfItem_77 : decode cX6_sortOfItem 77 = .ok (.ireturn, 1) := by decide +kernel
theorem dX6_sortOfItem_78 : decode cX6_sortOfItem 78 = .ok (.iconst 1, 1) := by decide +kernel
theorem dX6_sortOfItem_79 : decode cX6_sortOfItem 79 = .ok (.ireturn, 1) := by decide +kernel
theorem dX6_sortOfItem_80 : decode cX6_sortOfItem 80 = .ok (.iconst 2, 1) := by decide +kernel
theorem dX6_sortOfItem_81 : decode cX6_sortOfItem 81 = .ok (.ireturn, 1) := by decide +kernel
theorem dX6_sortOfItem_82 : decode cX6_sortOfItem 82 = .ok (.iconst 3, 1) := by decide +kernel
theorem dX6_sortOfItem_83 : decode cX6_sortOfItem 83 = .ok (.ireturn, 1) := by decide +kernel
theorem dX6_sortOfItem_84 : decode cX6_sortOfItem 84 = .ok (.iconst 4, 1) := by decide +kernel
theorem dX6_sortOfItem_85 : decode cX6_sortOfItem 85 = .ok (.ireturn, 1) := by decide +kernel
theorem dX6_sortOfItem_86 : decode cX6_sortOfItem 86 = .ok (.iconst 5, 1) := by decide +kernel
theorem dX6_sortOfItem_87 : decode cX6_sortOfItem 87 = .ok (.ireturn, 1) := by decide +kernel
set_option maxRecDepth 20000 in
theorem ggX6_isNameHere_X6_within : GoodIn wsX6_isNameHere wsX6_within := goodIn_r _ [7] (by decide +kernel) (by decide +kernel)
set_option maxRecDepth 20000 in
theorem gX6_isNameHere_X6_within : GoodIn wsX6_isNameHere (va_wsS RX6 64 yX6_within wsX6_within) := goodIn_app (goodIn_of _ (by decide +kernel)) ggX6_isNameHere_X6_within
set_option maxRecDepth 20000 in
theorem ggX6_isNameHere_X6_isThere : GoodIn wsX6_isNameHere wsX6_isThere := goodIn_r _ [11, 12, 4, 5, 6, 7, 13, 14, 15, 16, 17, 18, 19, 20, 21, 22, 23, 24, 25, 26, 27, 28, 29, 30, 31, 32, 33] (by decide +kernel) (by decide +kernel)
set_option maxRecDepth 20000 in
theorem gX6_isNameHere_X6_isThere : GoodIn wsX6_isNameHere (wsV RX6 71 RX6 yX6_isThere wsX6_isThere) := goodIn_app (goodIn_of _ (by decide +kernel)) ggX6_isNameHere_X6_isThere
theorem dX6_isNameHere_0 : decode cX6_isNameHere 0 = .ok (.aload_n 0, 1) := by decide +kernel
theorem dX6_isNameHere_1 : decode cX6_isNameHere 1 = .ok (.getfield 103, 3) := by decide +kernel
theorem dX6_isNameHere_4 : decode cX6_isNameHere 4 = .ok (.aload_n 0, 1) := by decide +kernel
theorem dX6_isNameHere_5 : decode cX6_isNameHere 5 = .ok (.getfield 96, 3) := by decide +kernel
theorem dX6_isNameHere_8 : decode cX6_isNameHere 8 = .ok (.if_icmp .ge 45, 3) := by decide +kernel
theorem dX6_isNameHere_11 : decode cX6_isNameHere 11 = .ok (.aload_n 0, 1) := by decide +kernel
theorem dX6_isNameHere_12 : decode cX6_isNameHere 12 = .ok (.getfield 17, 3) := by decide +kernel
theorem dX6_isNameHere_15 : decode cX6_isNameHere 15 = .ok (.aload_n 0, 1) := by decide +kernel
theorem dX6_isNameHere_16 : decode cX6_isNameHere 16 = .ok (.getfield 103, 3) := by decide +kernel
theorem dX6_isNameHere_19 : decode cX6_isNameHere 19 = .ok (.iaload, 1) := by decide +kernel
theorem dX6_isNameHere_20 : decode cX6_isNameHere 20 = .ok (.bipush 65, 2) := by decide +kernel
theorem dX6_isNameHere_22 : decode cX6_isNameHere 22 = .ok (.bipush 72, 2) := by decide +kernel
theorem dX6_isNameHere_24 : decode cX6_isNameHere 24 = .ok (.invokestatic 64, 3) := by decide +kernel
theorem dX6_isNameHere_27 : decode cX6_isNameHere 27 = .ok (.ifCond .eq 26, 3) := by decide +kernel
theorem dX6_isNameHere_30 : decode cX6_isNameHere 30 = .ok (.aload_n 0, 1) := by decide +kernel
theorem dX6_isNameHere_31 : decode cX6_isNameHere 31 = .ok (.aload_n 0, 1) := by decide +kernel
theorem dX6_isNameHere_32 : decode cX6_isNameHere 32 = .ok (.getfield 17, 3) := by decide +kernel
theorem dX6_isNameHere_35 : decode cX6_isNameHere 35 = .ok (.aload_n 0, 1) := by decide +kernel
theorem dX6_isNameHere_36 : decode cX6_isNameHere 36 = .ok (.getfield 103, 3) := by decide +kernel
theorem dX6_isNameHere_39 : decode cX6_isNameHere 39 = .ok (.iaload, 1) := by decide +kernel
theorem dX6_isNameHere_40 : decode cX6_isNameHere 40 = .ok (.bipush 65, 2) := by decide +kernel
theorem dX6_isNameHere_42 : decode cX6_isNameHere 42 = .ok (.isub, 1) := by decide +kernel
theorem dX6_isNameHere_43 : decode cX6_isNameHere 43 = .ok (.invokevirtual 71, 3) := by decide +kernel
theorem dX6_isNameHere_46 : decode cX6_isNameHere 46 = .ok (.ifCond .eq 7, 3) := by decide +kernel
theorem dX6_isNameHere_49 : decode cX6_isNameHere 49 = .ok (.iconst 1, 1) := by decide +kernel
theorem dX6_isNameHere_50 : decode cX6_isNameHere 50 = .ok (.goto 4, 3) := by decide +kernel
theorem dX6_isNameHere_53 : decode cX6_isNameHere 53 = .ok (.iconst 0, 1) := by decide +kernel
theorem dX6_isNameHere_54 : decode cX6_isNameHere 54 = .ok (.ireturn, 1) := by decide +kernel
set_option maxRecDepth 20000 in
theorem ggX6_readsItem_X6_sortOfItem : GoodIn wsX6_readsItem wsX6_sortOfItem := goodIn_r _ [10] (by decide +kernel) (by decide +kernel)
set_option maxRecDepth 20000 in
theorem gX6_readsItem_X6_sortOfItem : GoodIn wsX6_readsItem (va_wsS RX6 106 yX6_sortOfItem wsX6_sortOfItem) := goodIn_app (goodIn_of _ (by decide +kernel)) ggX6_readsItem_X6_sortOfItem
set_option maxRecDepth 20000 in
theorem ggX6_readsItem_X6_isNameHere : GoodIn wsX6_readsItem wsX6_isNameHere := goodIn_r _ [14, 3, 6, 2, 15, 16, 9, 17, 18, 19, 20, 21, 22, 23, 24, 25, 26, 27, 28, 29, 30, 31, 32, 33, 34, 35, 36, 37, 38, 39, 40, 41, 42, 43] (by decide +kernel) (by decide +kernel)
set_option maxRecDepth 20000 in
theorem gX6_readsItem_X6_isNameHere : GoodIn wsX6_readsItem (wsV RX6 109 RX6 yX6_isNameHere wsX6_isNameHere) := goodIn_app (goodIn_of _ (by decide +kernel)) ggX6_readsItem_X6_isNameHere
theorem dX6_readsItem_0 : decode cX6_readsItem 0 = .ok (.bipush 12, 2) := by decide +kernel
theorem dX6_readsItem_2 : decode cX6_readsItem 2 = .ok (.iload_n 1, 1) := by decide +kernel
theorem dX6_readsItem_3 : decode cX6_readsItem 3 = .ok (.imul, 1) := by decide +kernel
theorem dX6_readsItem_4 : decode cX6_readsItem 4 = .ok (.aload_n 0, 1) := by decide +kernel
theorem dX6_readsItem_5 : decode cX6_readsItem 5 = .ok (.getfield 20, 3) := by decide +kernel
theorem dX6_readsItem_8 : decode cX6_readsItem 8 = .ok (.iload_n 1, 1) := by decide +kernel
theorem dX6_readsItem_9 : decode cX6_readsItem 9 = .ok (.iaload, 1) := by decide +kernel
theorem dX6_readsItem_10 : decode cX6_readsItem 10 = .ok (.iadd, 1) := by decide +kernel
theorem dX6_readsItem_11 : decode cX6_readsItem 11 = .ok (.istore_n 2, 1) := by decide +kernel
theorem dX6_readsItem_12 : decode cX6_readsItem 12 = .ok (.aload_n 0, 1) := by decide +kernel
theorem dX6_readsItem_13 : decode cX6_readsItem 13 = .ok (.getfield 17, 3) := by decide +kernel
theorem dX6_readsItem_16 : decode cX6_readsItem 16 = .ok (.aload_n 0, 1) := by decide +kernel
theorem dX6_readsItem_17 : decode cX6_readsItem 17 = .ok (.getfield 103, 3) := by decide +kernel
theorem dX6_readsItem_20 : decode cX6_readsItem 20 = .ok (.iaload, 1) := by decide +kernel
theorem dX6_readsItem_21 : decode cX6_readsItem 21 = .ok (.invokestatic 106, 3) := by decide +kernel
theorem dX6_readsItem_24 : decode cX6_readsItem 24 = .ok (.istore_n 3, 1) := by decide +kernel
theorem dX6_readsItem_25 : decode cX6_readsItem 25 = .ok (.iload_n 3, 1) := by decide +kernel
theorem dX6_readsItem_26 : decode cX6_readsItem 26 = .ok (.iconst 5, 1) := by decide +kernel
theorem dX6_readsItem_27 : decode cX6_readsItem 27 = .ok (.if_icmp .ne 12, 3) := by decide +kernel
theorem dX6_readsItem_30 : decode cX6_readsItem 30 = .ok (.aload_n 0, 1) := by decide +kernel
theorem dX6_readsItem_31 : decode cX6_readsItem 31 = .ok (.invokevirtual 109, 3) := by decide +kernel
theorem dX6_readsItem_34 : decode cX6_readsItem 34 = .ok (.ifCond .ne 5, 3) := by decide +kernel
theorem dX6_readsItem_37 : decode cX6_readsItem 37 = .ok (.iconst 0, 1) := by decide +kernel
theorem dX6_readsItem_38 : decode cX6_readsItem 38 = .ok (.ireturn, 1) := by decide +kernel
theorem dX6_readsItem_39 : decode cX6_readsItem 39 = .ok (.aload_n 0, 1) := by decide +kernel
theorem dX6_readsItem_40 : decode cX6_readsItem 40 = .ok (.getfield 23, 3) := by decide +kernel
theorem dX6_readsItem_43 : decode cX6_readsItem 43 = .ok (.iload_n 2, 1) := by decide +kernel
theorem dX6_readsItem_44 : decode cX6_readsItem 44 = .ok (.iload_n 3, 1) := by decide +kernel
theorem dX6_readsItem_45 : decode cX6_readsItem 45 = .ok (.iastore, 1) := by decide +kernel
theorem dX6_readsItem_46 : decode cX6_readsItem 46 = .ok (.aload_n 0, 1) := by decide +kernel
theorem dX6_readsItem_47 : decode cX6_readsItem 47 = .ok (.getfield 26, 3) := by decide +kernel
theorem dX6_readsItem_50 : decode cX6_readsItem 50 = .ok (.iload_n 2, 1) := by decide +kernel
theorem dX6_readsItem_51 : decode cX6_readsItem 51 = .ok (.iload_n 3, 1) := by decide +kernel
theorem dX6_readsItem_52 : decode cX6_readsItem 52 = .ok (.iconst 5, 1) := by decide +kernel
theorem dX6_readsItem_53 : decode cX6_readsItem 53 = .ok (.if_icmp .ne 18, 3) := by decide +kernel
theorem dX6_readsItem_56 : decode cX6_readsItem 56 = .ok (.aload_n 0, 1) := by decide +kernel
theorem dX6_readsItem_57 : decode cX6_readsItem 57 = .ok (.getfield 17, 3) := by decide +kernel
theorem dX6_readsItem_60 : decode cX6_readsItem 60 = .ok (.aload_n 0, 1) := by decide +kernel
theorem dX6_readsItem_61 : decode cX6_readsItem 61 = .ok (.getfield 103, 3) := by decide +kernel
theorem dX6_readsItem_64 : decode cX6_readsItem 64 = .ok (.iaload, 1) := by decide +kernel
theorem dX6_readsItem_65 : decode cX6_readsItem 65 = .ok (.bipush 65, 2) := by decide +kernel
theorem dX6_readsItem_67 : decode cX6_readsItem 67 = .ok (.isub, 1) := by decide +kernel
theorem dX6_readsItem_68 : decode cX6_readsItem 68 = .ok (.goto 5, 3) := by decide +kernel
theorem dX6_readsItem_71 : decode cX6_readsItem 71 = .ok (.bipush (-9), 2) := by decide +kernel
theorem dX6_readsItem_73 : decode cX6_readsItem 73 = .ok (.iastore, 1) := by decide +kernel
theorem dX6_readsItem_74 : decode cX6_readsItem 74 = .ok (.aload_n 0, 1) := by decide +kernel
theorem dX6_readsItem_75 : decode cX6_readsItem 75 = .ok (.dup, 1) := by decide +kernel
theorem dX6_readsItem_76 : decode cX6_readsItem 76 = .ok (.getfield 103, 3) := by decide +kernel
theorem dX6_readsItem_79 : decode cX6_readsItem 79 = .ok (.iconst 1, 1) := by decide +kernel
theorem dX6_readsItem_80 : decode cX6_readsItem 80 = .ok (.iadd, 1) := by decide +kernel
theorem dX6_readsItem_81 : decode cX6_readsItem 81 = .ok (.putfield 103, 3) := by decide +kernel
theorem dX6_readsItem_84 : decode cX6_readsItem 84 = .ok (.iload_n 3, 1) := by decide +kernel
theorem dX6_readsItem_85 : decode cX6_readsItem 85 = .ok (.ifCond .ne 75, 3) := by decide +kernel
theorem dX6_readsItem_88 : decode cX6_readsItem 88 = .ok (.aload_n 0, 1) := by decide +kernel
theorem dX6_readsItem_89 : decode cX6_readsItem 89 = .ok (.getfield 103, 3) := by decide +kernel
theorem dX6_readsItem_92 : decode cX6_readsItem 92 = .ok (.aload_n 0, 1) := by decide +kernel
theorem dX6_readsItem_93 : decode cX6_readsItem 93 = .ok (.getfield 96, 3) := by decide +kernel
theorem dX6_readsItem_96 : decode cX6_readsItem 96 = .ok (.if_icmp .ge 64, 3) := by decide +kernel
theorem dX6_readsItem_99 : decode cX6_readsItem 99 = .ok (.aload_n 0, 1) := by decide +kernel
theorem dX6_readsItem_100 : decode cX6_readsItem 100 = .ok (.getfield 17, 3) := by decide +kernel
theorem dX6_readsItem_103 : decode cX6_readsItem 103 = .ok (.aload_n 0, 1) := by decide +kernel
theorem dX6_readsItem_104 : decode cX6_readsItem 104 = .ok (.getfield 103, 3) := by decide +kernel
theorem dX6_readsItem_107 : decode cX6_readsItem 107 = .ok (.iaload, 1) := by decide +kernel
theorem dX6_readsItem_108 : decode cX6_readsItem 108 = .ok (.bipush 64, 2) := by decide +kernel
theorem dX6_readsItem_110 : decode cX6_readsItem 110 = .ok (.if_icmp .ne 50, 3) := by decide +kernel
theorem dX6_readsItem_113 : decode cX6_readsItem 113 = .ok (.aload_n 0, 1) := by decide +kernel
theorem dX6_readsItem_114 : decode cX6_readsItem 114 = .ok (.dup, 1) := by decide +kernel
theorem dX6_readsItem_115 : decode cX6_readsItem 115 = .ok (.getfield 103, 3) := by decide +kernel
theorem dX6_readsItem_118 : decode cX6_readsItem 118 = .ok (.iconst 1, 1) := by decide +kernel
theorem dX6_readsItem_119 : decode cX6_readsItem 119 = .ok (.iadd, 1) := by decide +kernel
theorem dX6_readsItem_120 : decode cX6_readsItem 120 = .ok (.putfield 103, 3) := by decide +kernel
theorem dX6_readsItem_123 : decode cX6_readsItem 123 = .ok (.aload_n 0, 1) := by decide +kernel
theorem dX6_readsItem_124 : decode cX6_readsItem 124 = .ok (.invokevirtual 109, 3) := by decide +kernel
theorem dX6_readsItem_127 : decode cX6_readsItem 127 = .ok (.ifCond .ne 5, 3) := by decide +kernel
theorem dX6_readsItem_130 : decode cX6_readsItem 130 = .ok (.iconst 0, 1) := by decide +kernel
theorem dX6_readsItem_131 : decode cX6_readsItem 131 = .ok (.ireturn, 1) := by decide +kernel
theorem dX6_readsItem_132 : decode cX6_readsItem 132 = .ok (.aload_n 0, 1) := by decide +kernel
theorem dX6_readsItem_133 : decode cX6_readsItem 133 = .ok (.getfield 26, 3) := by decide +kernel
theorem dX6_readsItem_136 : decode cX6_readsItem 136 = .ok (.iload_n 2, 1) := by decide +kernel
theorem dX6_readsItem_137 : decode cX6_readsItem 137 = .ok (.aload_n 0, 1) := by decide +kernel
theorem dX6_readsItem_138 : decode cX6_readsItem 138 = .ok (.getfield 17, 3) := by decide +kernel
theorem dX6_readsItem_141 : decode cX6_readsItem 141 = .ok (.aload_n 0, 1) := by decide +kernel
theorem dX6_readsItem_142 : decode cX6_readsItem 142 = .ok (.getfield 103, 3) := by decide +kernel
theorem dX6_readsItem_145 : decode cX6_readsItem 145 = .ok (.iaload, 1) := by decide +kernel
theorem dX6_readsItem_146 : decode cX6_readsItem 146 = .ok (.bipush 65, 2) := by decide +kernel
theorem dX6_readsItem_148 : decode cX6_readsItem 148 = .ok (.isub, 1) := by decide +kernel
theorem dX6_readsItem_149 : decode cX6_readsItem 149 = .ok (.iastore, 1) := by decide +kernel
theorem dX6_readsItem_150 : decode cX6_readsItem 150 = .ok (.aload_n 0, 1) := by decide +kernel
theorem dX6_readsItem_151 : decode cX6_readsItem 151 = .ok (.dup, 1) := by decide +kernel
theorem dX6_readsItem_152 : decode cX6_readsItem 152 = .ok (.getfield 103, 3) := by decide +kernel
theorem dX6_readsItem_155 : decode cX6_readsItem 155 = .ok (.iconst 1, 1) := by decide +kernel
theorem dX6_readsItem_156 : decode cX6_readsItem 156 = .ok (.iadd, 1) := by decide +kernel
theorem dX6_readsItem_157 : decode cX6_readsItem 157 = .ok (.putfield 103, 3) := by decide +kernel
theorem dX6_readsItem_160 : decode cX6_readsItem 160 = .ok (.aload_n 0, 1) := by decide +kernel
theorem dX6_readsItem_161 : decode cX6_readsItem 161 = .ok (.getfield 20, 3) := by decide +kernel
theorem dX6_readsItem_164 : decode cX6_readsItem 164 = .ok (.iload_n 1, 1) := by decide +kernel
theorem dX6_readsItem_165 : decode cX6_readsItem 165 = .ok (.dup2, 1) := by decide +kernel
theorem dX6_readsItem_166 : decode cX6_readsItem 166 = .ok (.iaload, 1) := by decide +kernel
theorem dX6_readsItem_167 : decode cX6_readsItem 167 = .ok (.iconst 1, 1) := by decide +kernel
theorem dX6_readsItem_168 : decode cX6_readsItem 168 = .ok (.iadd, 1) := by decide +kernel
theorem dX6_readsItem_169 : decode cX6_readsItem 169 = .ok (.iastore, 1) := by decide +kernel
theorem dX6_readsItem_170 : decode cX6_readsItem 170 = .ok (.iconst 1, 1) := by decide +kernel
theorem dX6_readsItem_171 : decode cX6_readsItem 171 = .ok (.ireturn, 1) := by decide +kernel
set_option maxRecDepth 20000 in
theorem ggX6_readsText_X6_speaks : GoodIn wsX6_readsText wsX6_speaks := goodIn_r _ [10, 11, 12, 13, 9, 14, 2, 15, 36, 37, 38, 39, 40, 41, 42, 43, 44, 45, 46, 47, 48, 49, 50, 51, 52, 53, 54, 55, 56] (by decide +kernel) (by decide +kernel)
set_option maxRecDepth 20000 in
theorem gX6_readsText_X6_speaks : GoodIn wsX6_readsText (wsV RX6 78 RX6 yX6_speaks wsX6_speaks) := goodIn_app (goodIn_of _ (by decide +kernel)) ggX6_readsText_X6_speaks
set_option maxRecDepth 20000 in
theorem ggX6_readsText_X6_readsItem : GoodIn wsX6_readsText wsX6_readsItem := goodIn_r _ [19, 2, 5, 1, 15, 20, 4, 21, 22, 9, 23, 24, 25, 26, 27, 28, 29, 30, 31, 32, 33, 34, 35, 36, 37, 38, 39, 40, 41, 42, 43, 44, 45, 46, 47, 48, 49, 50, 51, 52, 53, 54, 55, 56] (by decide +kernel) (by decide +kernel)
set_option maxRecDepth 20000 in
theorem gX6_readsText_X6_readsItem : GoodIn wsX6_readsText (wsV RX6 113 RX6 yX6_readsItem wsX6_readsItem) := goodIn_app (goodIn_of _ (by decide +kernel)) ggX6_readsText_X6_readsItem
theorem dX6_readsText_0 : decode cX6_readsText 0 = .ok (.aload_n 0, 1) := by decide +kernel
theorem dX6_readsText_1 : decode cX6_readsText 1 = .ok (.iconst 0, 1) := by decide +kernel
theorem dX6_readsText_2 : decode cX6_readsText 2 = .ok (.putfield 103, 3) := by decide +kernel
theorem dX6_readsText_5 : decode cX6_readsText 5 = .ok (.aload_n 0, 1) := by decide +kernel
theorem dX6_readsText_6 : decode cX6_readsText 6 = .ok (.getfield 20, 3) := by decide +kernel
theorem dX6_readsText_9 : decode cX6_readsText 9 = .ok (.iload_n 1, 1) := by decide +kernel
theorem dX6_readsText_10 : decode cX6_readsText 10 = .ok (.iconst 0, 1) := by decide +kernel
theorem dX6_readsText_11 : decode cX6_readsText 11 = .ok (.iastore, 1) := by decide +kernel
theorem dX6_readsText_12 : decode cX6_readsText 12 = .ok (.aload_n 0, 1) := by decide +kernel
theorem dX6_readsText_13 : decode cX6_readsText 13 = .ok (.getfield 29, 3) := by decide +kernel
theorem dX6_readsText_16 : decode cX6_readsText 16 = .ok (.iload_n 1, 1) := by decide +kernel
theorem dX6_readsText_17 : decode cX6_readsText 17 = .ok (.aload_n 0, 1) := by decide +kernel
theorem dX6_readsText_18 : decode cX6_readsText 18 = .ok (.getfield 96, 3) := by decide +kernel
theorem dX6_readsText_21 : decode cX6_readsText 21 = .ok (.ifCond .le 18, 3) := by decide +kernel
theorem dX6_readsText_24 : decode cX6_readsText 24 = .ok (.aload_n 0, 1) := by decide +kernel
theorem dX6_readsText_25 : decode cX6_readsText 25 = .ok (.getfield 17, 3) := by decide +kernel
theorem dX6_readsText_28 : decode cX6_readsText 28 = .ok (.iconst 0, 1) := by decide +kernel
theorem dX6_readsText_29 : decode cX6_readsText 29 = .ok (.iaload, 1) := by decide +kernel
theorem dX6_readsText_30 : decode cX6_readsText 30 = .ok (.bipush 43, 2) := by decide +kernel
theorem dX6_readsText_32 : decode cX6_readsText 32 = .ok (.if_icmp .ne 7, 3) := by decide +kernel
theorem dX6_readsText_35 : decode cX6_readsText 35 = .ok (.iconst 1, 1) := by decide +kernel
theorem dX6_readsText_36 : decode cX6_readsText 36 = .ok (.goto 4, 3) := by decide +kernel
theorem dX6_readsText_39 : decode cX6_readsText 39 = .ok (.iconst 0, 1) := by decide +kernel
theorem dX6_readsText_40 : decode cX6_readsText 40 = .ok (.bastore, 1) := by decide +kernel
theorem dX6_readsText_41 : decode cX6_readsText 41 = .ok (.aload_n 0, 1) := by decide +kernel
theorem dX6_readsText_42 : decode cX6_readsText 42 = .ok (.getfield 29, 3) := by decide +kernel
theorem dX6_readsText_45 : decode cX6_readsText 45 = .ok (.iload_n 1, 1) := by decide +kernel
theorem dX6_readsText_46 : decode cX6_readsText 46 = .ok (.baload, 1) := by decide +kernel
theorem dX6_readsText_47 : decode cX6_readsText 47 = .ok (.ifCond .eq 24, 3) := by decide +kernel
theorem dX6_readsText_50 : decode cX6_readsText 50 = .ok (.iload_n 1, 1) := by decide +kernel
theorem dX6_readsText_51 : decode cX6_readsText 51 = .ok (.ifCond .eq 13, 3) := by decide +kernel
theorem dX6_readsText_54 : decode cX6_readsText 54 = .ok (.aload_n 0, 1) := by decide +kernel
theorem dX6_readsText_55 : decode cX6_readsText 55 = .ok (.iload_n 1, 1) := by decide +kernel
theorem dX6_readsText_56 : decode cX6_readsText 56 = .ok (.iconst 1, 1) := by decide +kernel
theorem dX6_readsText_57 : decode cX6_readsText 57 = .ok (.isub, 1) := by decide +kernel
theorem dX6_readsText_58 : decode cX6_readsText 58 = .ok (.invokevirtual 78, 3) := by decide +kernel
theorem dX6_readsText_61 : decode cX6_readsText 61 = .ok (.ifCond .ne 5, 3) := by decide +kernel
theorem dX6_readsText_64 : decode cX6_readsText 64 = .ok (.iconst 0, 1) := by decide +kernel
theorem dX6_readsText_65 : decode cX6_readsText 65 = .ok (.ireturn, 1) := by decide +kernel
theorem dX6_readsText_66 : decode cX6_readsText 66 = .ok (.aload_n 0, 1) := by decide +kernel
theorem dX6_readsText_67 : decode cX6_readsText 67 = .ok (.iconst 1, 1) := by decide +kernel
theorem dX6_readsText_68 : decode cX6_readsText 68 = .ok (.putfield 103, 3) := by decide +kernel
theorem dX6_readsText_71 : decode cX6_readsText 71 = .ok (.aload_n 0, 1) := by decide +kernel
theorem dX6_readsText_72 : decode cX6_readsText 72 = .ok (.getfield 103, 3) := by decide +kernel
theorem dX6_readsText_75 : decode cX6_readsText 75 = .ok (.aload_n 0, 1) := by decide +kernel
theorem dX6_readsText_76 : decode cX6_readsText 76 = .ok (.getfield 96, 3) := by decide +kernel
theorem dX6_readsText_79 : decode cX6_readsText 79 = .ok (.if_icmp .ge 13, 3) := by decide +kernel
theorem dX6_readsText_82 : decode cX6_readsText 82 = .ok (.aload_n 0, 1) := by decide +kernel
theorem dX6_readsText_83 : decode cX6_readsText 83 = .ok (.iload_n 1, 1) := by decide +kernel
theorem dX6_readsText_84 : decode cX6_readsText 84 = .ok (.invokevirtual 113, 3) := by decide +kernel
theorem dX6_readsText_87 : decode cX6_readsText 87 = .ok (.ifCond .ne (-16), 3) := by decide +kernel
theorem dX6_readsText_90 : decode cX6_readsText 90 = .ok (.iconst 0, 1) := by decide +kernel
theorem dX6_readsText_91 : decode cX6_readsText 91 = .ok (.ireturn, 1) := by decide +kernel
theorem dX6_readsText_92 : decode cX6_readsText 92 = .ok (.aload_n 0, 1) := by decide +kernel
theorem dX6_readsText_93 : decode cX6_readsText 93 = .ok (.getfield 20, 3) := by decide +kernel
theorem dX6_readsText_96 : decode cX6_readsText 96 = .ok (.iload_n 1, 1) := by decide +kernel
theorem dX6_readsText_97 : decode cX6_readsText 97 = .ok (.iaload, 1) := by decide +kernel
theorem dX6_readsText_98 : decode cX6_readsText 98 = .ok (.ifCond .le 24, 3) := by decide +kernel
theorem dX6_readsText_101 : decode cX6_readsText 101 = .ok (.aload_n 0, 1) := by decide +kernel
theorem dX6_readsText_102 : decode cX6_readsText 102 = .ok (.getfield 29, 3) := by decide +kernel
theorem dX6_readsText_105 : decode cX6_readsText 105 = .ok (.iload_n 1, 1) := by decide +kernel
theorem dX6_readsText_106 : decode cX6_readsText 106 = .ok (.baload, 1) := by decide +kernel
theorem dX6_readsText_107 : decode cX6_readsText 107 = .ok (.ifCond .eq 11, 3) := by decide +kernel
theorem dX6_readsText_110 : decode cX6_readsText 110 = .ok (.aload_n 0, 1) := by decide +kernel
theorem dX6_readsText_111 : decode cX6_readsText 111 = .ok (.iload_n 1, 1) := by decide +kernel
theorem dX6_readsText_112 : decode cX6_readsText 112 = .ok (.invokevirtual 78, 3) := by decide +kernel
theorem dX6_readsText_115 : decode cX6_readsText 115 = .ok (.ifCond .eq 7, 3) := by decide +kernel
theorem dX6_readsText_118 : decode cX6_readsText 118 = .ok (.iconst 1, 1) := by decide +kernel
theorem dX6_readsText_119 : decode cX6_readsText 119 = .ok (.goto 4, 3) := by decide +kernel
theorem dX6_readsText_122 : decode cX6_readsText 122 = .ok (.iconst 0, 1) := by decide +kernel
theorem dX6_readsText_123 : decode cX6_readsText 123 = .ok (.ireturn, 1) := by decide +kernel
set_option maxRecDepth 20000 in
theorem ggX6_paragraph_X6_readsText : GoodIn wsX6_paragraph wsX6_readsText := goodIn_r _ [11, 2, 12, 13, 6, 14, 15, 16, 17, 10, 18, 19, 20, 21, 22, 23, 24, 25, 26, 27, 28, 29, 30, 31, 32, 33, 34, 35, 36, 37, 38, 39, 40, 41, 42, 43, 44, 45, 46, 47, 48, 49, 50, 51, 52, 53, 54, 55, 56, 57, 58, 59, 60, 61, 62, 63, 64] (by decide +kernel) (by decide +kernel)
set_option maxRecDepth 20000 in
theorem gX6_paragraph_X6_readsText : GoodIn wsX6_paragraph (wsV RX6 116 RX6 yX6_readsText wsX6_readsText) := goodIn_app (goodIn_of _ (by decide +kernel)) ggX6_paragraph_X6_readsText
theorem dX6_paragraph_0 : decode cX6_paragraph 0 = .ok (.aload_n 0, 1) := by decide +kernel
theorem dX6_paragraph_1 : decode cX6_paragraph 1 = .ok (.getfield 68, 3) := by decide +kernel
theorem dX6_paragraph_4 : decode cX6_paragraph 4 = .ok (.istore_n 1, 1) := by decide +kernel
theorem dX6_paragraph_5 : decode cX6_paragraph 5 = .ok (.iload_n 1, 1) := by decide +kernel
theorem dX6_paragraph_6 : decode cX6_paragraph 6 = .ok (.bipush 16, 2) := by decide +kernel
theorem dX6_paragraph_8 : decode cX6_paragraph 8 = .ok (.if_icmp .ne 6, 3) := by decide +kernel
theorem dX6_paragraph_11 : decode cX6_paragraph 11 = .ok (.bipush (-4), 2) := by decide +kernel
theorem dX6_paragraph_13 : decode cX6_paragraph 13 = .ok (.ireturn, 1) := by decide +kernel
theorem dX6_paragraph_14 : decode cX6_paragraph 14 = .ok (.aload_n 0, 1) := by decide +kernel
theorem dX6_paragraph_15 : decode cX6_paragraph 15 = .ok (.iload_n 1, 1) := by decide +kernel
theorem dX6_paragraph_16 : decode cX6_paragraph 16 = .ok (.invokevirtual 116, 3) := by decide +kernel
theorem dX6_paragraph_19 : decode cX6_paragraph 19 = .ok (.ifCond .ne 11, 3) := by decide +kernel
theorem dX6_paragraph_22 : decode cX6_paragraph 22 = .ok (.bipush (-100), 2) := by decide +kernel
theorem dX6_paragraph_24 : decode cX6_paragraph 24 = .ok (.aload_n 0, 1) := by decide +kernel
theorem dX6_paragraph_25 : decode cX6_paragraph 25 = .ok (.getfield 103, 3) := by decide +kernel
theorem dX6_paragraph_28 : decode cX6_paragraph 28 = .ok (.isub, 1) := by decide +kernel
theorem dX6_paragraph_29 : decode cX6_paragraph 29 = .ok (.ireturn, 1) := by decide +kernel
theorem dX6_paragraph_30 : decode cX6_paragraph 30 = .ok (.aload_n 0, 1) := by decide +kernel
theorem dX6_paragraph_31 : decode cX6_paragraph 31 = .ok (.getfield 33, 3) := by decide +kernel
theorem dX6_paragraph_34 : decode cX6_paragraph 34 = .ok (.iload_n 1, 1) := by decide +kernel
theorem dX6_paragraph_35 : decode cX6_paragraph 35 = .ok (.aload_n 0, 1) := by decide +kernel
theorem dX6_paragraph_36 : decode cX6_paragraph 36 = .ok (.getfield 89, 3) := by decide +kernel
theorem dX6_paragraph_39 : decode cX6_paragraph 39 = .ok (.iastore, 1) := by decide +kernel
theorem dX6_paragraph_40 : decode cX6_paragraph 40 = .ok (.aload_n 0, 1) := by decide +kernel
theorem dX6_paragraph_41 : decode cX6_paragraph 41 = .ok (.getfield 36, 3) := by decide +kernel
theorem dX6_paragraph_44 : decode cX6_paragraph 44 = .ok (.iload_n 1, 1) := by decide +kernel
theorem dX6_paragraph_45 : decode cX6_paragraph 45 = .ok (.bipush (-9), 2) := by decide +kernel
theorem dX6_paragraph_47 : decode cX6_paragraph 47 = .ok (.iastore, 1) := by decide +kernel
theorem dX6_paragraph_48 : decode cX6_paragraph 48 = .ok (.aload_n 0, 1) := by decide +kernel
theorem dX6_paragraph_49 : decode cX6_paragraph 49 = .ok (.iconst 0, 1) := by decide +kernel
theorem dX6_paragraph_50 : decode cX6_paragraph 50 = .ok (.putfield 96, 3) := by decide +kernel
theorem dX6_paragraph_53 : decode cX6_paragraph 53 = .ok (.aload_n 0, 1) := by decide +kernel
theorem dX6_paragraph_54 : decode cX6_paragraph 54 = .ok (.dup, 1) := by decide +kernel
theorem dX6_paragraph_55 : decode cX6_paragraph 55 = .ok (.getfield 68, 3) := by decide +kernel
theorem dX6_paragraph_58 : decode cX6_paragraph 58 = .ok (.iconst 1, 1) := by decide +kernel
theorem dX6_paragraph_59 : decode cX6_paragraph 59 = .ok (.iadd, 1) := by decide +kernel
theorem dX6_paragraph_60 : decode cX6_paragraph 60 = .ok (.putfield 68, 3) := by decide +kernel
theorem dX6_paragraph_63 : decode cX6_paragraph 63 = .ok (.iload_n 1, 1) := by decide +kernel
theorem dX6_paragraph_64 : decode cX6_paragraph 64 = .ok (.ireturn, 1) := by decide +kernel
theorem dX6_cut_0 : decode cX6_cut 0 = .ok (.aload_n 0, 1) := by decide +kernel
theorem dX6_cut_1 : decode cX6_cut 1 = .ok (.getfield 68, 3) := by decide +kernel
theorem dX6_cut_4 : decode cX6_cut 4 = .ok (.ifCond .ne 6, 3) := by decide +kernel
theorem dX6_cut_7 : decode cX6_cut 7 = .ok (.bipush (-3), 2) := by decide +kernel
theorem dX6_cut_9 : decode cX6_cut 9 = .ok (.ireturn, 1) := by decide +kernel
theorem dX6_cut_10 : decode cX6_cut 10 = .ok (.aload_n 0, 1) := by decide +kernel
theorem dX6_cut_11 : decode cX6_cut 11 = .ok (.dup, 1) := by decide +kernel
theorem dX6_cut_12 : decode cX6_cut 12 = .ok (.getfield 68, 3) := by decide +kernel
theorem dX6_cut_15 : decode cX6_cut 15 = .ok (.iconst 1, 1) := by decide +kernel
theorem dX6_cut_16 : decode cX6_cut 16 = .ok (.isub, 1) := by decide +kernel
theorem dX6_cut_17 : decode cX6_cut 17 = .ok (.putfield 68, 3) := by decide +kernel
theorem dX6_cut_20 : decode cX6_cut 20 = .ok (.aload_n 0, 1) := by decide +kernel
theorem dX6_cut_21 : decode cX6_cut 21 = .ok (.getfield 68, 3) := by decide +kernel
theorem dX6_cut_24 : decode cX6_cut 24 = .ok (.ireturn, 1) := by decide +kernel
set_option maxRecDepth 20000 in
theorem ggX6_isItem_X6_within : GoodIn wsX6_isItem wsX6_within := goodIn_r _ [6] (by decide +kernel) (by decide +kernel)
set_option maxRecDepth 20000 in
theorem gX6_isItem_X6_within : GoodIn wsX6_isItem (va_wsS RX6 64 yX6_within wsX6_within) := goodIn_app (goodIn_of _ (by decide +kernel)) ggX6_isItem_X6_within
theorem dX6_isItem_0 : decode cX6_isItem 0 = .ok (.iload_n 2, 1) := by decide +kernel
theorem dX6_isItem_1 : decode cX6_isItem 1 = .ok (.iconst 0, 1) := by decide +kernel
theorem dX6_isItem_2 : decode cX6_isItem 2 = .ok (.aload_n 0, 1) := by decide +kernel
theorem dX6_isItem_3 : decode cX6_isItem 3 = .ok (.getfield 20, 3) := by decide +kernel
theorem dX6_isItem_6 : decode cX6_isItem 6 = .ok (.iload_n 1, 1) := by decide +kernel
theorem dX6_isItem_7 : decode cX6_isItem 7 = .ok (.iaload, 1) := by decide +kernel
theorem dX6_isItem_8 : decode cX6_isItem 8 = .ok (.iconst 1, 1) := by decide +kernel
theorem dX6_isItem_9 : decode cX6_isItem 9 = .ok (.isub, 1) := by decide +kernel
theorem dX6_isItem_10 : decode cX6_isItem 10 = .ok (.invokestatic 64, 3) := by decide +kernel
theorem dX6_isItem_13 : decode cX6_isItem 13 = .ok (.ifCond .eq 22, 3) := by decide +kernel
theorem dX6_isItem_16 : decode cX6_isItem 16 = .ok (.aload_n 0, 1) := by decide +kernel
theorem dX6_isItem_17 : decode cX6_isItem 17 = .ok (.getfield 23, 3) := by decide +kernel
theorem dX6_isItem_20 : decode cX6_isItem 20 = .ok (.bipush 12, 2) := by decide +kernel
theorem dX6_isItem_22 : decode cX6_isItem 22 = .ok (.iload_n 1, 1) := by decide +kernel
theorem dX6_isItem_23 : decode cX6_isItem 23 = .ok (.imul, 1) := by decide +kernel
theorem dX6_isItem_24 : decode cX6_isItem 24 = .ok (.iload_n 2, 1) := by decide +kernel
theorem dX6_isItem_25 : decode cX6_isItem 25 = .ok (.iadd, 1) := by decide +kernel
theorem dX6_isItem_26 : decode cX6_isItem 26 = .ok (.iaload, 1) := by decide +kernel
theorem dX6_isItem_27 : decode cX6_isItem 27 = .ok (.iload_n 3, 1) := by decide +kernel
theorem dX6_isItem_28 : decode cX6_isItem 28 = .ok (.if_icmp .ne 7, 3) := by decide +kernel
theorem dX6_isItem_31 : decode cX6_isItem 31 = .ok (.iconst 1, 1) := by decide +kernel
theorem dX6_isItem_32 : decode cX6_isItem 32 = .ok (.goto 4, 3) := by decide +kernel
theorem dX6_isItem_35 : decode cX6_isItem 35 = .ok (.iconst 0, 1) := by decide +kernel
theorem dX6_isItem_36 : decode cX6_isItem 36 = .ok (.ireturn, 1) := by decide +kernel
set_option maxRecDepth 20000 in
theorem ggX6_isWho_X6_within : GoodIn wsX6_isWho wsX6_within := goodIn_r _ [6] (by decide +kernel) (by decide +kernel)
set_option maxRecDepth 20000 in
theorem gX6_isWho_X6_within : GoodIn wsX6_isWho (va_wsS RX6 64 yX6_within wsX6_within) := goodIn_app (goodIn_of _ (by decide +kernel)) ggX6_isWho_X6_within
theorem dX6_isWho_0 : decode cX6_isWho 0 = .ok (.iload_n 2, 1) := by decide +kernel
theorem dX6_isWho_1 : decode cX6_isWho 1 = .ok (.iconst 0, 1) := by decide +kernel
