theorem dX0_init_0 : decode cX0_init 0 = .ok (.aload_n 0, 1) := by decide +kernel
theorem dX0_init_1 : decode cX0_init 1 = .ok (.invokespecial 3, 3) := by decide +kernel
theorem dX0_init_4 : decode cX0_init 4 = .ok (.aload_n 0, 1) := by decide +kernel
theorem dX0_init_5 : decode cX0_init 5 = .ok (.bipush 16, 2) := by decide +kernel
theorem dX0_init_7 : decode cX0_init 7 = .ok (.newarray .boolean, 2) := by decide +kernel
theorem dX0_init_9 : decode cX0_init 9 = .ok (.putfield 9, 3) := by decide +kernel
theorem dX0_init_12 : decode cX0_init 12 = .ok (.aload_n 0, 1) := by decide +kernel
theorem dX0_init_13 : decode cX0_init 13 = .ok (.bipush 16, 2) := by decide +kernel
theorem dX0_init_15 : decode cX0_init 15 = .ok (.newarray .int, 2) := by decide +kernel
theorem dX0_init_17 : decode cX0_init 17 = .ok (.putfield 15, 3) := by decide +kernel
theorem dX0_init_20 : decode cX0_init 20 = .ok (.aload_n 0, 1) := by decide +kernel
theorem dX0_init_21 : decode cX0_init 21 = .ok (.bipush 16, 2) := by decide +kernel
theorem dX0_init_23 : decode cX0_init 23 = .ok (.newarray .int, 2) := by decide +kernel
theorem dX0_init_25 : decode cX0_init 25 = .ok (.putfield 19, 3) := by decide +kernel
theorem dX0_init_28 : decode cX0_init 28 = .ok (.aload_n 0, 1) := by decide +kernel
theorem dX0_init_29 : decode cX0_init 29 = .ok (.bipush 16, 2) := by decide +kernel
theorem dX0_init_31 : decode cX0_init 31 = .ok (.newarray .int, 2) := by decide +kernel
theorem dX0_init_33 : decode cX0_init 33 = .ok (.putfield 22, 3) := by decide +kernel
theorem dX0_init_36 : decode cX0_init 36 = .ok (.aload_n 0, 1) := by decide +kernel
theorem dX0_init_37 : decode cX0_init 37 = .ok (.bipush 16, 2) := by decide +kernel
theorem dX0_init_39 : decode cX0_init 39 = .ok (.newarray .int, 2) := by decide +kernel
theorem dX0_init_41 : decode cX0_init 41 = .ok (.putfield 25, 3) := by decide +kernel
theorem dX0_init_44 : decode cX0_init 44 = .ok (.aload_n 0, 1) := by decide +kernel
theorem dX0_init_45 : decode cX0_init 45 = .ok (.sipush 128, 3) := by decide +kernel
theorem dX0_init_48 : decode cX0_init 48 = .ok (.newarray .long, 2) := by decide +kernel
theorem dX0_init_50 : decode cX0_init 50 = .ok (.putfield 28, 3) := by decide +kernel
theorem dX0_init_53 : decode cX0_init 53 = .ok (.aload_n 0, 1) := by decide +kernel
theorem dX0_init_54 : decode cX0_init 54 = .ok (.sipush 128, 3) := by decide +kernel
theorem dX0_init_57 : decode cX0_init 57 = .ok (.newarray .long, 2) := by decide +kernel
theorem dX0_init_59 : decode cX0_init 59 = .ok (.putfield 32, 3) := by decide +kernel
theorem dX0_init_62 : decode cX0_init 62 = .ok (.aload_n 0, 1) := by decide +kernel
theorem dX0_init_63 : decode cX0_init 63 = .ok (.bipush 16, 2) := by decide +kernel
theorem dX0_init_65 : decode cX0_init 65 = .ok (.newarray .int, 2) := by decide +kernel
theorem dX0_init_67 : decode cX0_init 67 = .ok (.putfield 35, 3) := by decide +kernel
theorem dX0_init_70 : decode cX0_init 70 = .ok (.aload_n 0, 1) := by decide +kernel
theorem dX0_init_71 : decode cX0_init 71 = .ok (.iconst 0, 1) := by decide +kernel
theorem dX0_init_72 : decode cX0_init 72 = .ok (.putfield 38, 3) := by decide +kernel
theorem dX0_init_75 : decode cX0_init 75 = .ok (.return_, 1) := by decide +kernel
theorem dX0_clear_0 : decode cX0_clear 0 = .ok (.aload_n 0, 1) := by decide +kernel
theorem dX0_clear_1 : decode cX0_clear 1 = .ok (.iconst 0, 1) := by decide +kernel
theorem dX0_clear_2 : decode cX0_clear 2 = .ok (.putfield 38, 3) := by decide +kernel
theorem dX0_clear_5 : decode cX0_clear 5 = .ok (.return_, 1) := by decide +kernel
set_option maxRecDepth 20000 in
theorem ggX0_append_X5_isWithin : GoodIn wsX0_append wsX5_isWithin := goodIn_r _ [7] (by decide +kernel) (by decide +kernel)
set_option maxRecDepth 20000 in
theorem gX0_append_X5_isWithin_n42 : GoodIn wsX0_append (wsX5_isWithin) := ggX0_append_X5_isWithin
theorem dX0_append_0 : decode cX0_append 0 = .ok (.aload_n 0, 1) := by decide +kernel
theorem dX0_append_1 : decode cX0_append 1 = .ok (.getfield 38, 3) := by decide +kernel
theorem dX0_append_4 : decode cX0_append 4 = .ok (.bipush 16, 2) := by decide +kernel
theorem dX0_append_6 : decode cX0_append 6 = .ok (.invokestatic 42, 3) := by decide +kernel
theorem dX0_append_9 : decode cX0_append 9 = .ok (.ifCond .eq 43, 3) := by decide +kernel
theorem dX0_append_12 : decode cX0_append 12 = .ok (.aload_n 0, 1) := by decide +kernel
theorem dX0_append_13 : decode cX0_append 13 = .ok (.getfield 9, 3) := by decide +kernel
theorem dX0_append_16 : decode cX0_append 16 = .ok (.aload_n 0, 1) := by decide +kernel
theorem dX0_append_17 : decode cX0_append 17 = .ok (.getfield 38, 3) := by decide +kernel
theorem dX0_append_20 : decode cX0_append 20 = .ok (.iload_n 1, 1) := by decide +kernel
theorem dX0_append_21 : decode cX0_append 21 = .ok (.bastore, 1) := by decide +kernel
theorem dX0_append_22 : decode cX0_append 22 = .ok (.aload_n 0, 1) := by decide +kernel
theorem dX0_append_23 : decode cX0_append 23 = .ok (.getfield 15, 3) := by decide +kernel
theorem dX0_append_26 : decode cX0_append 26 = .ok (.aload_n 0, 1) := by decide +kernel
theorem dX0_append_27 : decode cX0_append 27 = .ok (.getfield 38, 3) := by decide +kernel
theorem dX0_append_30 : decode cX0_append 30 = .ok (.iload_n 2, 1) := by decide +kernel
theorem dX0_append_31 : decode cX0_append 31 = .ok (.iastore, 1) := by decide +kernel
theorem dX0_append_32 : decode cX0_append 32 = .ok (.aload_n 0, 1) := by decide +kernel
theorem dX0_append_33 : decode cX0_append 33 = .ok (.getfield 19, 3) := by decide +kernel
theorem dX0_append_36 : decode cX0_append 36 = .ok (.aload_n 0, 1) := by decide +kernel
theorem dX0_append_37 : decode cX0_append 37 = .ok (.getfield 38, 3) := by decide +kernel
theorem dX0_append_40 : decode cX0_append 40 = .ok (.iload_n 3, 1) := by decide +kernel
theorem dX0_append_41 : decode cX0_append 41 = .ok (.iastore, 1) := by decide +kernel
theorem dX0_append_42 : decode cX0_append 42 = .ok (.aload_n 0, 1) := by decide +kernel
theorem dX0_append_43 : decode cX0_append 43 = .ok (.dup, 1) := by decide +kernel
theorem dX0_append_44 : decode cX0_append 44 = .ok (.getfield 38, 3) := by decide +kernel
theorem dX0_append_47 : decode cX0_append 47 = .ok (.iconst 1, 1) := by decide +kernel
theorem dX0_append_48 : decode cX0_append 48 = .ok (.iadd, 1) := by decide +kernel
theorem dX0_append_49 : decode cX0_append 49 = .ok (.putfield 38, 3) := by decide +kernel
theorem dX0_append_52 : decode cX0_append 52 = .ok (.return_, 1) := by decide +kernel
set_option maxRecDepth 20000 in
theorem ggX0_holds_X5_isWithin : GoodIn wsX0_holds wsX5_isWithin := goodIn_r _ [4] (by decide +kernel) (by decide +kernel)
set_option maxRecDepth 20000 in
theorem gX0_holds_X5_isWithin_n42 : GoodIn wsX0_holds (wsX5_isWithin) := ggX0_holds_X5_isWithin
theorem dX0_holds_0 : decode cX0_holds 0 = .ok (.iload_n 1, 1) := by decide +kernel
theorem dX0_holds_1 : decode cX0_holds 1 = .ok (.aload_n 0, 1) := by decide +kernel
theorem dX0_holds_2 : decode cX0_holds 2 = .ok (.getfield 38, 3) := by decide +kernel
theorem dX0_holds_5 : decode cX0_holds 5 = .ok (.invokestatic 42, 3) := by decide +kernel
theorem dX0_holds_8 : decode cX0_holds 8 = .ok (.ifCond .eq 13, 3) := by decide +kernel
theorem dX0_holds_11 : decode cX0_holds 11 = .ok (.iload_n 1, 1) := by decide +kernel
theorem dX0_holds_12 : decode cX0_holds 12 = .ok (.bipush 16, 2) := by decide +kernel
theorem dX0_holds_14 : decode cX0_holds 14 = .ok (.if_icmp .ge 7, 3) := by decide +kernel
theorem dX0_holds_17 : decode cX0_holds 17 = .ok (.iconst 1, 1) := by decide +kernel
theorem dX0_holds_18 : decode cX0_holds 18 = .ok (.goto 4, 3) := by decide +kernel
theorem dX0_holds_21 : decode cX0_holds 21 = .ok (.iconst 0, 1) := by decide +kernel
theorem dX0_holds_22 : decode cX0_holds 22 = .ok (.ireturn, 1) := by decide +kernel
set_option maxRecDepth 20000 in
theorem ggX0_ownSet_X0_holds : GoodIn wsX0_ownSet wsX0_holds := goodIn_r _ [6, 7, 8, 9, 10, 11, 12, 13, 14, 15, 16, 17, 18, 19] (by decide +kernel) (by decide +kernel)
set_option maxRecDepth 20000 in
theorem gX0_ownSet_X0_holds : GoodIn wsX0_ownSet (wsV RX0 46 RX0 yX0_holds wsX0_holds) := goodIn_app (goodIn_of _ (by decide +kernel)) ggX0_ownSet_X0_holds
theorem dX0_ownSet_0 : decode cX0_ownSet 0 = .ok (.aload_n 0, 1) := by decide +kernel
theorem dX0_ownSet_1 : decode cX0_ownSet 1 = .ok (.iload_n 1, 1) := by decide +kernel
theorem dX0_ownSet_2 : decode cX0_ownSet 2 = .ok (.invokevirtual 46, 3) := by decide +kernel
theorem dX0_ownSet_5 : decode cX0_ownSet 5 = .ok (.ifCond .eq 12, 3) := by decide +kernel
theorem dX0_ownSet_8 : decode cX0_ownSet 8 = .ok (.aload_n 0, 1) := by decide +kernel
theorem dX0_ownSet_9 : decode cX0_ownSet 9 = .ok (.getfield 15, 3) := by decide +kernel
theorem dX0_ownSet_12 : decode cX0_ownSet 12 = .ok (.iload_n 1, 1) := by decide +kernel
theorem dX0_ownSet_13 : decode cX0_ownSet 13 = .ok (.iaload, 1) := by decide +kernel
theorem dX0_ownSet_14 : decode cX0_ownSet 14 = .ok (.goto 4, 3) := by decide +kernel
theorem dX0_ownSet_17 : decode cX0_ownSet 17 = .ok (.iconst 0, 1) := by decide +kernel
theorem dX0_ownSet_18 : decode cX0_ownSet 18 = .ok (.ireturn, 1) := by decide +kernel
set_option maxRecDepth 20000 in
theorem ggX0_linkAt_X0_holds : GoodIn wsX0_linkAt wsX0_holds := goodIn_r _ [6, 7, 8, 9, 10, 11, 12, 13, 14, 15, 16, 17, 18, 19] (by decide +kernel) (by decide +kernel)
set_option maxRecDepth 20000 in
theorem gX0_linkAt_X0_holds : GoodIn wsX0_linkAt (wsV RX0 46 RX0 yX0_holds wsX0_holds) := goodIn_app (goodIn_of _ (by decide +kernel)) ggX0_linkAt_X0_holds
theorem dX0_linkAt_0 : decode cX0_linkAt 0 = .ok (.aload_n 0, 1) := by decide +kernel
theorem dX0_linkAt_1 : decode cX0_linkAt 1 = .ok (.iload_n 1, 1) := by decide +kernel
theorem dX0_linkAt_2 : decode cX0_linkAt 2 = .ok (.invokevirtual 46, 3) := by decide +kernel
theorem dX0_linkAt_5 : decode cX0_linkAt 5 = .ok (.ifCond .eq 12, 3) := by decide +kernel
theorem dX0_linkAt_8 : decode cX0_linkAt 8 = .ok (.aload_n 0, 1) := by decide +kernel
theorem dX0_linkAt_9 : decode cX0_linkAt 9 = .ok (.getfield 19, 3) := by decide +kernel
theorem dX0_linkAt_12 : decode cX0_linkAt 12 = .ok (.iload_n 1, 1) := by decide +kernel
theorem dX0_linkAt_13 : decode cX0_linkAt 13 = .ok (.iaload, 1) := by decide +kernel
theorem dX0_linkAt_14 : decode cX0_linkAt 14 = .ok (.goto 4, 3) := by decide +kernel
theorem dX0_linkAt_17 : decode cX0_linkAt 17 = .ok (.iconst 0, 1) := by decide +kernel
theorem dX0_linkAt_18 : decode cX0_linkAt 18 = .ok (.ireturn, 1) := by decide +kernel
set_option maxRecDepth 20000 in
theorem ggX0_ownSetsWith_X0_ownSet : GoodIn wsX0_ownSetsWith wsX0_ownSet := goodIn_r _ [6, 7, 8, 9, 10, 5, 11, 1, 12, 13, 14, 17, 18, 19, 20, 21, 22, 23, 24, 25] (by decide +kernel) (by decide +kernel)
set_option maxRecDepth 20000 in
theorem gX0_ownSetsWith_X0_ownSet : GoodIn wsX0_ownSetsWith (wsV RX0 50 RX0 yX0_ownSet wsX0_ownSet) := goodIn_app (goodIn_of _ (by decide +kernel)) ggX0_ownSetsWith_X0_ownSet
set_option maxRecDepth 20000 in
theorem ggX0_ownSetsWith_X5_bitOf : GoodIn wsX0_ownSetsWith wsX5_bitOf := goodIn_r _ [16] (by decide +kernel) (by decide +kernel)
set_option maxRecDepth 20000 in
theorem gX0_ownSetsWith_X5_bitOf_n54 : GoodIn wsX0_ownSetsWith (wsX5_bitOf) := ggX0_ownSetsWith_X5_bitOf
theorem dX0_ownSetsWith_0 : decode cX0_ownSetsWith 0 = .ok (.iconst 0, 1) := by decide +kernel
theorem dX0_ownSetsWith_1 : decode cX0_ownSetsWith 1 = .ok (.istore_n 2, 1) := by decide +kernel
theorem dX0_ownSetsWith_2 : decode cX0_ownSetsWith 2 = .ok (.iconst 0, 1) := by decide +kernel
theorem dX0_ownSetsWith_3 : decode cX0_ownSetsWith 3 = .ok (.istore_n 3, 1) := by decide +kernel
theorem dX0_ownSetsWith_4 : decode cX0_ownSetsWith 4 = .ok (.iload_n 3, 1) := by decide +kernel
theorem dX0_ownSetsWith_5 : decode cX0_ownSetsWith 5 = .ok (.aload_n 0, 1) := by decide +kernel
theorem dX0_ownSetsWith_6 : decode cX0_ownSetsWith 6 = .ok (.getfield 38, 3) := by decide +kernel
theorem dX0_ownSetsWith_9 : decode cX0_ownSetsWith 9 = .ok (.if_icmp .ge 25, 3) := by decide +kernel
theorem dX0_ownSetsWith_12 : decode cX0_ownSetsWith 12 = .ok (.aload_n 0, 1) := by decide +kernel
theorem dX0_ownSetsWith_13 : decode cX0_ownSetsWith 13 = .ok (.iload_n 3, 1) := by decide +kernel
theorem dX0_ownSetsWith_14 : decode cX0_ownSetsWith 14 = .ok (.invokevirtual 50, 3) := by decide +kernel
theorem dX0_ownSetsWith_17 : decode cX0_ownSetsWith 17 = .ok (.iload_n 1, 1) := by decide +kernel
theorem dX0_ownSetsWith_18 : decode cX0_ownSetsWith 18 = .ok (.invokestatic 54, 3) := by decide +kernel
theorem dX0_ownSetsWith_21 : decode cX0_ownSetsWith 21 = .ok (.iand, 1) := by decide +kernel
theorem dX0_ownSetsWith_22 : decode cX0_ownSetsWith 22 = .ok (.ifCond .eq 6, 3) := by decide +kernel
theorem dX0_ownSetsWith_25 : decode cX0_ownSetsWith 25 = .ok (.iinc 2 1, 3) := by decide +kernel
theorem dX0_ownSetsWith_28 : decode cX0_ownSetsWith 28 = .ok (.iinc 3 1, 3) := by decide +kernel
theorem dX0_ownSetsWith_31 : decode cX0_ownSetsWith 31 = .ok (.goto (-27), 3) := by decide +kernel
theorem dX0_ownSetsWith_34 : decode cX0_ownSetsWith 34 = .ok (.iload_n 2, 1) := by decide +kernel
theorem dX0_ownSetsWith_35 : decode cX0_ownSetsWith 35 = .ok (.ireturn, 1) := by decide +kernel
set_option maxRecDepth 20000 in
theorem ggX0_ownSetsJoined_X0_ownSet : GoodIn wsX0_ownSetsJoined wsX0_ownSet := goodIn_r _ [5, 6, 7, 8, 9, 4, 10, 11, 12, 13, 14, 15, 16, 17, 18, 19, 20, 21, 22, 23] (by decide +kernel) (by decide +kernel)
set_option maxRecDepth 20000 in
theorem gX0_ownSetsJoined_X0_ownSet : GoodIn wsX0_ownSetsJoined (wsV RX0 50 RX0 yX0_ownSet wsX0_ownSet) := goodIn_app (goodIn_of _ (by decide +kernel)) ggX0_ownSetsJoined_X0_ownSet
theorem dX0_ownSetsJoined_0 : decode cX0_ownSetsJoined 0 = .ok (.iconst 0, 1) := by decide +kernel
theorem dX0_ownSetsJoined_1 : decode cX0_ownSetsJoined 1 = .ok (.istore_n 3, 1) := by decide +kernel
theorem dX0_ownSetsJoined_2 : decode cX0_ownSetsJoined 2 = .ok (.iconst 0, 1) := by decide +kernel
theorem dX0_ownSetsJoined_3 : decode cX0_ownSetsJoined 3 = .ok (.istore 4, 2) := by decide +kernel
theorem dX0_ownSetsJoined_5 : decode cX0_ownSetsJoined 5 = .ok (.iload 4, 2) := by decide +kernel
theorem dX0_ownSetsJoined_7 : decode cX0_ownSetsJoined 7 = .ok (.iload_n 2, 1) := by decide +kernel
theorem dX0_ownSetsJoined_8 : decode cX0_ownSetsJoined 8 = .ok (.if_icmp .ge 20, 3) := by decide +kernel
theorem dX0_ownSetsJoined_11 : decode cX0_ownSetsJoined 11 = .ok (.iload_n 3, 1) := by decide +kernel
theorem dX0_ownSetsJoined_12 : decode cX0_ownSetsJoined 12 = .ok (.aload_n 0, 1) := by decide +kernel
theorem dX0_ownSetsJoined_13 : decode cX0_ownSetsJoined 13 = .ok (.iload_n 1, 1) := by decide +kernel
theorem dX0_ownSetsJoined_14 : decode cX0_ownSetsJoined 14 = .ok (.iload 4, 2) := by decide +kernel
theorem dX0_ownSetsJoined_16 : decode cX0_ownSetsJoined 16 = .ok (.iadd, 1) := by decide +kernel
theorem dX0_ownSetsJoined_17 : decode cX0_ownSetsJoined 17 = .ok (.invokevirtual 50, 3) := by decide +kernel
theorem dX0_ownSetsJoined_20 : decode cX0_ownSetsJoined 20 = .ok (.ior, 1) := by decide +kernel
theorem dX0_ownSetsJoined_21 : decode cX0_ownSetsJoined 21 = .ok (.istore_n 3, 1) := by decide +kernel
theorem dX0_ownSetsJoined_22 : decode cX0_ownSetsJoined 22 = .ok (.iinc 4 1, 3) := by decide +kernel
theorem dX0_ownSetsJoined_25 : decode cX0_ownSetsJoined 25 = .ok (.goto (-20), 3) := by decide +kernel
theorem dX0_ownSetsJoined_28 : decode cX0_ownSetsJoined 28 = .ok (.iload_n 3, 1) := by decide +kernel
theorem dX0_ownSetsJoined_29 : decode cX0_ownSetsJoined 29 = .ok (.ireturn, 1) := by decide +kernel
set_option maxRecDepth 20000 in
theorem ggX0_narrowedSet_X0_holds : GoodIn wsX0_narrowedSet wsX0_holds := goodIn_r _ [6, 7, 8, 9, 10, 11, 12, 13, 14, 15, 16, 17, 18, 19] (by decide +kernel) (by decide +kernel)
set_option maxRecDepth 20000 in
theorem gX0_narrowedSet_X0_holds : GoodIn wsX0_narrowedSet (wsV RX0 46 RX0 yX0_holds wsX0_holds) := goodIn_app (goodIn_of _ (by decide +kernel)) ggX0_narrowedSet_X0_holds
theorem dX0_narrowedSet_0 : decode cX0_narrowedSet 0 = .ok (.aload_n 0, 1) := by decide +kernel
theorem dX0_narrowedSet_1 : decode cX0_narrowedSet 1 = .ok (.iload_n 1, 1) := by decide +kernel
theorem dX0_narrowedSet_2 : decode cX0_narrowedSet 2 = .ok (.invokevirtual 46, 3) := by decide +kernel
theorem dX0_narrowedSet_5 : decode cX0_narrowedSet 5 = .ok (.ifCond .eq 12, 3) := by decide +kernel
theorem dX0_narrowedSet_8 : decode cX0_narrowedSet 8 = .ok (.aload_n 0, 1) := by decide +kernel
theorem dX0_narrowedSet_9 : decode cX0_narrowedSet 9 = .ok (.getfield 22, 3) := by decide +kernel
theorem dX0_narrowedSet_12 : decode cX0_narrowedSet 12 = .ok (.iload_n 1, 1) := by decide +kernel
theorem dX0_narrowedSet_13 : decode cX0_narrowedSet 13 = .ok (.iaload, 1) := by decide +kernel
theorem dX0_narrowedSet_14 : decode cX0_narrowedSet 14 = .ok (.goto 4, 3) := by decide +kernel
theorem dX0_narrowedSet_17 : decode cX0_narrowedSet 17 = .ok (.iconst 0, 1) := by decide +kernel
theorem dX0_narrowedSet_18 : decode cX0_narrowedSet 18 = .ok (.ireturn, 1) := by decide +kernel
set_option maxRecDepth 20000 in
theorem ggX0_narrow_X0_ownSet : GoodIn wsX0_narrow wsX0_ownSet := goodIn_r _ [6, 7, 8, 9, 10, 5, 11, 12, 13, 14, 15, 40, 41, 42, 43, 44, 45, 46, 47, 48] (by decide +kernel) (by decide +kernel)
set_option maxRecDepth 20000 in
theorem gX0_narrow_X0_ownSet : GoodIn wsX0_narrow (wsV RX0 50 RX0 yX0_ownSet wsX0_ownSet) := goodIn_app (goodIn_of _ (by decide +kernel)) ggX0_narrow_X0_ownSet
set_option maxRecDepth 20000 in
theorem ggX0_narrow_X0_narrowOnce : GoodIn wsX0_narrow wsX0_narrowOnce := goodIn_r _ [19, 20, 1, 21, 22, 23, 5, 24, 8, 9, 10, 11, 12, 13, 14, 15, 25, 26, 27, 28, 29, 30, 31, 32, 33, 34, 35, 36, 37, 38, 39, 40, 41, 42, 43, 44, 45, 46, 47, 48] (by decide +kernel) (by decide +kernel)
set_option maxRecDepth 20000 in
theorem gX0_narrow_X0_narrowOnce : GoodIn wsX0_narrow (wsV RX0 57 RX0 yX0_narrowOnce wsX0_narrowOnce) := goodIn_app (goodIn_of _ (by decide +kernel)) ggX0_narrow_X0_narrowOnce
theorem dX0_narrow_0 : decode cX0_narrow 0 = .ok (.iconst 0, 1) := by decide +kernel
theorem dX0_narrow_1 : decode cX0_narrow 1 = .ok (.istore_n 1, 1) := by decide +kernel
theorem dX0_narrow_2 : decode cX0_narrow 2 = .ok (.iload_n 1, 1) := by decide +kernel
theorem dX0_narrow_3 : decode cX0_narrow 3 = .ok (.bipush 16, 2) := by decide +kernel
theorem dX0_narrow_5 : decode cX0_narrow 5 = .ok (.if_icmp .ge 20, 3) := by decide +kernel
theorem dX0_narrow_8 : decode cX0_narrow 8 = .ok (.aload_n 0, 1) := by decide +kernel
theorem dX0_narrow_9 : decode cX0_narrow 9 = .ok (.getfield 22, 3) := by decide +kernel
theorem dX0_narrow_12 : decode cX0_narrow 12 = .ok (.iload_n 1, 1) := by decide +kernel
theorem dX0_narrow_13 : decode cX0_narrow 13 = .ok (.aload_n 0, 1) := by decide +kernel
theorem dX0_narrow_14 : decode cX0_narrow 14 = .ok (.iload_n 1, 1) := by decide +kernel
theorem dX0_narrow_15 : decode cX0_narrow 15 = .ok (.invokevirtual 50, 3) := by decide +kernel
theorem dX0_narrow_18 : decode cX0_narrow 18 = .ok (.iastore, 1) := by decide +kernel
theorem dX0_narrow_19 : decode cX0_narrow 19 = .ok (.iinc 1 1, 3) := by decide +kernel
theorem dX0_narrow_22 : decode cX0_narrow 22 = .ok (.goto (-20), 3) := by decide +kernel
theorem dX0_narrow_25 : decode cX0_narrow 25 = .ok (.sipush 129, 3) := by decide +kernel
theorem dX0_narrow_28 : decode cX0_narrow 28 = .ok (.istore_n 1, 1) := by decide +kernel
theorem dX0_narrow_29 : decode cX0_narrow 29 = .ok (.iconst 1, 1) := by decide +kernel
theorem dX0_narrow_30 : decode cX0_narrow 30 = .ok (.istore_n 2, 1) := by decide +kernel
theorem dX0_narrow_31 : decode cX0_narrow 31 = .ok (.iconst 0, 1) := by decide +kernel
theorem dX0_narrow_32 : decode cX0_narrow 32 = .ok (.istore_n 3, 1) := by decide +kernel
theorem dX0_narrow_33 : decode cX0_narrow 33 = .ok (.iload_n 2, 1) := by decide +kernel
theorem dX0_narrow_34 : decode cX0_narrow 34 = .ok (.ifCond .eq 19, 3) := by decide +kernel
theorem dX0_narrow_37 : decode cX0_narrow 37 = .ok (.iload_n 3, 1) := by decide +kernel
theorem dX0_narrow_38 : decode cX0_narrow 38 = .ok (.iload_n 1, 1) := by decide +kernel
theorem dX0_narrow_39 : decode cX0_narrow 39 = .ok (.if_icmp .ge 14, 3) := by decide +kernel
theorem dX0_narrow_42 : decode cX0_narrow 42 = .ok (.aload_n 0, 1) := by decide +kernel
theorem dX0_narrow_43 : decode cX0_narrow 43 = .ok (.invokevirtual 57, 3) := by decide +kernel
theorem dX0_narrow_46 : decode cX0_narrow 46 = .ok (.istore_n 2, 1) := by decide +kernel
theorem dX0_narrow_47 : decode cX0_narrow 47 = .ok (.iinc 3 1, 3) := by decide +kernel
theorem dX0_narrow_50 : decode cX0_narrow 50 = .ok (.goto (-17), 3) := by decide +kernel
theorem dX0_narrow_53 : decode cX0_narrow 53 = .ok (.return_, 1) := by decide +kernel
set_option maxRecDepth 20000 in
theorem ggX0_narrowOnce_X0_earlierSet : GoodIn wsX0_narrowOnce wsX0_earlierSet := goodIn_r _ [7, 1, 8, 9, 10, 6, 11, 12, 13, 14, 15, 31, 32, 33, 34, 35, 36, 37, 38, 39] (by decide +kernel) (by decide +kernel)
set_option maxRecDepth 20000 in
theorem gX0_narrowOnce_X0_earlierSet : GoodIn wsX0_narrowOnce (wsV RX0 61 RX0 yX0_earlierSet wsX0_earlierSet) := goodIn_app (goodIn_of _ (by decide +kernel)) ggX0_narrowOnce_X0_earlierSet
set_option maxRecDepth 20000 in
theorem ggX0_narrowOnce_X0_linkAt : GoodIn wsX0_narrowOnce wsX0_linkAt := goodIn_r _ [19, 20, 8, 9, 10, 6, 11, 12, 13, 14, 15, 31, 32, 33, 34, 35, 36, 37, 38, 39] (by decide +kernel) (by decide +kernel)
set_option maxRecDepth 20000 in
theorem gX0_narrowOnce_X0_linkAt : GoodIn wsX0_narrowOnce (wsV RX0 64 RX0 yX0_linkAt wsX0_linkAt) := goodIn_app (goodIn_of _ (by decide +kernel)) ggX0_narrowOnce_X0_linkAt
set_option maxRecDepth 20000 in
theorem ggX0_narrowOnce_X0_leftBy : GoodIn wsX0_narrowOnce wsX0_leftBy := goodIn_r _ [23, 24, 25, 26, 27, 28, 29, 30] (by decide +kernel) (by decide +kernel)
set_option maxRecDepth 20000 in
theorem gX0_narrowOnce_X0_leftBy : GoodIn wsX0_narrowOnce (va_wsS RX0 67 yX0_leftBy wsX0_leftBy) := goodIn_app (goodIn_of _ (by decide +kernel)) ggX0_narrowOnce_X0_leftBy
theorem dX0_narrowOnce_0 : decode cX0_narrowOnce 0 = .ok (.iconst 0, 1) := by decide +kernel
theorem dX0_narrowOnce_1 : decode cX0_narrowOnce 1 = .ok (.istore_n 1, 1) := by decide +kernel
theorem dX0_narrowOnce_2 : decode cX0_narrowOnce 2 = .ok (.iload_n 1, 1) := by decide +kernel
theorem dX0_narrowOnce_3 : decode cX0_narrowOnce 3 = .ok (.bipush 16, 2) := by decide +kernel
theorem dX0_narrowOnce_5 : decode cX0_narrowOnce 5 = .ok (.if_icmp .ge 21, 3) := by decide +kernel
theorem dX0_narrowOnce_8 : decode cX0_narrowOnce 8 = .ok (.aload_n 0, 1) := by decide +kernel
theorem dX0_narrowOnce_9 : decode cX0_narrowOnce 9 = .ok (.getfield 25, 3) := by decide +kernel
theorem dX0_narrowOnce_12 : decode cX0_narrowOnce 12 = .ok (.iload_n 1, 1) := by decide +kernel
theorem dX0_narrowOnce_13 : decode cX0_narrowOnce 13 = .ok (.aload_n 0, 1) := by decide +kernel
theorem dX0_narrowOnce_14 : decode cX0_narrowOnce 14 = .ok (.getfield 22, 3) := by decide +kernel
theorem dX0_narrowOnce_17 : decode cX0_narrowOnce 17 = .ok (.iload_n 1, 1) := by decide +kernel
theorem dX0_narrowOnce_18 : decode cX0_narrowOnce 18 = .ok (.iaload, 1) := by decide +kernel
theorem dX0_narrowOnce_19 : decode cX0_narrowOnce 19 = .ok (.iastore, 1) := by decide +kernel
theorem dX0_narrowOnce_20 : decode cX0_narrowOnce 20 = .ok (.iinc 1 1, 3) := by decide +kernel
theorem dX0_narrowOnce_23 : decode cX0_narrowOnce 23 = .ok (.goto (-21), 3) := by decide +kernel
theorem dX0_narrowOnce_26 : decode cX0_narrowOnce 26 = .ok (.iconst 0, 1) := by decide +kernel
theorem dX0_narrowOnce_27 : decode cX0_narrowOnce 27 = .ok (.istore_n 1, 1) := by decide +kernel
theorem dX0_narrowOnce_28 : decode cX0_narrowOnce 28 = .ok (.iconst 0, 1) := by decide +kernel
theorem dX0_narrowOnce_29 : decode cX0_narrowOnce 29 = .ok (.istore_n 2, 1) := by decide +kernel
theorem dX0_narrowOnce_30 : decode cX0_narrowOnce 30 = .ok (.iload_n 2, 1) := by decide +kernel
theorem dX0_narrowOnce_31 : decode cX0_narrowOnce 31 = .ok (.bipush 16, 2) := by decide +kernel
theorem dX0_narrowOnce_33 : decode cX0_narrowOnce 33 = .ok (.if_icmp .ge 80, 3) := by decide +kernel
theorem dX0_narrowOnce_36 : decode cX0_narrowOnce 36 = .ok (.aload_n 0, 1) := by decide +kernel
theorem dX0_narrowOnce_37 : decode cX0_narrowOnce 37 = .ok (.getfield 22, 3) := by decide +kernel
theorem dX0_narrowOnce_40 : decode cX0_narrowOnce 40 = .ok (.iload_n 2, 1) := by decide +kernel
theorem dX0_narrowOnce_41 : decode cX0_narrowOnce 41 = .ok (.aload_n 0, 1) := by decide +kernel
theorem dX0_narrowOnce_42 : decode cX0_narrowOnce 42 = .ok (.getfield 25, 3) := by decide +kernel
theorem dX0_narrowOnce_45 : decode cX0_narrowOnce 45 = .ok (.iload_n 2, 1) := by decide +kernel
theorem dX0_narrowOnce_46 : decode cX0_narrowOnce 46 = .ok (.iaload, 1) := by decide +kernel
theorem dX0_narrowOnce_47 : decode cX0_narrowOnce 47 = .ok (.aload_n 0, 1) := by decide +kernel
theorem dX0_narrowOnce_48 : decode cX0_narrowOnce 48 = .ok (.iload_n 2, 1) := by decide +kernel
theorem dX0_narrowOnce_49 : decode cX0_narrowOnce 49 = .ok (.iconst 1, 1) := by decide +kernel
theorem dX0_narrowOnce_50 : decode cX0_narrowOnce 50 = .ok (.isub, 1) := by decide +kernel
theorem dX0_narrowOnce_51 : decode cX0_narrowOnce 51 = .ok (.invokevirtual 61, 3) := by decide +kernel
theorem dX0_narrowOnce_54 : decode cX0_narrowOnce 54 = .ok (.aload_n 0, 1) := by decide +kernel
theorem dX0_narrowOnce_55 : decode cX0_narrowOnce 55 = .ok (.iload_n 2, 1) := by decide +kernel
theorem dX0_narrowOnce_56 : decode cX0_narrowOnce 56 = .ok (.invokevirtual 64, 3) := by decide +kernel
theorem dX0_narrowOnce_59 : decode cX0_narrowOnce 59 = .ok (.invokestatic 67, 3) := by decide +kernel
theorem dX0_narrowOnce_62 : decode cX0_narrowOnce 62 = .ok (.iand, 1) := by decide +kernel
theorem dX0_narrowOnce_63 : decode cX0_narrowOnce 63 = .ok (.aload_n 0, 1) := by decide +kernel
theorem dX0_narrowOnce_64 : decode cX0_narrowOnce 64 = .ok (.iload_n 2, 1) := by decide +kernel
theorem dX0_narrowOnce_65 : decode cX0_narrowOnce 65 = .ok (.iconst 1, 1) := by decide +kernel
theorem dX0_narrowOnce_66 : decode cX0_narrowOnce 66 = .ok (.iadd, 1) := by decide +kernel
theorem dX0_narrowOnce_67 : decode cX0_narrowOnce 67 = .ok (.invokevirtual 61, 3) := by decide +kernel
theorem dX0_narrowOnce_70 : decode cX0_narrowOnce 70 = .ok (.aload_n 0, 1) := by decide +kernel
theorem dX0_narrowOnce_71 : decode cX0_narrowOnce 71 = .ok (.iload_n 2, 1) := by decide +kernel
theorem dX0_narrowOnce_72 : decode cX0_narrowOnce 72 = .ok (.iconst 1, 1) := by decide +kernel
theorem dX0_narrowOnce_73 : decode cX0_narrowOnce 73 = .ok (.iadd, 1) := by decide +kernel
theorem dX0_narrowOnce_74 : decode cX0_narrowOnce 74 = .ok (.invokevirtual 64, 3) := by decide +kernel
theorem dX0_narrowOnce_77 : decode cX0_narrowOnce 77 = .ok (.invokestatic 67, 3) := by decide +kernel
theorem dX0_narrowOnce_80 : decode cX0_narrowOnce 80 = .ok (.iand, 1) := by decide +kernel
theorem dX0_narrowOnce_81 : decode cX0_narrowOnce 81 = .ok (.iastore, 1) := by decide +kernel
theorem dX0_narrowOnce_82 : decode cX0_narrowOnce 82 = .ok (.iload_n 1, 1) := by decide +kernel
theorem dX0_narrowOnce_83 : decode cX0_narrowOnce 83 = .ok (.ifCond .ne 18, 3) := by decide +kernel
theorem dX0_narrowOnce_86 : decode cX0_narrowOnce 86 = .ok (.aload_n 0, 1) := by decide +kernel
theorem dX0_narrowOnce_87 : decode cX0_narrowOnce 87 = .ok (.getfield 22, 3) := by decide +kernel
theorem dX0_narrowOnce_90 : decode cX0_narrowOnce 90 = .ok (.iload_n 2, 1) := by decide +kernel
theorem dX0_narrowOnce_91 : decode cX0_narrowOnce 91 = .ok (.iaload, 1) := by decide +kernel
theorem dX0_narrowOnce_92 : decode cX0_narrowOnce 92 = .ok (.aload_n 0, 1) := by decide +kernel
theorem dX0_narrowOnce_93 : decode cX0_narrowOnce 93 = .ok (.getfield 25, 3) := by decide +kernel
theorem dX0_narrowOnce_96 : decode cX0_narrowOnce 96 = .ok (.iload_n 2, 1) := by decide +kernel
theorem dX0_narrowOnce_97 : decode cX0_narrowOnce 97 = .ok (.iaload, 1) := by decide +kernel
theorem dX0_narrowOnce_98 : decode cX0_narrowOnce 98 = .ok (.if_icmp .eq 7, 3) := by decide +kernel
theorem dX0_narrowOnce_101 : decode cX0_narrowOnce 101 = .ok (.iconst 1, 1) := by decide +kernel
theorem dX0_narrowOnce_102 : decode cX0_narrowOnce 102 = .ok (.goto 4, 3) := by decide +kernel
theorem dX0_narrowOnce_105 : decode cX0_narrowOnce 105 = .ok (.iconst 0, 1) := by decide +kernel
theorem dX0_narrowOnce_106 : decode cX0_narrowOnce 106 = .ok (.istore_n 1, 1) := by decide +kernel
theorem dX0_narrowOnce_107 : decode cX0_narrowOnce 107 = .ok (.iinc 2 1, 3) := by decide +kernel
theorem dX0_narrowOnce_110 : decode cX0_narrowOnce 110 = .ok (.goto (-80), 3) := by decide +kernel
theorem dX0_narrowOnce_113 : decode cX0_narrowOnce 113 = .ok (.iload_n 1, 1) := by decide +kernel
theorem dX0_narrowOnce_114 : decode cX0_narrowOnce 114 = .ok (.ireturn, 1) := by decide +kernel
set_option maxRecDepth 20000 in
theorem ggX0_earlierSet_X0_holds : GoodIn wsX0_earlierSet wsX0_holds := goodIn_r _ [6, 7, 8, 9, 10, 11, 12, 13, 14, 15, 16, 17, 18, 19] (by decide +kernel) (by decide +kernel)
set_option maxRecDepth 20000 in
theorem gX0_earlierSet_X0_holds : GoodIn wsX0_earlierSet (wsV RX0 46 RX0 yX0_holds wsX0_holds) := goodIn_app (goodIn_of _ (by decide +kernel)) ggX0_earlierSet_X0_holds
theorem dX0_earlierSet_0 : decode cX0_earlierSet 0 = .ok (.aload_n 0, 1) := by decide +kernel
theorem dX0_earlierSet_1 : decode cX0_earlierSet 1 = .ok (.iload_n 1, 1) := by decide +kernel
theorem dX0_earlierSet_2 : decode cX0_earlierSet 2 = .ok (.invokevirtual 46, 3) := by decide +kernel
theorem dX0_earlierSet_5 : decode cX0_earlierSet 5 = .ok (.ifCond .eq 12, 3) := by decide +kernel
theorem dX0_earlierSet_8 : decode cX0_earlierSet 8 = .ok (.aload_n 0, 1) := by decide +kernel
theorem dX0_earlierSet_9 : decode cX0_earlierSet 9 = .ok (.getfield 25, 3) := by decide +kernel
theorem dX0_earlierSet_12 : decode cX0_earlierSet 12 = .ok (.iload_n 1, 1) := by decide +kernel
theorem dX0_earlierSet_13 : decode cX0_earlierSet 13 = .ok (.iaload, 1) := by decide +kernel
theorem dX0_earlierSet_14 : decode cX0_earlierSet 14 = .ok (.goto 4, 3) := by decide +kernel
theorem dX0_earlierSet_17 : decode cX0_earlierSet 17 = .ok (.iconst 0, 1) := by decide +kernel
theorem dX0_earlierSet_18 : decode cX0_earlierSet 18 = .ok (.ireturn, 1) := by decide +kernel
set_option maxRecDepth 20000 in
theorem ggX0_leftBy_J6_bitCount_0f7a4 : GoodIn wsX0_leftBy wsJ6_bitCount_0f7a4 := goodIn_r _ [4, 5, 6, 7] (by decide +kernel) (by decide +kernel)
set_option maxRecDepth 20000 in
theorem gX0_leftBy_J6_bitCount_0f7a4 : GoodIn wsX0_leftBy (va_wsS RX0 71 yJ6_bitCount_0f7a4 wsJ6_bitCount_0f7a4) := goodIn_app (goodIn_of _ (by decide +kernel)) ggX0_leftBy_J6_bitCount_0f7a4
theorem dX0_leftBy_0 : decode cX0_leftBy 0 = .ok (.iload_n 1, 1) := by decide +kernel
theorem dX0_leftBy_1 : decode cX0_leftBy 1 = .ok (.iconst 1, 1) := by decide +kernel
theorem dX0_leftBy_2 : decode cX0_leftBy 2 = .ok (.if_icmp .ne 5, 3) := by decide +kernel
theorem dX0_leftBy_5 : decode cX0_leftBy 5 = .ok (.iload_n 0, 1) := by decide +kernel
theorem dX0_leftBy_6 : decode cX0_leftBy 6 = .ok (.ireturn, 1) := by decide +kernel
theorem dX0_leftBy_7 : decode cX0_leftBy 7 = .ok (.iload_n 1, 1) := by decide +kernel
theorem dX0_leftBy_8 : decode cX0_leftBy 8 = .ok (.iconst 2, 1) := by decide +kernel
theorem dX0_leftBy_9 : decode cX0_leftBy 9 = .ok (.if_icmp .ne 15, 3) := by decide +kernel
theorem dX0_leftBy_12 : decode cX0_leftBy 12 = .ok (.iload_n 0, 1) := by decide +kernel
theorem dX0_leftBy_13 : decode cX0_leftBy 13 = .ok (.invokestatic 71, 3) := by decide +kernel
theorem dX0_leftBy_16 : decode cX0_leftBy 16 = .ok (.iconst 1, 1) := by decide +kernel
theorem dX0_leftBy_17 : decode cX0_leftBy 17 = .ok (.if_icmp .ne 7, 3) := by decide +kernel
theorem dX0_leftBy_20 : decode cX0_leftBy 20 = .ok (.iconst 1, 1) := by decide +kernel
theorem dX0_leftBy_21 : decode cX0_leftBy 21 = .ok (.goto 4, 3) := by decide +kernel
theorem dX0_leftBy_24 : decode cX0_leftBy 24 = .ok (.iconst 0, 1) := by decide +kernel
theorem dX0_leftBy_25 : decode cX0_leftBy 25 = .ok (.istore_n 2, 1) := by decide +kernel
theorem dX0_leftBy_26 : decode cX0_leftBy 26 = .ok (.iload_n 2, 1) := by decide +kernel
theorem dX0_leftBy_27 : decode cX0_leftBy 27 = .ok (.ifCond .eq 13, 3) := by decide +kernel
theorem dX0_leftBy_30 : decode cX0_leftBy 30 = .ok (.sipush 255, 3) := by decide +kernel
theorem dX0_leftBy_33 : decode cX0_leftBy 33 = .ok (.iload_n 0, 1) := by decide +kernel
theorem dX0_leftBy_34 : decode cX0_leftBy 34 = .ok (.iconst (-1), 1) := by decide +kernel
theorem dX0_leftBy_35 : decode cX0_leftBy 35 = .ok (.ixor, 1) := by decide +kernel
theorem dX0_leftBy_36 : decode cX0_leftBy 36 = .ok (.iand, 1) := by decide +kernel
theorem dX0_leftBy_37 : decode cX0_leftBy 37 = .ok (.goto 6, 3) := by decide +kernel
theorem dX0_leftBy_40 : decode cX0_leftBy 40 = .ok (.sipush 255, 3) := by decide +kernel
theorem dX0_leftBy_43 : decode cX0_leftBy 43 = .ok (.ireturn, 1) := by decide +kernel
set_option maxRecDepth 20000 in
theorem ggX0_countWays_X0_linkAt : GoodIn wsX0_countWays wsX0_linkAt := goodIn_r _ [8, 9, 10, 11, 12, 7, 13, 1, 14, 15, 16, 48, 49, 50, 51, 52, 53, 54, 55, 56] (by decide +kernel) (by decide +kernel)
set_option maxRecDepth 20000 in
theorem gX0_countWays_X0_linkAt : GoodIn wsX0_countWays (wsV RX0 64 RX0 yX0_linkAt wsX0_linkAt) := goodIn_app (goodIn_of _ (by decide +kernel)) ggX0_countWays_X0_linkAt
set_option maxRecDepth 20000 in
theorem ggX0_countWays_X0_stepOver : GoodIn wsX0_countWays wsX0_stepOver := goodIn_r _ [20, 21, 10, 11, 12, 7, 13, 1, 14, 15, 16, 22, 23, 24, 25, 26, 27, 28, 29, 30, 31, 32, 33, 34, 48, 49, 50, 51, 52, 53, 54, 55, 56] (by decide +kernel) (by decide +kernel)
set_option maxRecDepth 20000 in
theorem gX0_countWays_X0_stepOver : GoodIn wsX0_countWays (wsV RX0 76 RX0 yX0_stepOver wsX0_stepOver) := goodIn_app (goodIn_of _ (by decide +kernel)) ggX0_countWays_X0_stepOver
set_option maxRecDepth 20000 in
theorem ggX0_countWays_X0_waysWithin : GoodIn wsX0_countWays wsX0_waysWithin := goodIn_r _ [38, 39, 4, 5, 6, 7, 8, 9, 10, 11, 12, 13, 1, 14, 15, 16, 17, 18, 19, 20, 21, 22, 23, 24, 25, 26, 27, 28, 29, 30, 31, 32, 33, 34, 48, 49, 50, 51, 52, 53, 54, 55, 56] (by decide +kernel) (by decide +kernel)
set_option maxRecDepth 20000 in
theorem gX0_countWays_X0_waysWithin : GoodIn wsX0_countWays (wsV RX0 80 RX0 yX0_waysWithin wsX0_waysWithin) := goodIn_app (goodIn_of _ (by decide +kernel)) ggX0_countWays_X0_waysWithin
set_option maxRecDepth 20000 in
theorem ggX0_countWays_X0_setThrough : GoodIn wsX0_countWays wsX0_setThrough := goodIn_r _ [43, 44, 45, 46, 7, 47, 21, 39, 2, 10, 11, 12, 13, 1, 14, 15, 16, 29, 30, 31, 27, 28, 48, 49, 50, 51, 52, 53, 54, 55, 56] (by decide +kernel) (by decide +kernel)
set_option maxRecDepth 20000 in
theorem gX0_countWays_X0_setThrough : GoodIn wsX0_countWays (wsV RX0 84 RX0 yX0_setThrough wsX0_setThrough) := goodIn_app (goodIn_of _ (by decide +kernel)) ggX0_countWays_X0_setThrough
theorem dX0_countWays_0 : decode cX0_countWays 0 = .ok (.lconst 1, 1) := by decide +kernel
theorem dX0_countWays_1 : decode cX0_countWays 1 = .ok (.lstore_n 1, 1) := by decide +kernel
theorem dX0_countWays_2 : decode cX0_countWays 2 = .ok (.aload_n 0, 1) := by decide +kernel
theorem dX0_countWays_3 : decode cX0_countWays 3 = .ok (.getfield 38, 3) := by decide +kernel
theorem dX0_countWays_6 : decode cX0_countWays 6 = .ok (.iconst 1, 1) := by decide +kernel
theorem dX0_countWays_7 : decode cX0_countWays 7 = .ok (.isub, 1) := by decide +kernel
theorem dX0_countWays_8 : decode cX0_countWays 8 = .ok (.istore_n 3, 1) := by decide +kernel
theorem dX0_countWays_9 : decode cX0_countWays 9 = .ok (.iload_n 3, 1) := by decide +kernel
theorem dX0_countWays_10 : decode cX0_countWays 10 = .ok (.ifCond .lt 30, 3) := by decide +kernel
theorem dX0_countWays_13 : decode cX0_countWays 13 = .ok (.aload_n 0, 1) := by decide +kernel
theorem dX0_countWays_14 : decode cX0_countWays 14 = .ok (.aload_n 0, 1) := by decide +kernel
theorem dX0_countWays_15 : decode cX0_countWays 15 = .ok (.getfield 32, 3) := by decide +kernel
theorem dX0_countWays_18 : decode cX0_countWays 18 = .ok (.iload_n 3, 1) := by decide +kernel
theorem dX0_countWays_19 : decode cX0_countWays 19 = .ok (.iload_n 3, 1) := by decide +kernel
theorem dX0_countWays_20 : decode cX0_countWays 20 = .ok (.iconst 1, 1) := by decide +kernel
theorem dX0_countWays_21 : decode cX0_countWays 21 = .ok (.iadd, 1) := by decide +kernel
theorem dX0_countWays_22 : decode cX0_countWays 22 = .ok (.aload_n 0, 1) := by decide +kernel
theorem dX0_countWays_23 : decode cX0_countWays 23 = .ok (.iload_n 3, 1) := by decide +kernel
theorem dX0_countWays_24 : decode cX0_countWays 24 = .ok (.iconst 1, 1) := by decide +kernel
theorem dX0_countWays_25 : decode cX0_countWays 25 = .ok (.iadd, 1) := by decide +kernel
theorem dX0_countWays_26 : decode cX0_countWays 26 = .ok (.invokevirtual 64, 3) := by decide +kernel
theorem dX0_countWays_29 : decode cX0_countWays 29 = .ok (.lload_n 1, 1) := by decide +kernel
theorem dX0_countWays_30 : decode cX0_countWays 30 = .ok (.invokevirtual 76, 3) := by decide +kernel
theorem dX0_countWays_33 : decode cX0_countWays 33 = .ok (.lstore_n 1, 1) := by decide +kernel
theorem dX0_countWays_34 : decode cX0_countWays 34 = .ok (.iinc 3 (-1), 3) := by decide +kernel
theorem dX0_countWays_37 : decode cX0_countWays 37 = .ok (.goto (-28), 3) := by decide +kernel
theorem dX0_countWays_40 : decode cX0_countWays 40 = .ok (.aload_n 0, 1) := by decide +kernel
theorem dX0_countWays_41 : decode cX0_countWays 41 = .ok (.iconst 0, 1) := by decide +kernel
theorem dX0_countWays_42 : decode cX0_countWays 42 = .ok (.aload_n 0, 1) := by decide +kernel
theorem dX0_countWays_43 : decode cX0_countWays 43 = .ok (.getfield 38, 3) := by decide +kernel
theorem dX0_countWays_46 : decode cX0_countWays 46 = .ok (.iconst 1, 1) := by decide +kernel
theorem dX0_countWays_47 : decode cX0_countWays 47 = .ok (.isub, 1) := by decide +kernel
theorem dX0_countWays_48 : decode cX0_countWays 48 = .ok (.invokevirtual 80, 3) := by decide +kernel
theorem dX0_countWays_51 : decode cX0_countWays 51 = .ok (.lstore_n 3, 1) := by decide +kernel
theorem dX0_countWays_52 : decode cX0_countWays 52 = .ok (.iconst 0, 1) := by decide +kernel
theorem dX0_countWays_53 : decode cX0_countWays 53 = .ok (.istore 5, 2) := by decide +kernel
theorem dX0_countWays_55 : decode cX0_countWays 55 = .ok (.iload 5, 2) := by decide +kernel
theorem dX0_countWays_57 : decode cX0_countWays 57 = .ok (.bipush 16, 2) := by decide +kernel
theorem dX0_countWays_59 : decode cX0_countWays 59 = .ok (.if_icmp .ge 22, 3) := by decide +kernel
theorem dX0_countWays_62 : decode cX0_countWays 62 = .ok (.aload_n 0, 1) := by decide +kernel
theorem dX0_countWays_63 : decode cX0_countWays 63 = .ok (.getfield 35, 3) := by decide +kernel
theorem dX0_countWays_66 : decode cX0_countWays 66 = .ok (.iload 5, 2) := by decide +kernel
theorem dX0_countWays_68 : decode cX0_countWays 68 = .ok (.aload_n 0, 1) := by decide +kernel
theorem dX0_countWays_69 : decode cX0_countWays 69 = .ok (.iload 5, 2) := by decide +kernel
theorem dX0_countWays_71 : decode cX0_countWays 71 = .ok (.invokevirtual 84, 3) := by decide +kernel
theorem dX0_countWays_74 : decode cX0_countWays 74 = .ok (.iastore, 1) := by decide +kernel
theorem dX0_countWays_75 : decode cX0_countWays 75 = .ok (.iinc 5 1, 3) := by decide +kernel
theorem dX0_countWays_78 : decode cX0_countWays 78 = .ok (.goto (-23), 3) := by decide +kernel
theorem dX0_countWays_81 : decode cX0_countWays 81 = .ok (.lload_n 3, 1) := by decide +kernel
theorem dX0_countWays_82 : decode cX0_countWays 82 = .ok (.lreturn, 1) := by decide +kernel
set_option maxRecDepth 20000 in
theorem ggX0_waysWithin_X0_linkAt : GoodIn wsX0_waysWithin wsX0_linkAt := goodIn_r _ [6, 7, 8, 9, 10, 5, 11, 12, 13, 14, 15, 34, 35, 36, 37, 38, 39, 40, 41, 42] (by decide +kernel) (by decide +kernel)
set_option maxRecDepth 20000 in
theorem gX0_waysWithin_X0_linkAt : GoodIn wsX0_waysWithin (wsV RX0 64 RX0 yX0_linkAt wsX0_linkAt) := goodIn_app (goodIn_of _ (by decide +kernel)) ggX0_waysWithin_X0_linkAt
set_option maxRecDepth 20000 in
theorem ggX0_waysWithin_X0_stepOver : GoodIn wsX0_waysWithin wsX0_stepOver := goodIn_r _ [19, 20, 8, 9, 10, 5, 11, 12, 13, 14, 15, 21, 22, 23, 24, 25, 26, 27, 28, 29, 30, 31, 32, 33, 34, 35, 36, 37, 38, 39, 40, 41, 42] (by decide +kernel) (by decide +kernel)
set_option maxRecDepth 20000 in
theorem gX0_waysWithin_X0_stepOver : GoodIn wsX0_waysWithin (wsV RX0 76 RX0 yX0_stepOver wsX0_stepOver) := goodIn_app (goodIn_of _ (by decide +kernel)) ggX0_waysWithin_X0_stepOver
theorem dX0_waysWithin_0 : decode cX0_waysWithin 0 = .ok (.lconst 1, 1) := by decide +kernel
theorem dX0_waysWithin_1 : decode cX0_waysWithin 1 = .ok (.lstore_n 3, 1) := by decide +kernel
theorem dX0_waysWithin_2 : decode cX0_waysWithin 2 = .ok (.iload_n 1, 1) := by decide +kernel
theorem dX0_waysWithin_3 : decode cX0_waysWithin 3 = .ok (.istore 5, 2) := by decide +kernel
theorem dX0_waysWithin_5 : decode cX0_waysWithin 5 = .ok (.iload 5, 2) := by decide +kernel
theorem dX0_waysWithin_7 : decode cX0_waysWithin 7 = .ok (.iload_n 2, 1) := by decide +kernel
theorem dX0_waysWithin_8 : decode cX0_waysWithin 8 = .ok (.if_icmp .gt 45, 3) := by decide +kernel
theorem dX0_waysWithin_11 : decode cX0_waysWithin 11 = .ok (.iload 5, 2) := by decide +kernel
theorem dX0_waysWithin_13 : decode cX0_waysWithin 13 = .ok (.iload_n 1, 1) := by decide +kernel
theorem dX0_waysWithin_14 : decode cX0_waysWithin 14 = .ok (.if_icmp .ne 7, 3) := by decide +kernel
theorem dX0_waysWithin_17 : decode cX0_waysWithin 17 = .ok (.iconst 0, 1) := by decide +kernel
theorem dX0_waysWithin_18 : decode cX0_waysWithin 18 = .ok (.goto 9, 3) := by decide +kernel
theorem dX0_waysWithin_21 : decode cX0_waysWithin 21 = .ok (.aload_n 0, 1) := by decide +kernel
theorem dX0_waysWithin_22 : decode cX0_waysWithin 22 = .ok (.iload 5, 2) := by decide +kernel
theorem dX0_waysWithin_24 : decode cX0_waysWithin 24 = .ok (.invokevirtual 64, 3) := by decide +kernel
theorem dX0_waysWithin_27 : decode cX0_waysWithin 27 = .ok (.istore 6, 2) := by decide +kernel
theorem dX0_waysWithin_29 : decode cX0_waysWithin 29 = .ok (.aload_n 0, 1) := by decide +kernel
theorem dX0_waysWithin_30 : decode cX0_waysWithin 30 = .ok (.aload_n 0, 1) := by decide +kernel
theorem dX0_waysWithin_31 : decode cX0_waysWithin 31 = .ok (.getfield 28, 3) := by decide +kernel
theorem dX0_waysWithin_34 : decode cX0_waysWithin 34 = .ok (.iload 5, 2) := by decide +kernel
theorem dX0_waysWithin_36 : decode cX0_waysWithin 36 = .ok (.iload 5, 2) := by decide +kernel
theorem dX0_waysWithin_38 : decode cX0_waysWithin 38 = .ok (.iconst 1, 1) := by decide +kernel
theorem dX0_waysWithin_39 : decode cX0_waysWithin 39 = .ok (.isub, 1) := by decide +kernel
theorem dX0_waysWithin_40 : decode cX0_waysWithin 40 = .ok (.iload 6, 2) := by decide +kernel
theorem dX0_waysWithin_42 : decode cX0_waysWithin 42 = .ok (.lload_n 3, 1) := by decide +kernel
theorem dX0_waysWithin_43 : decode cX0_waysWithin 43 = .ok (.invokevirtual 76, 3) := by decide +kernel
theorem dX0_waysWithin_46 : decode cX0_waysWithin 46 = .ok (.lstore_n 3, 1) := by decide +kernel
theorem dX0_waysWithin_47 : decode cX0_waysWithin 47 = .ok (.iinc 5 1, 3) := by decide +kernel
theorem dX0_waysWithin_50 : decode cX0_waysWithin 50 = .ok (.goto (-45), 3) := by decide +kernel
theorem dX0_waysWithin_53 : decode cX0_waysWithin 53 = .ok (.lload_n 3, 1) := by decide +kernel
theorem dX0_waysWithin_54 : decode cX0_waysWithin 54 = .ok (.lreturn, 1) := by decide +kernel
set_option maxRecDepth 20000 in
theorem ggX0_stepOver_X0_holds : GoodIn wsX0_stepOver wsX0_holds := goodIn_r _ [6, 7, 8, 9, 10, 24, 25, 26, 27, 28, 29, 30, 31, 32] (by decide +kernel) (by decide +kernel)
set_option maxRecDepth 20000 in
theorem gX0_stepOver_X0_holds : GoodIn wsX0_stepOver (wsV RX0 46 RX0 yX0_holds wsX0_holds) := goodIn_app (goodIn_of _ (by decide +kernel)) ggX0_stepOver_X0_holds
set_option maxRecDepth 20000 in
theorem ggX0_stepOver_X0_ownSet : GoodIn wsX0_stepOver wsX0_ownSet := goodIn_r _ [14, 15, 2, 3, 4, 5, 6, 7, 8, 9, 10, 24, 25, 26, 27, 28, 29, 30, 31, 32] (by decide +kernel) (by decide +kernel)
set_option maxRecDepth 20000 in
theorem gX0_stepOver_X0_ownSet : GoodIn wsX0_stepOver (wsV RX0 50 RX0 yX0_ownSet wsX0_ownSet) := goodIn_app (goodIn_of _ (by decide +kernel)) ggX0_stepOver_X0_ownSet
set_option maxRecDepth 20000 in
theorem ggX0_stepOver_X5_bitOf : GoodIn wsX0_stepOver wsX5_bitOf := goodIn_r _ [17] (by decide +kernel) (by decide +kernel)
set_option maxRecDepth 20000 in
theorem gX0_stepOver_X5_bitOf_n54 : GoodIn wsX0_stepOver (wsX5_bitOf) := ggX0_stepOver_X5_bitOf
set_option maxRecDepth 20000 in
theorem ggX0_stepOver_X0_countAt : GoodIn wsX0_stepOver wsX0_countAt := goodIn_r _ [20, 8, 9, 10] (by decide +kernel) (by decide +kernel)
set_option maxRecDepth 20000 in
theorem gX0_stepOver_X0_countAt : GoodIn wsX0_stepOver (va_wsS RX0 87 yX0_countAt wsX0_countAt) := goodIn_app (goodIn_of _ (by decide +kernel)) ggX0_stepOver_X0_countAt
set_option maxRecDepth 20000 in
theorem ggX0_stepOver_X0_fitting : GoodIn wsX0_stepOver wsX0_fitting := goodIn_r _ [23] (by decide +kernel) (by decide +kernel)
set_option maxRecDepth 20000 in
theorem gX0_stepOver_X0_fitting : GoodIn wsX0_stepOver (va_wsS RX0 91 yX0_fitting wsX0_fitting) := goodIn_app (goodIn_of _ (by decide +kernel)) ggX0_stepOver_X0_fitting
set_option maxRecDepth 20000 in
theorem ggX0_stepOver_X5_isWithin : GoodIn wsX0_stepOver wsX5_isWithin := goodIn_r _ [10] (by decide +kernel) (by decide +kernel)
set_option maxRecDepth 20000 in
theorem gX0_stepOver_X5_isWithin_n42 : GoodIn wsX0_stepOver (wsX5_isWithin) := ggX0_stepOver_X5_isWithin
theorem dX0_stepOver_0 : decode cX0_stepOver 0 = .ok (.aload_n 0, 1) := by decide +kernel
theorem dX0_stepOver_1 : decode cX0_stepOver 1 = .ok (.iload_n 2, 1) := by decide +kernel
theorem dX0_stepOver_2 : decode cX0_stepOver 2 = .ok (.invokevirtual 46, 3) := by decide +kernel
theorem dX0_stepOver_5 : decode cX0_stepOver 5 = .ok (.ifCond .eq 12, 3) := by decide +kernel
theorem dX0_stepOver_8 : decode cX0_stepOver 8 = .ok (.aload_n 0, 1) := by decide +kernel
theorem dX0_stepOver_9 : decode cX0_stepOver 9 = .ok (.getfield 9, 3) := by decide +kernel
theorem dX0_stepOver_12 : decode cX0_stepOver 12 = .ok (.iload_n 2, 1) := by decide +kernel
theorem dX0_stepOver_13 : decode cX0_stepOver 13 = .ok (.baload, 1) := by decide +kernel
theorem dX0_stepOver_14 : decode cX0_stepOver 14 = .ok (.ifCond .ne 6, 3) := by decide +kernel
theorem dX0_stepOver_17 : decode cX0_stepOver 17 = .ok (.lload 5, 2) := by decide +kernel
theorem dX0_stepOver_19 : decode cX0_stepOver 19 = .ok (.lreturn, 1) := by decide +kernel
theorem dX0_stepOver_20 : decode cX0_stepOver 20 = .ok (.lconst 0, 1) := by decide +kernel
theorem dX0_stepOver_21 : decode cX0_stepOver 21 = .ok (.lstore 7, 2) := by decide +kernel
theorem dX0_stepOver_23 : decode cX0_stepOver 23 = .ok (.iconst 0, 1) := by decide +kernel
theorem dX0_stepOver_24 : decode cX0_stepOver 24 = .ok (.istore 9, 2) := by decide +kernel
theorem dX0_stepOver_26 : decode cX0_stepOver 26 = .ok (.iload 9, 2) := by decide +kernel
theorem dX0_stepOver_28 : decode cX0_stepOver 28 = .ok (.bipush 8, 2) := by decide +kernel
theorem dX0_stepOver_30 : decode cX0_stepOver 30 = .ok (.if_icmp .ge 74, 3) := by decide +kernel
theorem dX0_stepOver_33 : decode cX0_stepOver 33 = .ok (.lconst 0, 1) := by decide +kernel
theorem dX0_stepOver_34 : decode cX0_stepOver 34 = .ok (.lstore 10, 2) := by decide +kernel
theorem dX0_stepOver_36 : decode cX0_stepOver 36 = .ok (.aload_n 0, 1) := by decide +kernel
theorem dX0_stepOver_37 : decode cX0_stepOver 37 = .ok (.iload_n 2, 1) := by decide +kernel
theorem dX0_stepOver_38 : decode cX0_stepOver 38 = .ok (.invokevirtual 50, 3) := by decide +kernel
theorem dX0_stepOver_41 : decode cX0_stepOver 41 = .ok (.iload 9, 2) := by decide +kernel
theorem dX0_stepOver_43 : decode cX0_stepOver 43 = .ok (.invokestatic 54, 3) := by decide +kernel
theorem dX0_stepOver_46 : decode cX0_stepOver 46 = .ok (.iand, 1) := by decide +kernel
theorem dX0_stepOver_47 : decode cX0_stepOver 47 = .ok (.ifCond .eq 19, 3) := by decide +kernel
theorem dX0_stepOver_50 : decode cX0_stepOver 50 = .ok (.aload_n 1, 1) := by decide +kernel
theorem dX0_stepOver_51 : decode cX0_stepOver 51 = .ok (.iload_n 3, 1) := by decide +kernel
theorem dX0_stepOver_52 : decode cX0_stepOver 52 = .ok (.iload 9, 2) := by decide +kernel
theorem dX0_stepOver_54 : decode cX0_stepOver 54 = .ok (.invokestatic 87, 3) := by decide +kernel
theorem dX0_stepOver_57 : decode cX0_stepOver 57 = .ok (.iload 4, 2) := by decide +kernel
theorem dX0_stepOver_59 : decode cX0_stepOver 59 = .ok (.lload 5, 2) := by decide +kernel
theorem dX0_stepOver_61 : decode cX0_stepOver 61 = .ok (.invokestatic 91, 3) := by decide +kernel
theorem dX0_stepOver_64 : decode cX0_stepOver 64 = .ok (.lstore 10, 2) := by decide +kernel
theorem dX0_stepOver_66 : decode cX0_stepOver 66 = .ok (.iload_n 2, 1) := by decide +kernel
theorem dX0_stepOver_67 : decode cX0_stepOver 67 = .ok (.bipush 8, 2) := by decide +kernel
theorem dX0_stepOver_69 : decode cX0_stepOver 69 = .ok (.imul, 1) := by decide +kernel
theorem dX0_stepOver_70 : decode cX0_stepOver 70 = .ok (.iload 9, 2) := by decide +kernel
theorem dX0_stepOver_72 : decode cX0_stepOver 72 = .ok (.iadd, 1) := by decide +kernel
theorem dX0_stepOver_73 : decode cX0_stepOver 73 = .ok (.istore 12, 2) := by decide +kernel
theorem dX0_stepOver_75 : decode cX0_stepOver 75 = .ok (.iload 12, 2) := by decide +kernel
theorem dX0_stepOver_77 : decode cX0_stepOver 77 = .ok (.aload_n 1, 1) := by decide +kernel
theorem dX0_stepOver_78 : decode cX0_stepOver 78 = .ok (.arraylength, 1) := by decide +kernel
theorem dX0_stepOver_79 : decode cX0_stepOver 79 = .ok (.invokestatic 42, 3) := by decide +kernel
theorem dX0_stepOver_82 : decode cX0_stepOver 82 = .ok (.ifCond .eq 9, 3) := by decide +kernel
theorem dX0_stepOver_85 : decode cX0_stepOver 85 = .ok (.aload_n 1, 1) := by decide +kernel
theorem dX0_stepOver_86 : decode cX0_stepOver 86 = .ok (.iload 12, 2) := by decide +kernel
theorem dX0_stepOver_88 : decode cX0_stepOver 88 = .ok (.lload 10, 2) := by decide +kernel
theorem dX0_stepOver_90 : decode cX0_stepOver 90 = .ok (.lastore, 1) := by decide +kernel
theorem dX0_stepOver_91 : decode cX0_stepOver 91 = .ok (.lload 7, 2) := by decide +kernel
theorem dX0_stepOver_93 : decode cX0_stepOver 93 = .ok (.lload 10, 2) := by decide +kernel
theorem dX0_stepOver_95 : decode cX0_stepOver 95 = .ok (.ladd, 1) := by decide +kernel
theorem dX0_stepOver_96 : decode cX0_stepOver 96 = .ok (.lstore 7, 2) := by decide +kernel
theorem dX0_stepOver_98 : decode cX0_stepOver 98 = .ok (.iinc 9 1, 3) := by decide +kernel
theorem dX0_stepOver_101 : decode cX0_stepOver 101 = .ok (.goto (-75), 3) := by decide +kernel
theorem dX0_stepOver_104 : decode cX0_stepOver 104 = .ok (.lload 7, 2) := by decide +kernel
theorem dX0_stepOver_106 : decode cX0_stepOver 106 = .ok (.lreturn, 1) := by decide +kernel
theorem dX0_fitting_0 : decode cX0_fitting 0 = .ok (.iload_n 2, 1) := by decide +kernel
theorem dX0_fitting_1 : decode cX0_fitting 1 = .ok (.lookupswitch 33 #[(1, 27), (2, 29)], 27) := by decide +kernel
theorem dX0_fitting_28 : decode cX0_fitting 28 = .ok (.lload_n 0, 1) := by decide +kernel
theorem dX0_fitting_29 : decode cX0_fitting 29 = .ok (.lreturn, 1) := by decide +kernel
theorem dX0_fitting_30 : decode cX0_fitting 30 = .ok (.lload_n 3, 1) := by decide +kernel
theorem dX0_fitting_31 : decode cX0_fitting 31 = .ok (.lload_n 0, 1) := by decide +kernel
theorem dX0_fitting_32 : decode cX0_fitting 32 = .ok (.lsub, 1) := by decide +kernel
theorem dX0_fitting_33 : decode cX0_fitting 33 = .ok (.lreturn, 1) := by decide +kernel
theorem dX0_fitting_34 : decode cX0_fitting 34 = .ok (.lload_n 3, 1) := by decide +kernel
theorem dX0_fitting_35 : decode cX0_fitting 35 = .ok (.lreturn, 1) := by decide +kernel
set_option maxRecDepth 20000 in
theorem ggX0_countAt_X5_isWithin : GoodIn wsX0_countAt wsX5_isWithin := goodIn_r _ [3] (by decide +kernel) (by decide +kernel)
set_option maxRecDepth 20000 in
theorem gX0_countAt_X5_isWithin_n42 : GoodIn wsX0_countAt (wsX5_isWithin) := ggX0_countAt_X5_isWithin
theorem dX0_countAt_0 : decode cX0_countAt 0 = .ok (.iload_n 1, 1) := by decide +kernel
theorem dX0_countAt_1 : decode cX0_countAt 1 = .ok (.bipush 8, 2) := by decide +kernel
theorem dX0_countAt_3 : decode cX0_countAt 3 = .ok (.imul, 1) := by decide +kernel
theorem dX0_countAt_4 : decode cX0_countAt 4 = .ok (.iload_n 2, 1) := by decide +kernel
theorem dX0_countAt_5 : decode cX0_countAt 5 = .ok (.iadd, 1) := by decide +kernel
theorem dX0_countAt_6 : decode cX0_countAt 6 = .ok (.istore_n 3, 1) := by decide +kernel
theorem dX0_countAt_7 : decode cX0_countAt 7 = .ok (.iload_n 2, 1) := by decide +kernel
theorem dX0_countAt_8 : decode cX0_countAt 8 = .ok (.bipush 8, 2) := by decide +kernel
theorem dX0_countAt_10 : decode cX0_countAt 10 = .ok (.invokestatic 42, 3) := by decide +kernel
theorem dX0_countAt_13 : decode cX0_countAt 13 = .ok (.ifCond .eq 18, 3) := by decide +kernel
theorem dX0_countAt_16 : decode cX0_countAt 16 = .ok (.iload_n 3, 1) := by decide +kernel
theorem dX0_countAt_17 : decode cX0_countAt 17 = .ok (.aload_n 0, 1) := by decide +kernel
theorem dX0_countAt_18 : decode cX0_countAt 18 = .ok (.arraylength, 1) := by decide +kernel
theorem dX0_countAt_19 : decode cX0_countAt 19 = .ok (.invokestatic 42, 3) := by decide +kernel
theorem dX0_countAt_22 : decode cX0_countAt 22 = .ok (.ifCond .eq 9, 3) := by decide +kernel
theorem dX0_countAt_25 : decode cX0_countAt 25 = .ok (.aload_n 0, 1) := by decide +kernel
theorem dX0_countAt_26 : decode cX0_countAt 26 = .ok (.iload_n 3, 1) := by decide +kernel
theorem dX0_countAt_27 : decode cX0_countAt 27 = .ok (.laload, 1) := by decide +kernel
theorem dX0_countAt_28 : decode cX0_countAt 28 = .ok (.goto 4, 3) := by decide +kernel
theorem dX0_countAt_31 : decode cX0_countAt 31 = .ok (.lconst 0, 1) := by decide +kernel
theorem dX0_countAt_32 : decode cX0_countAt 32 = .ok (.lreturn, 1) := by decide +kernel
set_option maxRecDepth 20000 in
theorem ggX0_waysThrough_X0_holds : GoodIn wsX0_waysThrough wsX0_holds := goodIn_r _ [8, 9, 10, 11, 12, 16, 17, 18, 19, 20, 21, 22, 23, 24] (by decide +kernel) (by decide +kernel)
set_option maxRecDepth 20000 in
theorem gX0_waysThrough_X0_holds : GoodIn wsX0_waysThrough (wsV RX0 46 RX0 yX0_holds wsX0_holds) := goodIn_app (goodIn_of _ (by decide +kernel)) ggX0_waysThrough_X0_holds
set_option maxRecDepth 20000 in
theorem ggX0_waysThrough_X0_countAt : GoodIn wsX0_waysThrough wsX0_countAt := goodIn_r _ [15, 10, 11, 12] (by decide +kernel) (by decide +kernel)
set_option maxRecDepth 20000 in
theorem gX0_waysThrough_X0_countAt : GoodIn wsX0_waysThrough (va_wsS RX0 87 yX0_countAt wsX0_countAt) := goodIn_app (goodIn_of _ (by decide +kernel)) ggX0_waysThrough_X0_countAt
theorem dX0_waysThrough_0 : decode cX0_waysThrough 0 = .ok (.aload_n 0, 1) := by decide +kernel
theorem dX0_waysThrough_1 : decode cX0_waysThrough 1 = .ok (.iload_n 1, 1) := by decide +kernel
theorem dX0_waysThrough_2 : decode cX0_waysThrough 2 = .ok (.invokevirtual 46, 3) := by decide +kernel
theorem dX0_waysThrough_5 : decode cX0_waysThrough 5 = .ok (.ifCond .eq 12, 3) := by decide +kernel
theorem dX0_waysThrough_8 : decode cX0_waysThrough 8 = .ok (.aload_n 0, 1) := by decide +kernel
theorem dX0_waysThrough_9 : decode cX0_waysThrough 9 = .ok (.getfield 9, 3) := by decide +kernel
theorem dX0_waysThrough_12 : decode cX0_waysThrough 12 = .ok (.iload_n 1, 1) := by decide +kernel
theorem dX0_waysThrough_13 : decode cX0_waysThrough 13 = .ok (.baload, 1) := by decide +kernel
theorem dX0_waysThrough_14 : decode cX0_waysThrough 14 = .ok (.ifCond .ne 5, 3) := by decide +kernel
theorem dX0_waysThrough_17 : decode cX0_waysThrough 17 = .ok (.lconst 0, 1) := by decide +kernel
theorem dX0_waysThrough_18 : decode cX0_waysThrough 18 = .ok (.lreturn, 1) := by decide +kernel
theorem dX0_waysThrough_19 : decode cX0_waysThrough 19 = .ok (.aload_n 0, 1) := by decide +kernel
theorem dX0_waysThrough_20 : decode cX0_waysThrough 20 = .ok (.getfield 28, 3) := by decide +kernel
theorem dX0_waysThrough_23 : decode cX0_waysThrough 23 = .ok (.iload_n 1, 1) := by decide +kernel
theorem dX0_waysThrough_24 : decode cX0_waysThrough 24 = .ok (.iload_n 2, 1) := by decide +kernel
theorem dX0_waysThrough_25 : decode cX0_waysThrough 25 = .ok (.invokestatic 87, 3) := by decide +kernel
theorem dX0_waysThrough_28 : decode cX0_waysThrough 28 = .ok (.aload_n 0, 1) := by decide +kernel
theorem dX0_waysThrough_29 : decode cX0_waysThrough 29 = .ok (.getfield 32, 3) := by decide +kernel
theorem dX0_waysThrough_32 : decode cX0_waysThrough 32 = .ok (.iload_n 1, 1) := by decide +kernel
theorem dX0_waysThrough_33 : decode cX0_waysThrough 33 = .ok (.iload_n 2, 1) := by decide +kernel
theorem dX0_waysThrough_34 : decode cX0_waysThrough 34 = .ok (.invokestatic 87, 3) := by decide +kernel
theorem dX0_waysThrough_37 : decode cX0_waysThrough 37 = .ok (.lmul, 1) := by decide +kernel
theorem dX0_waysThrough_38 : decode cX0_waysThrough 38 = .ok (.lreturn, 1) := by decide +kernel
set_option maxRecDepth 20000 in
theorem ggX0_sureSet_X0_holds : GoodIn wsX0_sureSet wsX0_holds := goodIn_r _ [6, 7, 8, 9, 10, 11, 12, 13, 14, 15, 16, 17, 18, 19] (by decide +kernel) (by decide +kernel)
set_option maxRecDepth 20000 in
theorem gX0_sureSet_X0_holds : GoodIn wsX0_sureSet (wsV RX0 46 RX0 yX0_holds wsX0_holds) := goodIn_app (goodIn_of _ (by decide +kernel)) ggX0_sureSet_X0_holds
theorem dX0_sureSet_0 : decode cX0_sureSet 0 = .ok (.aload_n 0, 1) := by decide +kernel
theorem dX0_sureSet_1 : decode cX0_sureSet 1 = .ok (.iload_n 1, 1) := by decide +kernel
theorem dX0_sureSet_2 : decode cX0_sureSet 2 = .ok (.invokevirtual 46, 3) := by decide +kernel
theorem dX0_sureSet_5 : decode cX0_sureSet 5 = .ok (.ifCond .eq 12, 3) := by decide +kernel
theorem dX0_sureSet_8 : decode cX0_sureSet 8 = .ok (.aload_n 0, 1) := by decide +kernel
theorem dX0_sureSet_9 : decode cX0_sureSet 9 = .ok (.getfield 35, 3) := by decide +kernel
theorem dX0_sureSet_12 : decode cX0_sureSet 12 = .ok (.iload_n 1, 1) := by decide +kernel
theorem dX0_sureSet_13 : decode cX0_sureSet 13 = .ok (.iaload, 1) := by decide +kernel
theorem dX0_sureSet_14 : decode cX0_sureSet 14 = .ok (.goto 4, 3) := by decide +kernel
theorem dX0_sureSet_17 : decode cX0_sureSet 17 = .ok (.iconst 0, 1) := by decide +kernel
theorem dX0_sureSet_18 : decode cX0_sureSet 18 = .ok (.ireturn, 1) := by decide +kernel
set_option maxRecDepth 20000 in
theorem ggX0_setThrough_X0_waysThrough : GoodIn wsX0_setThrough wsX0_waysThrough := goodIn_r _ [5, 6, 7, 8, 9, 10, 11, 4, 12, 13, 14, 15, 16, 17, 18, 19, 22, 23, 24, 25, 26, 27, 28, 29, 30] (by decide +kernel) (by decide +kernel)
set_option maxRecDepth 20000 in
theorem gX0_setThrough_X0_waysThrough : GoodIn wsX0_setThrough (wsV RX0 95 RX0 yX0_waysThrough wsX0_waysThrough) := goodIn_app (goodIn_of _ (by decide +kernel)) ggX0_setThrough_X0_waysThrough
set_option maxRecDepth 20000 in
theorem ggX0_setThrough_X5_bitOf : GoodIn wsX0_setThrough wsX5_bitOf := goodIn_r _ [21] (by decide +kernel) (by decide +kernel)
set_option maxRecDepth 20000 in
theorem gX0_setThrough_X5_bitOf_n54 : GoodIn wsX0_setThrough (wsX5_bitOf) := ggX0_setThrough_X5_bitOf
theorem dX0_setThrough_0 : decode cX0_setThrough 0 = .ok (.iconst 0, 1) := by decide +kernel
theorem dX0_setThrough_1 : decode cX0_setThrough 1 = .ok (.istore_n 2, 1) := by decide +kernel
theorem dX0_setThrough_2 : decode cX0_setThrough 2 = .ok (.iconst 0, 1) := by decide +kernel
theorem dX0_setThrough_3 : decode cX0_setThrough 3 = .ok (.istore_n 3, 1) := by decide +kernel
theorem dX0_setThrough_4 : decode cX0_setThrough 4 = .ok (.iload_n 3, 1) := by decide +kernel
theorem dX0_setThrough_5 : decode cX0_setThrough 5 = .ok (.bipush 8, 2) := by decide +kernel
theorem dX0_setThrough_7 : decode cX0_setThrough 7 = .ok (.if_icmp .ge 27, 3) := by decide +kernel
theorem dX0_setThrough_10 : decode cX0_setThrough 10 = .ok (.aload_n 0, 1) := by decide +kernel
theorem dX0_setThrough_11 : decode cX0_setThrough 11 = .ok (.iload_n 1, 1) := by decide +kernel
theorem dX0_setThrough_12 : decode cX0_setThrough 12 = .ok (.iload_n 3, 1) := by decide +kernel
theorem dX0_setThrough_13 : decode cX0_setThrough 13 = .ok (.invokevirtual 95, 3) := by decide +kernel
theorem dX0_setThrough_16 : decode cX0_setThrough 16 = .ok (.lconst 0, 1) := by decide +kernel
theorem dX0_setThrough_17 : decode cX0_setThrough 17 = .ok (.lcmp, 1) := by decide +kernel
theorem dX0_setThrough_18 : decode cX0_setThrough 18 = .ok (.ifCond .le 10, 3) := by decide +kernel
theorem dX0_setThrough_21 : decode cX0_setThrough 21 = .ok (.iload_n 2, 1) := by decide +kernel
theorem dX0_setThrough_22 : decode cX0_setThrough 22 = .ok (.iload_n 3, 1) := by decide +kernel
theorem dX0_setThrough_23 : decode cX0_setThrough 23 = .ok (.invokestatic 54, 3) := by decide +kernel
theorem dX0_setThrough_26 : decode cX0_setThrough 26 = .ok (.ior, 1) := by decide +kernel
theorem dX0_setThrough_27 : decode cX0_setThrough 27 = .ok (.istore_n 2, 1) := by decide +kernel
theorem dX0_setThrough_28 : decode cX0_setThrough 28 = .ok (.iinc 3 1, 3) := by decide +kernel
theorem dX0_setThrough_31 : decode cX0_setThrough 31 = .ok (.goto (-27), 3) := by decide +kernel
theorem dX0_setThrough_34 : decode cX0_setThrough 34 = .ok (.iload_n 2, 1) := by decide +kernel
theorem dX0_setThrough_35 : decode cX0_setThrough 35 = .ok (.ireturn, 1) := by decide +kernel
set_option maxRecDepth 20000 in
theorem ggX0_mostWaysLeft_X0_waysThrough : GoodIn wsX0_mostWaysLeft wsX0_waysThrough := goodIn_r _ [9, 10, 11, 12, 13, 14, 15, 8, 16, 17, 18, 19, 20, 21, 22, 23, 24, 25, 26, 27, 28, 29, 30, 31, 32] (by decide +kernel) (by decide +kernel)
set_option maxRecDepth 20000 in
theorem gX0_mostWaysLeft_X0_waysThrough : GoodIn wsX0_mostWaysLeft (wsV RX0 95 RX0 yX0_waysThrough wsX0_waysThrough) := goodIn_app (goodIn_of _ (by decide +kernel)) ggX0_mostWaysLeft_X0_waysThrough
theorem dX0_mostWaysLeft_0 : decode cX0_mostWaysLeft 0 = .ok (.lconst 0, 1) := by decide +kernel
theorem dX0_mostWaysLeft_1 : decode cX0_mostWaysLeft 1 = .ok (.lstore_n 2, 1) := by decide +kernel
theorem dX0_mostWaysLeft_2 : decode cX0_mostWaysLeft 2 = .ok (.iconst 0, 1) := by decide +kernel
theorem dX0_mostWaysLeft_3 : decode cX0_mostWaysLeft 3 = .ok (.istore 4, 2) := by decide +kernel
theorem dX0_mostWaysLeft_5 : decode cX0_mostWaysLeft 5 = .ok (.iload 4, 2) := by decide +kernel
theorem dX0_mostWaysLeft_7 : decode cX0_mostWaysLeft 7 = .ok (.bipush 8, 2) := by decide +kernel
theorem dX0_mostWaysLeft_9 : decode cX0_mostWaysLeft 9 = .ok (.if_icmp .ge 21, 3) := by decide +kernel
theorem dX0_mostWaysLeft_12 : decode cX0_mostWaysLeft 12 = .ok (.lload_n 2, 1) := by decide +kernel
theorem dX0_mostWaysLeft_13 : decode cX0_mostWaysLeft 13 = .ok (.aload_n 0, 1) := by decide +kernel
theorem dX0_mostWaysLeft_14 : decode cX0_mostWaysLeft 14 = .ok (.iload_n 1, 1) := by decide +kernel
theorem dX0_mostWaysLeft_15 : decode cX0_mostWaysLeft 15 = .ok (.iload 4, 2) := by decide +kernel
theorem dX0_mostWaysLeft_17 : decode cX0_mostWaysLeft 17 = .ok (.invokevirtual 95, 3) := by decide +kernel
theorem dX0_mostWaysLeft_20 : decode cX0_mostWaysLeft 20 = .ok (.invokestatic 98, 3) := by decide +kernel
theorem dX0_mostWaysLeft_23 : decode cX0_mostWaysLeft 23 = .ok (.lstore_n 2, 1) := by decide +kernel
theorem dX0_mostWaysLeft_24 : decode cX0_mostWaysLeft 24 = .ok (.iinc 4 1, 3) := by decide +kernel
theorem dX0_mostWaysLeft_27 : decode cX0_mostWaysLeft 27 = .ok (.goto (-22), 3) := by decide +kernel
theorem dX0_mostWaysLeft_30 : decode cX0_mostWaysLeft 30 = .ok (.lload_n 2, 1) := by decide +kernel
theorem dX0_mostWaysLeft_31 : decode cX0_mostWaysLeft 31 = .ok (.lreturn, 1) := by decide +kernel
set_option maxRecDepth 20000 in
theorem ggX0_conflictEnd_X0_waysWithin : GoodIn wsX0_conflictEnd wsX0_waysWithin := goodIn_r _ [6, 7, 8, 9, 10, 5, 11, 12, 13, 14, 15, 16, 1, 17, 18, 19, 20, 21, 22, 23, 24, 25, 26, 27, 28, 29, 30, 31, 32, 33, 34, 35, 36, 37, 38, 39, 40, 41, 42, 43, 44, 45, 46] (by decide +kernel) (by decide +kernel)
set_option maxRecDepth 20000 in
theorem gX0_conflictEnd_X0_waysWithin : GoodIn wsX0_conflictEnd (wsV RX0 80 RX0 yX0_waysWithin wsX0_waysWithin) := goodIn_app (goodIn_of _ (by decide +kernel)) ggX0_conflictEnd_X0_waysWithin
theorem dX0_conflictEnd_0 : decode cX0_conflictEnd 0 = .ok (.iconst 0, 1) := by decide +kernel
theorem dX0_conflictEnd_1 : decode cX0_conflictEnd 1 = .ok (.istore_n 1, 1) := by decide +kernel
theorem dX0_conflictEnd_2 : decode cX0_conflictEnd 2 = .ok (.iload_n 1, 1) := by decide +kernel
theorem dX0_conflictEnd_3 : decode cX0_conflictEnd 3 = .ok (.aload_n 0, 1) := by decide +kernel
theorem dX0_conflictEnd_4 : decode cX0_conflictEnd 4 = .ok (.getfield 38, 3) := by decide +kernel
theorem dX0_conflictEnd_7 : decode cX0_conflictEnd 7 = .ok (.if_icmp .ge 22, 3) := by decide +kernel
theorem dX0_conflictEnd_10 : decode cX0_conflictEnd 10 = .ok (.aload_n 0, 1) := by decide +kernel
theorem dX0_conflictEnd_11 : decode cX0_conflictEnd 11 = .ok (.iconst 0, 1) := by decide +kernel
theorem dX0_conflictEnd_12 : decode cX0_conflictEnd 12 = .ok (.iload_n 1, 1) := by decide +kernel
theorem dX0_conflictEnd_13 : decode cX0_conflictEnd 13 = .ok (.invokevirtual 80, 3) := by decide +kernel
theorem dX0_conflictEnd_16 : decode cX0_conflictEnd 16 = .ok (.lconst 0, 1) := by decide +kernel
theorem dX0_conflictEnd_17 : decode cX0_conflictEnd 17 = .ok (.lcmp, 1) := by decide +kernel
theorem dX0_conflictEnd_18 : decode cX0_conflictEnd 18 = .ok (.ifCond .ne 5, 3) := by decide +kernel
theorem dX0_conflictEnd_21 : decode cX0_conflictEnd 21 = .ok (.iload_n 1, 1) := by decide +kernel
theorem dX0_conflictEnd_22 : decode cX0_conflictEnd 22 = .ok (.ireturn, 1) := by decide +kernel
theorem dX0_conflictEnd_23 : decode cX0_conflictEnd 23 = .ok (.iinc 1 1, 3) := by decide +kernel
theorem dX0_conflictEnd_26 : decode cX0_conflictEnd 26 = .ok (.goto (-24), 3) := by decide +kernel
theorem dX0_conflictEnd_29 : decode cX0_conflictEnd 29 = .ok (.bipush (-9), 2) := by decide +kernel
theorem dX0_conflictEnd_31 : decode cX0_conflictEnd 31 = .ok (.ireturn, 1) := by decide +kernel
set_option maxRecDepth 20000 in
theorem ggX0_conflictBeginning_X0_waysWithin : GoodIn wsX0_conflictBeginning wsX0_waysWithin := goodIn_r _ [5, 6, 7, 8, 9, 4, 10, 11, 12, 13, 14, 15, 16, 17, 18, 19, 20, 21, 22, 23, 24, 25, 26, 27, 28, 29, 30, 31, 32, 33, 34, 35, 36, 37, 38, 39, 40, 41, 42, 43, 44, 45, 46] (by decide +kernel) (by decide +kernel)
set_option maxRecDepth 20000 in
theorem gX0_conflictBeginning_X0_waysWithin : GoodIn wsX0_conflictBeginning (wsV RX0 80 RX0 yX0_waysWithin wsX0_waysWithin) := goodIn_app (goodIn_of _ (by decide +kernel)) ggX0_conflictBeginning_X0_waysWithin
theorem dX0_conflictBeginning_0 : decode cX0_conflictBeginning 0 = .ok (.iload_n 1, 1) := by decide +kernel
theorem dX0_conflictBeginning_1 : decode cX0_conflictBeginning 1 = .ok (.istore_n 2, 1) := by decide +kernel
theorem dX0_conflictBeginning_2 : decode cX0_conflictBeginning 2 = .ok (.iload_n 2, 1) := by decide +kernel
theorem dX0_conflictBeginning_3 : decode cX0_conflictBeginning 3 = .ok (.ifCond .lt 22, 3) := by decide +kernel
theorem dX0_conflictBeginning_6 : decode cX0_conflictBeginning 6 = .ok (.aload_n 0, 1) := by decide +kernel
theorem dX0_conflictBeginning_7 : decode cX0_conflictBeginning 7 = .ok (.iload_n 2, 1) := by decide +kernel
theorem dX0_conflictBeginning_8 : decode cX0_conflictBeginning 8 = .ok (.iload_n 1, 1) := by decide +kernel
theorem dX0_conflictBeginning_9 : decode cX0_conflictBeginning 9 = .ok (.invokevirtual 80, 3) := by decide +kernel
theorem dX0_conflictBeginning_12 : decode cX0_conflictBeginning 12 = .ok (.lconst 0, 1) := by decide +kernel
