theorem dX0_conflictBeginning_13 : decode cX0_conflictBeginning 13 = .ok (.lcmp, 1) := by decide +kernel
theorem dX0_conflictBeginning_14 : decode cX0_conflictBeginning 14 = .ok (.ifCond .ne 5, 3) := by decide +kernel
theorem dX0_conflictBeginning_17 : decode cX0_conflictBeginning 17 = .ok (.iload_n 2, 1) := by decide +kernel
theorem dX0_conflictBeginning_18 : decode cX0_conflictBeginning 18 = .ok (.ireturn, 1) := by decide +kernel
theorem dX0_conflictBeginning_19 : decode cX0_conflictBeginning 19 = .ok (.iinc 2 (-1), 3) := by decide +kernel
theorem dX0_conflictBeginning_22 : decode cX0_conflictBeginning 22 = .ok (.goto (-20), 3) := by decide +kernel
theorem dX0_conflictBeginning_25 : decode cX0_conflictBeginning 25 = .ok (.bipush (-9), 2) := by decide +kernel
theorem dX0_conflictBeginning_27 : decode cX0_conflictBeginning 27 = .ok (.ireturn, 1) := by decide +kernel
set_option maxRecDepth 20000 in
theorem ggX0_isHadBy_X5_isWithin : GoodIn wsX0_isHadBy wsX5_isWithin := goodIn_r _ [3] (by decide +kernel) (by decide +kernel)
set_option maxRecDepth 20000 in
theorem gX0_isHadBy_X5_isWithin_n42 : GoodIn wsX0_isHadBy (wsX5_isWithin) := ggX0_isHadBy_X5_isWithin
set_option maxRecDepth 20000 in
theorem ggX0_isHadBy_X0_sureSet : GoodIn wsX0_isHadBy wsX0_sureSet := goodIn_r _ [8, 9, 10, 11, 12, 7, 13, 14, 1, 2, 3, 17, 18, 19, 20, 21, 22, 23, 24, 25] (by decide +kernel) (by decide +kernel)
set_option maxRecDepth 20000 in
theorem gX0_isHadBy_X0_sureSet : GoodIn wsX0_isHadBy (wsV RX0 104 RX0 yX0_sureSet wsX0_sureSet) := goodIn_app (goodIn_of _ (by decide +kernel)) ggX0_isHadBy_X0_sureSet
set_option maxRecDepth 20000 in
theorem ggX0_isHadBy_X5_bitOf : GoodIn wsX0_isHadBy wsX5_bitOf := goodIn_r _ [16] (by decide +kernel) (by decide +kernel)
set_option maxRecDepth 20000 in
theorem gX0_isHadBy_X5_bitOf_n54 : GoodIn wsX0_isHadBy (wsX5_bitOf) := ggX0_isHadBy_X5_bitOf
theorem dX0_isHadBy_0 : decode cX0_isHadBy 0 = .ok (.iload_n 2, 1) := by decide +kernel
theorem dX0_isHadBy_1 : decode cX0_isHadBy 1 = .ok (.bipush 8, 2) := by decide +kernel
theorem dX0_isHadBy_3 : decode cX0_isHadBy 3 = .ok (.invokestatic 42, 3) := by decide +kernel
theorem dX0_isHadBy_6 : decode cX0_isHadBy 6 = .ok (.ifCond .eq 19, 3) := by decide +kernel
theorem dX0_isHadBy_9 : decode cX0_isHadBy 9 = .ok (.aload_n 0, 1) := by decide +kernel
theorem dX0_isHadBy_10 : decode cX0_isHadBy 10 = .ok (.iload_n 1, 1) := by decide +kernel
theorem dX0_isHadBy_11 : decode cX0_isHadBy 11 = .ok (.invokevirtual 104, 3) := by decide +kernel
theorem dX0_isHadBy_14 : decode cX0_isHadBy 14 = .ok (.iload_n 2, 1) := by decide +kernel
theorem dX0_isHadBy_15 : decode cX0_isHadBy 15 = .ok (.invokestatic 54, 3) := by decide +kernel
theorem dX0_isHadBy_18 : decode cX0_isHadBy 18 = .ok (.if_icmp .ne 7, 3) := by decide +kernel
theorem dX0_isHadBy_21 : decode cX0_isHadBy 21 = .ok (.iconst 1, 1) := by decide +kernel
theorem dX0_isHadBy_22 : decode cX0_isHadBy 22 = .ok (.goto 4, 3) := by decide +kernel
theorem dX0_isHadBy_25 : decode cX0_isHadBy 25 = .ok (.iconst 0, 1) := by decide +kernel
theorem dX0_isHadBy_26 : decode cX0_isHadBy 26 = .ok (.ireturn, 1) := by decide +kernel
set_option maxRecDepth 20000 in
theorem ggX0_hadBy_X0_isHadBy : GoodIn wsX0_hadBy wsX0_isHadBy := goodIn_r _ [6, 7, 8, 9, 10, 11, 12, 5, 13, 14, 15, 16, 17, 18, 1, 19, 20, 21, 22, 23, 24, 25, 26, 27, 28, 29] (by decide +kernel) (by decide +kernel)
set_option maxRecDepth 20000 in
theorem gX0_hadBy_X0_isHadBy : GoodIn wsX0_hadBy (wsV RX0 107 RX0 yX0_isHadBy wsX0_isHadBy) := goodIn_app (goodIn_of _ (by decide +kernel)) ggX0_hadBy_X0_isHadBy
theorem dX0_hadBy_0 : decode cX0_hadBy 0 = .ok (.iconst 0, 1) := by decide +kernel
theorem dX0_hadBy_1 : decode cX0_hadBy 1 = .ok (.istore_n 2, 1) := by decide +kernel
theorem dX0_hadBy_2 : decode cX0_hadBy 2 = .ok (.iconst 0, 1) := by decide +kernel
theorem dX0_hadBy_3 : decode cX0_hadBy 3 = .ok (.istore_n 3, 1) := by decide +kernel
theorem dX0_hadBy_4 : decode cX0_hadBy 4 = .ok (.iload_n 3, 1) := by decide +kernel
theorem dX0_hadBy_5 : decode cX0_hadBy 5 = .ok (.aload_n 0, 1) := by decide +kernel
theorem dX0_hadBy_6 : decode cX0_hadBy 6 = .ok (.getfield 38, 3) := by decide +kernel
theorem dX0_hadBy_9 : decode cX0_hadBy 9 = .ok (.if_icmp .ge 21, 3) := by decide +kernel
theorem dX0_hadBy_12 : decode cX0_hadBy 12 = .ok (.aload_n 0, 1) := by decide +kernel
theorem dX0_hadBy_13 : decode cX0_hadBy 13 = .ok (.iload_n 3, 1) := by decide +kernel
theorem dX0_hadBy_14 : decode cX0_hadBy 14 = .ok (.iload_n 1, 1) := by decide +kernel
theorem dX0_hadBy_15 : decode cX0_hadBy 15 = .ok (.invokevirtual 107, 3) := by decide +kernel
theorem dX0_hadBy_18 : decode cX0_hadBy 18 = .ok (.ifCond .eq 6, 3) := by decide +kernel
theorem dX0_hadBy_21 : decode cX0_hadBy 21 = .ok (.iinc 2 1, 3) := by decide +kernel
theorem dX0_hadBy_24 : decode cX0_hadBy 24 = .ok (.iinc 3 1, 3) := by decide +kernel
theorem dX0_hadBy_27 : decode cX0_hadBy 27 = .ok (.goto (-23), 3) := by decide +kernel
theorem dX0_hadBy_30 : decode cX0_hadBy 30 = .ok (.iload_n 2, 1) := by decide +kernel
theorem dX0_hadBy_31 : decode cX0_hadBy 31 = .ok (.ireturn, 1) := by decide +kernel
set_option maxRecDepth 20000 in
theorem ggX0_maybeHadBy_X0_sureSet : GoodIn wsX0_maybeHadBy wsX0_sureSet := goodIn_r _ [6, 7, 8, 9, 10, 5, 11, 1, 12, 13, 14, 17, 18, 19, 20, 21, 22, 23, 24, 25] (by decide +kernel) (by decide +kernel)
set_option maxRecDepth 20000 in
theorem gX0_maybeHadBy_X0_sureSet : GoodIn wsX0_maybeHadBy (wsV RX0 104 RX0 yX0_sureSet wsX0_sureSet) := goodIn_app (goodIn_of _ (by decide +kernel)) ggX0_maybeHadBy_X0_sureSet
set_option maxRecDepth 20000 in
theorem ggX0_maybeHadBy_X5_bitOf : GoodIn wsX0_maybeHadBy wsX5_bitOf := goodIn_r _ [16] (by decide +kernel) (by decide +kernel)
set_option maxRecDepth 20000 in
theorem gX0_maybeHadBy_X5_bitOf_n54 : GoodIn wsX0_maybeHadBy (wsX5_bitOf) := ggX0_maybeHadBy_X5_bitOf
theorem dX0_maybeHadBy_0 : decode cX0_maybeHadBy 0 = .ok (.iconst 0, 1) := by decide +kernel
theorem dX0_maybeHadBy_1 : decode cX0_maybeHadBy 1 = .ok (.istore_n 2, 1) := by decide +kernel
theorem dX0_maybeHadBy_2 : decode cX0_maybeHadBy 2 = .ok (.iconst 0, 1) := by decide +kernel
theorem dX0_maybeHadBy_3 : decode cX0_maybeHadBy 3 = .ok (.istore_n 3, 1) := by decide +kernel
theorem dX0_maybeHadBy_4 : decode cX0_maybeHadBy 4 = .ok (.iload_n 3, 1) := by decide +kernel
theorem dX0_maybeHadBy_5 : decode cX0_maybeHadBy 5 = .ok (.aload_n 0, 1) := by decide +kernel
theorem dX0_maybeHadBy_6 : decode cX0_maybeHadBy 6 = .ok (.getfield 38, 3) := by decide +kernel
theorem dX0_maybeHadBy_9 : decode cX0_maybeHadBy 9 = .ok (.if_icmp .ge 25, 3) := by decide +kernel
theorem dX0_maybeHadBy_12 : decode cX0_maybeHadBy 12 = .ok (.aload_n 0, 1) := by decide +kernel
theorem dX0_maybeHadBy_13 : decode cX0_maybeHadBy 13 = .ok (.iload_n 3, 1) := by decide +kernel
theorem dX0_maybeHadBy_14 : decode cX0_maybeHadBy 14 = .ok (.invokevirtual 104, 3) := by decide +kernel
theorem dX0_maybeHadBy_17 : decode cX0_maybeHadBy 17 = .ok (.iload_n 1, 1) := by decide +kernel
theorem dX0_maybeHadBy_18 : decode cX0_maybeHadBy 18 = .ok (.invokestatic 54, 3) := by decide +kernel
theorem dX0_maybeHadBy_21 : decode cX0_maybeHadBy 21 = .ok (.iand, 1) := by decide +kernel
theorem dX0_maybeHadBy_22 : decode cX0_maybeHadBy 22 = .ok (.ifCond .eq 6, 3) := by decide +kernel
theorem dX0_maybeHadBy_25 : decode cX0_maybeHadBy 25 = .ok (.iinc 2 1, 3) := by decide +kernel
theorem dX0_maybeHadBy_28 : decode cX0_maybeHadBy 28 = .ok (.iinc 3 1, 3) := by decide +kernel
theorem dX0_maybeHadBy_31 : decode cX0_maybeHadBy 31 = .ok (.goto (-27), 3) := by decide +kernel
theorem dX0_maybeHadBy_34 : decode cX0_maybeHadBy 34 = .ok (.iload_n 2, 1) := by decide +kernel
theorem dX0_maybeHadBy_35 : decode cX0_maybeHadBy 35 = .ok (.ireturn, 1) := by decide +kernel
set_option maxRecDepth 20000 in
theorem ggX0_firstHadBy_X0_isHadBy : GoodIn wsX0_firstHadBy wsX0_isHadBy := goodIn_r _ [6, 7, 8, 9, 10, 11, 12, 5, 13, 14, 15, 16, 17, 18, 1, 19, 20, 21, 22, 23, 24, 25, 26, 27, 28, 29] (by decide +kernel) (by decide +kernel)
set_option maxRecDepth 20000 in
theorem gX0_firstHadBy_X0_isHadBy : GoodIn wsX0_firstHadBy (wsV RX0 107 RX0 yX0_isHadBy wsX0_isHadBy) := goodIn_app (goodIn_of _ (by decide +kernel)) ggX0_firstHadBy_X0_isHadBy
theorem dX0_firstHadBy_0 : decode cX0_firstHadBy 0 = .ok (.iconst 0, 1) := by decide +kernel
theorem dX0_firstHadBy_1 : decode cX0_firstHadBy 1 = .ok (.istore_n 2, 1) := by decide +kernel
theorem dX0_firstHadBy_2 : decode cX0_firstHadBy 2 = .ok (.iload_n 2, 1) := by decide +kernel
theorem dX0_firstHadBy_3 : decode cX0_firstHadBy 3 = .ok (.aload_n 0, 1) := by decide +kernel
theorem dX0_firstHadBy_4 : decode cX0_firstHadBy 4 = .ok (.getfield 38, 3) := by decide +kernel
theorem dX0_firstHadBy_7 : decode cX0_firstHadBy 7 = .ok (.if_icmp .ge 20, 3) := by decide +kernel
theorem dX0_firstHadBy_10 : decode cX0_firstHadBy 10 = .ok (.aload_n 0, 1) := by decide +kernel
theorem dX0_firstHadBy_11 : decode cX0_firstHadBy 11 = .ok (.iload_n 2, 1) := by decide +kernel
theorem dX0_firstHadBy_12 : decode cX0_firstHadBy 12 = .ok (.iload_n 1, 1) := by decide +kernel
theorem dX0_firstHadBy_13 : decode cX0_firstHadBy 13 = .ok (.invokevirtual 107, 3) := by decide +kernel
theorem dX0_firstHadBy_16 : decode cX0_firstHadBy 16 = .ok (.ifCond .eq 5, 3) := by decide +kernel
theorem dX0_firstHadBy_19 : decode cX0_firstHadBy 19 = .ok (.iload_n 2, 1) := by decide +kernel
theorem dX0_firstHadBy_20 : decode cX0_firstHadBy 20 = .ok (.ireturn, 1) := by decide +kernel
theorem dX0_firstHadBy_21 : decode cX0_firstHadBy 21 = .ok (.iinc 2 1, 3) := by decide +kernel
theorem dX0_firstHadBy_24 : decode cX0_firstHadBy 24 = .ok (.goto (-22), 3) := by decide +kernel
theorem dX0_firstHadBy_27 : decode cX0_firstHadBy 27 = .ok (.bipush (-9), 2) := by decide +kernel
theorem dX0_firstHadBy_29 : decode cX0_firstHadBy 29 = .ok (.ireturn, 1) := by decide +kernel
set_option maxRecDepth 20000 in
theorem ggX0_lastHadBy_X0_isHadBy : GoodIn wsX0_lastHadBy wsX0_isHadBy := goodIn_r _ [6, 7, 8, 9, 10, 11, 12, 5, 13, 14, 15, 16, 17, 18, 1, 19, 20, 21, 22, 23, 24, 25, 26, 27, 28, 29] (by decide +kernel) (by decide +kernel)
set_option maxRecDepth 20000 in
theorem gX0_lastHadBy_X0_isHadBy : GoodIn wsX0_lastHadBy (wsV RX0 107 RX0 yX0_isHadBy wsX0_isHadBy) := goodIn_app (goodIn_of _ (by decide +kernel)) ggX0_lastHadBy_X0_isHadBy
theorem dX0_lastHadBy_0 : decode cX0_lastHadBy 0 = .ok (.aload_n 0, 1) := by decide +kernel
theorem dX0_lastHadBy_1 : decode cX0_lastHadBy 1 = .ok (.getfield 38, 3) := by decide +kernel
theorem dX0_lastHadBy_4 : decode cX0_lastHadBy 4 = .ok (.iconst 1, 1) := by decide +kernel
theorem dX0_lastHadBy_5 : decode cX0_lastHadBy 5 = .ok (.isub, 1) := by decide +kernel
theorem dX0_lastHadBy_6 : decode cX0_lastHadBy 6 = .ok (.istore_n 2, 1) := by decide +kernel
theorem dX0_lastHadBy_7 : decode cX0_lastHadBy 7 = .ok (.iload_n 2, 1) := by decide +kernel
theorem dX0_lastHadBy_8 : decode cX0_lastHadBy 8 = .ok (.ifCond .lt 20, 3) := by decide +kernel
theorem dX0_lastHadBy_11 : decode cX0_lastHadBy 11 = .ok (.aload_n 0, 1) := by decide +kernel
theorem dX0_lastHadBy_12 : decode cX0_lastHadBy 12 = .ok (.iload_n 2, 1) := by decide +kernel
theorem dX0_lastHadBy_13 : decode cX0_lastHadBy 13 = .ok (.iload_n 1, 1) := by decide +kernel
theorem dX0_lastHadBy_14 : decode cX0_lastHadBy 14 = .ok (.invokevirtual 107, 3) := by decide +kernel
theorem dX0_lastHadBy_17 : decode cX0_lastHadBy 17 = .ok (.ifCond .eq 5, 3) := by decide +kernel
theorem dX0_lastHadBy_20 : decode cX0_lastHadBy 20 = .ok (.iload_n 2, 1) := by decide +kernel
theorem dX0_lastHadBy_21 : decode cX0_lastHadBy 21 = .ok (.ireturn, 1) := by decide +kernel
theorem dX0_lastHadBy_22 : decode cX0_lastHadBy 22 = .ok (.iinc 2 (-1), 3) := by decide +kernel
theorem dX0_lastHadBy_25 : decode cX0_lastHadBy 25 = .ok (.goto (-18), 3) := by decide +kernel
theorem dX0_lastHadBy_28 : decode cX0_lastHadBy 28 = .ok (.bipush (-9), 2) := by decide +kernel
theorem dX0_lastHadBy_30 : decode cX0_lastHadBy 30 = .ok (.ireturn, 1) := by decide +kernel
set_option maxRecDepth 20000 in
theorem ggX0_setsSureOfOne_X0_sureSet : GoodIn wsX0_setsSureOfOne wsX0_sureSet := goodIn_r _ [6, 7, 8, 9, 10, 5, 11, 1, 12, 13, 14, 22, 23, 24, 25, 26, 27, 28, 29, 30] (by decide +kernel) (by decide +kernel)
set_option maxRecDepth 20000 in
theorem gX0_setsSureOfOne_X0_sureSet : GoodIn wsX0_setsSureOfOne (wsV RX0 104 RX0 yX0_sureSet wsX0_sureSet) := goodIn_app (goodIn_of _ (by decide +kernel)) ggX0_setsSureOfOne_X0_sureSet
set_option maxRecDepth 20000 in
theorem ggX0_setsSureOfOne_J6_bitCount_0f7a4 : GoodIn wsX0_setsSureOfOne wsJ6_bitCount_0f7a4 := goodIn_r _ [18, 19, 20, 21] (by decide +kernel) (by decide +kernel)
set_option maxRecDepth 20000 in
theorem gX0_setsSureOfOne_J6_bitCount_0f7a4 : GoodIn wsX0_setsSureOfOne (va_wsS RX0 71 yJ6_bitCount_0f7a4 wsJ6_bitCount_0f7a4) := goodIn_app (goodIn_of _ (by decide +kernel)) ggX0_setsSureOfOne_J6_bitCount_0f7a4
theorem dX0_setsSureOfOne_0 : decode cX0_setsSureOfOne 0 = .ok (.iconst 0, 1) := by decide +kernel
theorem dX0_setsSureOfOne_1 : decode cX0_setsSureOfOne 1 = .ok (.istore_n 1, 1) := by decide +kernel
theorem dX0_setsSureOfOne_2 : decode cX0_setsSureOfOne 2 = .ok (.iconst 0, 1) := by decide +kernel
theorem dX0_setsSureOfOne_3 : decode cX0_setsSureOfOne 3 = .ok (.istore_n 2, 1) := by decide +kernel
theorem dX0_setsSureOfOne_4 : decode cX0_setsSureOfOne 4 = .ok (.iload_n 2, 1) := by decide +kernel
theorem dX0_setsSureOfOne_5 : decode cX0_setsSureOfOne 5 = .ok (.aload_n 0, 1) := by decide +kernel
theorem dX0_setsSureOfOne_6 : decode cX0_setsSureOfOne 6 = .ok (.getfield 38, 3) := by decide +kernel
theorem dX0_setsSureOfOne_9 : decode cX0_setsSureOfOne 9 = .ok (.if_icmp .ge 24, 3) := by decide +kernel
theorem dX0_setsSureOfOne_12 : decode cX0_setsSureOfOne 12 = .ok (.aload_n 0, 1) := by decide +kernel
theorem dX0_setsSureOfOne_13 : decode cX0_setsSureOfOne 13 = .ok (.iload_n 2, 1) := by decide +kernel
theorem dX0_setsSureOfOne_14 : decode cX0_setsSureOfOne 14 = .ok (.invokevirtual 104, 3) := by decide +kernel
theorem dX0_setsSureOfOne_17 : decode cX0_setsSureOfOne 17 = .ok (.invokestatic 71, 3) := by decide +kernel
theorem dX0_setsSureOfOne_20 : decode cX0_setsSureOfOne 20 = .ok (.iconst 1, 1) := by decide +kernel
theorem dX0_setsSureOfOne_21 : decode cX0_setsSureOfOne 21 = .ok (.if_icmp .ne 6, 3) := by decide +kernel
theorem dX0_setsSureOfOne_24 : decode cX0_setsSureOfOne 24 = .ok (.iinc 1 1, 3) := by decide +kernel
theorem dX0_setsSureOfOne_27 : decode cX0_setsSureOfOne 27 = .ok (.iinc 2 1, 3) := by decide +kernel
theorem dX0_setsSureOfOne_30 : decode cX0_setsSureOfOne 30 = .ok (.goto (-26), 3) := by decide +kernel
theorem dX0_setsSureOfOne_33 : decode cX0_setsSureOfOne 33 = .ok (.iload_n 1, 1) := by decide +kernel
theorem dX0_setsSureOfOne_34 : decode cX0_setsSureOfOne 34 = .ok (.ireturn, 1) := by decide +kernel
set_option maxRecDepth 20000 in
theorem ggX1_init_X1_forgetAll : GoodIn wsX1_init wsX1_forgetAll := goodIn_r _ [11, 12, 13, 14, 15, 16, 17, 18, 19, 20, 21, 22, 23, 24, 25, 26, 27, 28, 29, 30, 31, 32, 33, 34, 35, 36, 37] (by decide +kernel) (by decide +kernel)
set_option maxRecDepth 20000 in
theorem gX1_init_X1_forgetAll : GoodIn wsX1_init (wsV RX1 18 RX1 yX1_forgetAll wsX1_forgetAll) := goodIn_app (goodIn_of _ (by decide +kernel)) ggX1_init_X1_forgetAll
theorem dX1_init_0 : decode cX1_init 0 = .ok (.aload_n 0, 1) := by decide +kernel
theorem dX1_init_1 : decode cX1_init 1 = .ok (.invokespecial 3, 3) := by decide +kernel
theorem dX1_init_4 : decode cX1_init 4 = .ok (.aload_n 0, 1) := by decide +kernel
theorem dX1_init_5 : decode cX1_init 5 = .ok (.bipush 12, 2) := by decide +kernel
theorem dX1_init_7 : decode cX1_init 7 = .ok (.newarray .int, 2) := by decide +kernel
theorem dX1_init_9 : decode cX1_init 9 = .ok (.putfield 9, 3) := by decide +kernel
theorem dX1_init_12 : decode cX1_init 12 = .ok (.aload_n 0, 1) := by decide +kernel
theorem dX1_init_13 : decode cX1_init 13 = .ok (.bipush 12, 2) := by decide +kernel
theorem dX1_init_15 : decode cX1_init 15 = .ok (.newarray .int, 2) := by decide +kernel
theorem dX1_init_17 : decode cX1_init 17 = .ok (.putfield 15, 3) := by decide +kernel
theorem dX1_init_20 : decode cX1_init 20 = .ok (.aload_n 0, 1) := by decide +kernel
theorem dX1_init_21 : decode cX1_init 21 = .ok (.invokevirtual 18, 3) := by decide +kernel
theorem dX1_init_24 : decode cX1_init 24 = .ok (.return_, 1) := by decide +kernel
theorem dX1_forgetAll_0 : decode cX1_forgetAll 0 = .ok (.aload_n 0, 1) := by decide +kernel
theorem dX1_forgetAll_1 : decode cX1_forgetAll 1 = .ok (.iconst 0, 1) := by decide +kernel
theorem dX1_forgetAll_2 : decode cX1_forgetAll 2 = .ok (.putfield 21, 3) := by decide +kernel
theorem dX1_forgetAll_5 : decode cX1_forgetAll 5 = .ok (.aload_n 0, 1) := by decide +kernel
theorem dX1_forgetAll_6 : decode cX1_forgetAll 6 = .ok (.iconst 0, 1) := by decide +kernel
theorem dX1_forgetAll_7 : decode cX1_forgetAll 7 = .ok (.putfield 25, 3) := by decide +kernel
theorem dX1_forgetAll_10 : decode cX1_forgetAll 10 = .ok (.aload_n 0, 1) := by decide +kernel
theorem dX1_forgetAll_11 : decode cX1_forgetAll 11 = .ok (.iconst 0, 1) := by decide +kernel
theorem dX1_forgetAll_12 : decode cX1_forgetAll 12 = .ok (.putfield 29, 3) := by decide +kernel
theorem dX1_forgetAll_15 : decode cX1_forgetAll 15 = .ok (.aload_n 0, 1) := by decide +kernel
theorem dX1_forgetAll_16 : decode cX1_forgetAll 16 = .ok (.bipush (-9), 2) := by decide +kernel
theorem dX1_forgetAll_18 : decode cX1_forgetAll 18 = .ok (.putfield 32, 3) := by decide +kernel
theorem dX1_forgetAll_21 : decode cX1_forgetAll 21 = .ok (.aload_n 0, 1) := by decide +kernel
theorem dX1_forgetAll_22 : decode cX1_forgetAll 22 = .ok (.iconst 0, 1) := by decide +kernel
theorem dX1_forgetAll_23 : decode cX1_forgetAll 23 = .ok (.putfield 35, 3) := by decide +kernel
theorem dX1_forgetAll_26 : decode cX1_forgetAll 26 = .ok (.aload_n 0, 1) := by decide +kernel
theorem dX1_forgetAll_27 : decode cX1_forgetAll 27 = .ok (.iconst 0, 1) := by decide +kernel
theorem dX1_forgetAll_28 : decode cX1_forgetAll 28 = .ok (.putfield 38, 3) := by decide +kernel
theorem dX1_forgetAll_31 : decode cX1_forgetAll 31 = .ok (.aload_n 0, 1) := by decide +kernel
theorem dX1_forgetAll_32 : decode cX1_forgetAll 32 = .ok (.iconst 0, 1) := by decide +kernel
theorem dX1_forgetAll_33 : decode cX1_forgetAll 33 = .ok (.putfield 41, 3) := by decide +kernel
theorem dX1_forgetAll_36 : decode cX1_forgetAll 36 = .ok (.aload_n 0, 1) := by decide +kernel
theorem dX1_forgetAll_37 : decode cX1_forgetAll 37 = .ok (.iconst 0, 1) := by decide +kernel
theorem dX1_forgetAll_38 : decode cX1_forgetAll 38 = .ok (.putfield 44, 3) := by decide +kernel
theorem dX1_forgetAll_41 : decode cX1_forgetAll 41 = .ok (.aload_n 0, 1) := by decide +kernel
theorem dX1_forgetAll_42 : decode cX1_forgetAll 42 = .ok (.sipush 255, 3) := by decide +kernel
theorem dX1_forgetAll_45 : decode cX1_forgetAll 45 = .ok (.putfield 47, 3) := by decide +kernel
theorem dX1_forgetAll_48 : decode cX1_forgetAll 48 = .ok (.aload_n 0, 1) := by decide +kernel
theorem dX1_forgetAll_49 : decode cX1_forgetAll 49 = .ok (.iconst 0, 1) := by decide +kernel
theorem dX1_forgetAll_50 : decode cX1_forgetAll 50 = .ok (.putfield 50, 3) := by decide +kernel
theorem dX1_forgetAll_53 : decode cX1_forgetAll 53 = .ok (.aload_n 0, 1) := by decide +kernel
theorem dX1_forgetAll_54 : decode cX1_forgetAll 54 = .ok (.iconst 0, 1) := by decide +kernel
theorem dX1_forgetAll_55 : decode cX1_forgetAll 55 = .ok (.putfield 53, 3) := by decide +kernel
theorem dX1_forgetAll_58 : decode cX1_forgetAll 58 = .ok (.aload_n 0, 1) := by decide +kernel
theorem dX1_forgetAll_59 : decode cX1_forgetAll 59 = .ok (.sipush 255, 3) := by decide +kernel
theorem dX1_forgetAll_62 : decode cX1_forgetAll 62 = .ok (.putfield 56, 3) := by decide +kernel
theorem dX1_forgetAll_65 : decode cX1_forgetAll 65 = .ok (.return_, 1) := by decide +kernel
set_option maxRecDepth 20000 in
theorem ggX1_read_X1_forgetAll : GoodIn wsX1_read wsX1_forgetAll := goodIn_r _ [7, 8, 2, 1, 9, 10, 11, 12, 13, 14, 15, 16, 17, 82, 83, 84, 85, 86, 87, 88, 89, 90, 91, 92, 93, 94, 95] (by decide +kernel) (by decide +kernel)
set_option maxRecDepth 20000 in
theorem gX1_read_X1_forgetAll : GoodIn wsX1_read (wsV RX1 18 RX1 yX1_forgetAll wsX1_forgetAll) := goodIn_app (goodIn_of _ (by decide +kernel)) ggX1_read_X1_forgetAll
set_option maxRecDepth 20000 in
theorem ggX1_read_X4_codeAt : GoodIn wsX1_read wsX4_codeAt := goodIn_r _ [22, 23, 24, 25, 26, 27, 96, 97] (by decide +kernel) (by decide +kernel)
set_option maxRecDepth 20000 in
theorem gX1_read_X4_codeAt : GoodIn wsX1_read (wsV RX1 59 RX4 yX4_codeAt wsX4_codeAt) := goodIn_app (goodIn_of _ (by decide +kernel)) ggX1_read_X4_codeAt
set_option maxRecDepth 20000 in
theorem ggX1_read_X4_length : GoodIn wsX1_read wsX4_length := goodIn_r _ [31, 23, 96, 97] (by decide +kernel) (by decide +kernel)
set_option maxRecDepth 20000 in
theorem gX1_read_X4_length : GoodIn wsX1_read (wsV RX1 65 RX4 yX4_length wsX4_length) := goodIn_app (goodIn_of _ (by decide +kernel)) ggX1_read_X4_length
set_option maxRecDepth 20000 in
theorem ggX1_read_X1_noteSpokenTo : GoodIn wsX1_read wsX1_noteSpokenTo := goodIn_r _ [35, 11, 12, 36, 26, 37, 82, 83, 84, 85, 86, 87, 88, 89, 90, 91, 92, 93, 94, 95] (by decide +kernel) (by decide +kernel)
set_option maxRecDepth 20000 in
theorem gX1_read_X1_noteSpokenTo : GoodIn wsX1_read (wsV RX1 69 RX1 yX1_noteSpokenTo wsX1_noteSpokenTo) := goodIn_app (goodIn_of _ (by decide +kernel)) ggX1_read_X1_noteSpokenTo
set_option maxRecDepth 20000 in
theorem ggX1_read_X1_addItem : GoodIn wsX1_read wsX1_addItem := goodIn_r _ [41, 8, 42, 43, 11, 10, 25, 26, 27, 36, 37, 82, 83, 84, 85, 86, 87, 88, 89, 90, 91, 92, 93, 94, 95] (by decide +kernel) (by decide +kernel)
set_option maxRecDepth 20000 in
theorem gX1_read_X1_addItem : GoodIn wsX1_read (wsV RX1 73 RX1 yX1_addItem wsX1_addItem) := goodIn_app (goodIn_of _ (by decide +kernel)) ggX1_read_X1_addItem
set_option maxRecDepth 20000 in
theorem ggX1_read_X1_noteVerbs : GoodIn wsX1_read wsX1_noteVerbs := goodIn_r _ [47, 8, 13, 48, 49, 50, 6, 51, 52, 53, 54, 55, 42, 25, 26, 27, 56, 57, 58, 59, 60, 61, 62, 63, 64, 65, 66, 67, 68, 69, 70, 71, 72, 73, 14, 15, 16, 74, 75, 76, 77, 43, 36, 37, 82, 83, 84, 85, 86, 87, 88, 89, 90, 91, 92, 93, 94, 95] (by decide +kernel) (by decide +kernel)
set_option maxRecDepth 20000 in
theorem gX1_read_X1_noteVerbs : GoodIn wsX1_read (wsV RX1 76 RX1 yX1_noteVerbs wsX1_noteVerbs) := goodIn_app (goodIn_of _ (by decide +kernel)) ggX1_read_X1_noteVerbs
set_option maxRecDepth 20000 in
theorem ggX1_read_X1_noteDoer : GoodIn wsX1_read wsX1_noteDoer := goodIn_r _ [81, 13, 17, 52, 53, 54, 6, 55, 8, 42, 25, 26, 27, 74, 75, 76, 77, 43, 36, 37, 82, 83, 84, 85, 86, 87, 88, 89, 90, 91, 92, 93, 94, 95] (by decide +kernel) (by decide +kernel)
set_option maxRecDepth 20000 in
theorem gX1_read_X1_noteDoer : GoodIn wsX1_read (wsV RX1 79 RX1 yX1_noteDoer wsX1_noteDoer) := goodIn_app (goodIn_of _ (by decide +kernel)) ggX1_read_X1_noteDoer
theorem dX1_read_0 : decode cX1_read 0 = .ok (.aload_n 0, 1) := by decide +kernel
theorem dX1_read_1 : decode cX1_read 1 = .ok (.invokevirtual 18, 3) := by decide +kernel
theorem dX1_read_4 : decode cX1_read 4 = .ok (.aload_n 0, 1) := by decide +kernel
theorem dX1_read_5 : decode cX1_read 5 = .ok (.iload_n 2, 1) := by decide +kernel
theorem dX1_read_6 : decode cX1_read 6 = .ok (.putfield 29, 3) := by decide +kernel
theorem dX1_read_9 : decode cX1_read 9 = .ok (.aload_n 0, 1) := by decide +kernel
theorem dX1_read_10 : decode cX1_read 10 = .ok (.aload_n 1, 1) := by decide +kernel
theorem dX1_read_11 : decode cX1_read 11 = .ok (.iconst 0, 1) := by decide +kernel
theorem dX1_read_12 : decode cX1_read 12 = .ok (.invokevirtual 59, 3) := by decide +kernel
theorem dX1_read_15 : decode cX1_read 15 = .ok (.bipush 43, 2) := by decide +kernel
theorem dX1_read_17 : decode cX1_read 17 = .ok (.if_icmp .ne 7, 3) := by decide +kernel
theorem dX1_read_20 : decode cX1_read 20 = .ok (.iconst 1, 1) := by decide +kernel
theorem dX1_read_21 : decode cX1_read 21 = .ok (.goto 4, 3) := by decide +kernel
theorem dX1_read_24 : decode cX1_read 24 = .ok (.iconst 0, 1) := by decide +kernel
theorem dX1_read_25 : decode cX1_read 25 = .ok (.putfield 25, 3) := by decide +kernel
theorem dX1_read_28 : decode cX1_read 28 = .ok (.aload_n 0, 1) := by decide +kernel
theorem dX1_read_29 : decode cX1_read 29 = .ok (.getfield 25, 3) := by decide +kernel
theorem dX1_read_32 : decode cX1_read 32 = .ok (.ifCond .eq 7, 3) := by decide +kernel
theorem dX1_read_35 : decode cX1_read 35 = .ok (.iconst 1, 1) := by decide +kernel
theorem dX1_read_36 : decode cX1_read 36 = .ok (.goto 4, 3) := by decide +kernel
theorem dX1_read_39 : decode cX1_read 39 = .ok (.iconst 0, 1) := by decide +kernel
theorem dX1_read_40 : decode cX1_read 40 = .ok (.istore_n 3, 1) := by decide +kernel
theorem dX1_read_41 : decode cX1_read 41 = .ok (.iload_n 3, 1) := by decide +kernel
theorem dX1_read_42 : decode cX1_read 42 = .ok (.aload_n 1, 1) := by decide +kernel
theorem dX1_read_43 : decode cX1_read 43 = .ok (.invokevirtual 65, 3) := by decide +kernel
theorem dX1_read_46 : decode cX1_read 46 = .ok (.if_icmp .ge 53, 3) := by decide +kernel
theorem dX1_read_49 : decode cX1_read 49 = .ok (.aload_n 1, 1) := by decide +kernel
theorem dX1_read_50 : decode cX1_read 50 = .ok (.iload_n 3, 1) := by decide +kernel
theorem dX1_read_51 : decode cX1_read 51 = .ok (.invokevirtual 59, 3) := by decide +kernel
theorem dX1_read_54 : decode cX1_read 54 = .ok (.istore 4, 2) := by decide +kernel
theorem dX1_read_56 : decode cX1_read 56 = .ok (.aload_n 1, 1) := by decide +kernel
theorem dX1_read_57 : decode cX1_read 57 = .ok (.iload_n 3, 1) := by decide +kernel
theorem dX1_read_58 : decode cX1_read 58 = .ok (.iconst 1, 1) := by decide +kernel
theorem dX1_read_59 : decode cX1_read 59 = .ok (.isub, 1) := by decide +kernel
theorem dX1_read_60 : decode cX1_read 60 = .ok (.invokevirtual 59, 3) := by decide +kernel
theorem dX1_read_63 : decode cX1_read 63 = .ok (.bipush 64, 2) := by decide +kernel
theorem dX1_read_65 : decode cX1_read 65 = .ok (.if_icmp .ne 15, 3) := by decide +kernel
theorem dX1_read_68 : decode cX1_read 68 = .ok (.aload_n 0, 1) := by decide +kernel
theorem dX1_read_69 : decode cX1_read 69 = .ok (.iload 4, 2) := by decide +kernel
theorem dX1_read_71 : decode cX1_read 71 = .ok (.bipush 65, 2) := by decide +kernel
theorem dX1_read_73 : decode cX1_read 73 = .ok (.isub, 1) := by decide +kernel
theorem dX1_read_74 : decode cX1_read 74 = .ok (.invokevirtual 69, 3) := by decide +kernel
theorem dX1_read_77 : decode cX1_read 77 = .ok (.goto 16, 3) := by decide +kernel
theorem dX1_read_80 : decode cX1_read 80 = .ok (.iload 4, 2) := by decide +kernel
theorem dX1_read_82 : decode cX1_read 82 = .ok (.bipush 64, 2) := by decide +kernel
theorem dX1_read_84 : decode cX1_read 84 = .ok (.if_icmp .eq 9, 3) := by decide +kernel
theorem dX1_read_87 : decode cX1_read 87 = .ok (.aload_n 0, 1) := by decide +kernel
theorem dX1_read_88 : decode cX1_read 88 = .ok (.iload 4, 2) := by decide +kernel
theorem dX1_read_90 : decode cX1_read 90 = .ok (.invokevirtual 73, 3) := by decide +kernel
theorem dX1_read_93 : decode cX1_read 93 = .ok (.iinc 3 1, 3) := by decide +kernel
theorem dX1_read_96 : decode cX1_read 96 = .ok (.goto (-55), 3) := by decide +kernel
theorem dX1_read_99 : decode cX1_read 99 = .ok (.aload_n 0, 1) := by decide +kernel
theorem dX1_read_100 : decode cX1_read 100 = .ok (.invokevirtual 76, 3) := by decide +kernel
theorem dX1_read_103 : decode cX1_read 103 = .ok (.aload_n 0, 1) := by decide +kernel
theorem dX1_read_104 : decode cX1_read 104 = .ok (.invokevirtual 79, 3) := by decide +kernel
theorem dX1_read_107 : decode cX1_read 107 = .ok (.return_, 1) := by decide +kernel
set_option maxRecDepth 20000 in
theorem ggX1_addItem_X5_isWithin : GoodIn wsX1_addItem wsX5_isWithin := goodIn_r _ [8] (by decide +kernel) (by decide +kernel)
set_option maxRecDepth 20000 in
theorem gX1_addItem_X5_isWithin_n82 : GoodIn wsX1_addItem (wsX5_isWithin) := ggX1_addItem_X5_isWithin
set_option maxRecDepth 20000 in
theorem ggX1_addItem_X5_bitOf : GoodIn wsX1_addItem wsX5_bitOf := goodIn_r _ [10] (by decide +kernel) (by decide +kernel)
set_option maxRecDepth 20000 in
theorem gX1_addItem_X5_bitOf_n86 : GoodIn wsX1_addItem (wsX5_bitOf) := ggX1_addItem_X5_bitOf
theorem dX1_addItem_0 : decode cX1_addItem 0 = .ok (.aload_n 0, 1) := by decide +kernel
theorem dX1_addItem_1 : decode cX1_addItem 1 = .ok (.getfield 21, 3) := by decide +kernel
theorem dX1_addItem_4 : decode cX1_addItem 4 = .ok (.aload_n 0, 1) := by decide +kernel
theorem dX1_addItem_5 : decode cX1_addItem 5 = .ok (.getfield 9, 3) := by decide +kernel
theorem dX1_addItem_8 : decode cX1_addItem 8 = .ok (.arraylength, 1) := by decide +kernel
theorem dX1_addItem_9 : decode cX1_addItem 9 = .ok (.invokestatic 82, 3) := by decide +kernel
theorem dX1_addItem_12 : decode cX1_addItem 12 = .ok (.ifCond .eq 18, 3) := by decide +kernel
theorem dX1_addItem_15 : decode cX1_addItem 15 = .ok (.aload_n 0, 1) := by decide +kernel
theorem dX1_addItem_16 : decode cX1_addItem 16 = .ok (.getfield 21, 3) := by decide +kernel
theorem dX1_addItem_19 : decode cX1_addItem 19 = .ok (.aload_n 0, 1) := by decide +kernel
theorem dX1_addItem_20 : decode cX1_addItem 20 = .ok (.getfield 15, 3) := by decide +kernel
theorem dX1_addItem_23 : decode cX1_addItem 23 = .ok (.arraylength, 1) := by decide +kernel
theorem dX1_addItem_24 : decode cX1_addItem 24 = .ok (.invokestatic 82, 3) := by decide +kernel
theorem dX1_addItem_27 : decode cX1_addItem 27 = .ok (.ifCond .ne 4, 3) := by decide +kernel
theorem dX1_addItem_30 : decode cX1_addItem 30 = .ok (.return_, 1) := by decide +kernel
theorem dX1_addItem_31 : decode cX1_addItem 31 = .ok (.iload_n 1, 1) := by decide +kernel
theorem dX1_addItem_32 : decode cX1_addItem 32 = .ok (.bipush 65, 2) := by decide +kernel
theorem dX1_addItem_34 : decode cX1_addItem 34 = .ok (.isub, 1) := by decide +kernel
theorem dX1_addItem_35 : decode cX1_addItem 35 = .ok (.istore_n 2, 1) := by decide +kernel
theorem dX1_addItem_36 : decode cX1_addItem 36 = .ok (.iload_n 2, 1) := by decide +kernel
theorem dX1_addItem_37 : decode cX1_addItem 37 = .ok (.bipush 8, 2) := by decide +kernel
theorem dX1_addItem_39 : decode cX1_addItem 39 = .ok (.invokestatic 82, 3) := by decide +kernel
theorem dX1_addItem_42 : decode cX1_addItem 42 = .ok (.istore_n 3, 1) := by decide +kernel
theorem dX1_addItem_43 : decode cX1_addItem 43 = .ok (.aload_n 0, 1) := by decide +kernel
theorem dX1_addItem_44 : decode cX1_addItem 44 = .ok (.getfield 9, 3) := by decide +kernel
theorem dX1_addItem_47 : decode cX1_addItem 47 = .ok (.aload_n 0, 1) := by decide +kernel
theorem dX1_addItem_48 : decode cX1_addItem 48 = .ok (.getfield 21, 3) := by decide +kernel
theorem dX1_addItem_51 : decode cX1_addItem 51 = .ok (.iload_n 3, 1) := by decide +kernel
theorem dX1_addItem_52 : decode cX1_addItem 52 = .ok (.ifCond .eq 8, 3) := by decide +kernel
theorem dX1_addItem_55 : decode cX1_addItem 55 = .ok (.bipush 65, 2) := by decide +kernel
theorem dX1_addItem_57 : decode cX1_addItem 57 = .ok (.goto 4, 3) := by decide +kernel
theorem dX1_addItem_60 : decode cX1_addItem 60 = .ok (.iload_n 1, 1) := by decide +kernel
theorem dX1_addItem_61 : decode cX1_addItem 61 = .ok (.iastore, 1) := by decide +kernel
theorem dX1_addItem_62 : decode cX1_addItem 62 = .ok (.aload_n 0, 1) := by decide +kernel
theorem dX1_addItem_63 : decode cX1_addItem 63 = .ok (.getfield 15, 3) := by decide +kernel
theorem dX1_addItem_66 : decode cX1_addItem 66 = .ok (.aload_n 0, 1) := by decide +kernel
theorem dX1_addItem_67 : decode cX1_addItem 67 = .ok (.getfield 21, 3) := by decide +kernel
theorem dX1_addItem_70 : decode cX1_addItem 70 = .ok (.iload_n 3, 1) := by decide +kernel
theorem dX1_addItem_71 : decode cX1_addItem 71 = .ok (.ifCond .eq 7, 3) := by decide +kernel
theorem dX1_addItem_74 : decode cX1_addItem 74 = .ok (.iload_n 2, 1) := by decide +kernel
theorem dX1_addItem_75 : decode cX1_addItem 75 = .ok (.goto 4, 3) := by decide +kernel
theorem dX1_addItem_78 : decode cX1_addItem 78 = .ok (.iconst (-1), 1) := by decide +kernel
theorem dX1_addItem_79 : decode cX1_addItem 79 = .ok (.iastore, 1) := by decide +kernel
theorem dX1_addItem_80 : decode cX1_addItem 80 = .ok (.aload_n 0, 1) := by decide +kernel
theorem dX1_addItem_81 : decode cX1_addItem 81 = .ok (.dup, 1) := by decide +kernel
theorem dX1_addItem_82 : decode cX1_addItem 82 = .ok (.getfield 38, 3) := by decide +kernel
theorem dX1_addItem_85 : decode cX1_addItem 85 = .ok (.iload_n 2, 1) := by decide +kernel
theorem dX1_addItem_86 : decode cX1_addItem 86 = .ok (.invokestatic 86, 3) := by decide +kernel
theorem dX1_addItem_89 : decode cX1_addItem 89 = .ok (.ior, 1) := by decide +kernel
theorem dX1_addItem_90 : decode cX1_addItem 90 = .ok (.putfield 38, 3) := by decide +kernel
theorem dX1_addItem_93 : decode cX1_addItem 93 = .ok (.aload_n 0, 1) := by decide +kernel
theorem dX1_addItem_94 : decode cX1_addItem 94 = .ok (.dup, 1) := by decide +kernel
theorem dX1_addItem_95 : decode cX1_addItem 95 = .ok (.getfield 21, 3) := by decide +kernel
theorem dX1_addItem_98 : decode cX1_addItem 98 = .ok (.iconst 1, 1) := by decide +kernel
theorem dX1_addItem_99 : decode cX1_addItem 99 = .ok (.iadd, 1) := by decide +kernel
theorem dX1_addItem_100 : decode cX1_addItem 100 = .ok (.putfield 21, 3) := by decide +kernel
theorem dX1_addItem_103 : decode cX1_addItem 103 = .ok (.iload_n 1, 1) := by decide +kernel
theorem dX1_addItem_104 : decode cX1_addItem 104 = .ok (.bipush 113, 2) := by decide +kernel
theorem dX1_addItem_106 : decode cX1_addItem 106 = .ok (.if_icmp .ne 13, 3) := by decide +kernel
theorem dX1_addItem_109 : decode cX1_addItem 109 = .ok (.aload_n 0, 1) := by decide +kernel
theorem dX1_addItem_110 : decode cX1_addItem 110 = .ok (.dup, 1) := by decide +kernel
theorem dX1_addItem_111 : decode cX1_addItem 111 = .ok (.getfield 35, 3) := by decide +kernel
theorem dX1_addItem_114 : decode cX1_addItem 114 = .ok (.iconst 1, 1) := by decide +kernel
theorem dX1_addItem_115 : decode cX1_addItem 115 = .ok (.iadd, 1) := by decide +kernel
theorem dX1_addItem_116 : decode cX1_addItem 116 = .ok (.putfield 35, 3) := by decide +kernel
theorem dX1_addItem_119 : decode cX1_addItem 119 = .ok (.return_, 1) := by decide +kernel
set_option maxRecDepth 20000 in
theorem ggX1_noteSpokenTo_X5_bitOf : GoodIn wsX1_noteSpokenTo wsX5_bitOf := goodIn_r _ [5] (by decide +kernel) (by decide +kernel)
set_option maxRecDepth 20000 in
theorem gX1_noteSpokenTo_X5_bitOf_n86 : GoodIn wsX1_noteSpokenTo (wsX5_bitOf) := ggX1_noteSpokenTo_X5_bitOf
theorem dX1_noteSpokenTo_0 : decode cX1_noteSpokenTo 0 = .ok (.aload_n 0, 1) := by decide +kernel
theorem dX1_noteSpokenTo_1 : decode cX1_noteSpokenTo 1 = .ok (.dup, 1) := by decide +kernel
theorem dX1_noteSpokenTo_2 : decode cX1_noteSpokenTo 2 = .ok (.getfield 38, 3) := by decide +kernel
theorem dX1_noteSpokenTo_5 : decode cX1_noteSpokenTo 5 = .ok (.iload_n 1, 1) := by decide +kernel
theorem dX1_noteSpokenTo_6 : decode cX1_noteSpokenTo 6 = .ok (.invokestatic 86, 3) := by decide +kernel
theorem dX1_noteSpokenTo_9 : decode cX1_noteSpokenTo 9 = .ok (.ior, 1) := by decide +kernel
theorem dX1_noteSpokenTo_10 : decode cX1_noteSpokenTo 10 = .ok (.putfield 38, 3) := by decide +kernel
theorem dX1_noteSpokenTo_13 : decode cX1_noteSpokenTo 13 = .ok (.aload_n 0, 1) := by decide +kernel
theorem dX1_noteSpokenTo_14 : decode cX1_noteSpokenTo 14 = .ok (.dup, 1) := by decide +kernel
theorem dX1_noteSpokenTo_15 : decode cX1_noteSpokenTo 15 = .ok (.getfield 41, 3) := by decide +kernel
theorem dX1_noteSpokenTo_18 : decode cX1_noteSpokenTo 18 = .ok (.iload_n 1, 1) := by decide +kernel
theorem dX1_noteSpokenTo_19 : decode cX1_noteSpokenTo 19 = .ok (.invokestatic 86, 3) := by decide +kernel
theorem dX1_noteSpokenTo_22 : decode cX1_noteSpokenTo 22 = .ok (.ior, 1) := by decide +kernel
theorem dX1_noteSpokenTo_23 : decode cX1_noteSpokenTo 23 = .ok (.putfield 41, 3) := by decide +kernel
theorem dX1_noteSpokenTo_26 : decode cX1_noteSpokenTo 26 = .ok (.return_, 1) := by decide +kernel
set_option maxRecDepth 20000 in
theorem ggX1_noteVerbs_X1_whoPlace : GoodIn wsX1_noteVerbs wsX1_whoPlace := goodIn_r _ [7, 8, 9, 10, 6, 11, 1, 12, 13, 14, 15, 16, 17, 18, 44, 45, 46, 47, 48, 49, 50, 51, 52, 53, 54, 55, 56, 57] (by decide +kernel) (by decide +kernel)
set_option maxRecDepth 20000 in
theorem gX1_noteVerbs_X1_whoPlace : GoodIn wsX1_noteVerbs (wsV RX1 89 RX1 yX1_whoPlace wsX1_whoPlace) := goodIn_app (goodIn_of _ (by decide +kernel)) ggX1_noteVerbs_X1_whoPlace
set_option maxRecDepth 20000 in
theorem ggX1_noteVerbs_X1_verbCounts : GoodIn wsX1_noteVerbs wsX1_verbCounts := goodIn_r _ [22, 23, 24, 25, 26, 27, 28, 29, 8, 9, 10, 6, 11, 1, 12, 13, 14, 15, 44, 45, 46, 47, 48, 49, 50, 51, 52, 53, 54, 55, 56, 57] (by decide +kernel) (by decide +kernel)
set_option maxRecDepth 20000 in
theorem gX1_noteVerbs_X1_verbCounts : GoodIn wsX1_noteVerbs (wsV RX1 92 RX1 yX1_verbCounts wsX1_verbCounts) := goodIn_app (goodIn_of _ (by decide +kernel)) ggX1_noteVerbs_X1_verbCounts
set_option maxRecDepth 20000 in
theorem ggX1_noteVerbs_X1_noteWho : GoodIn wsX1_noteVerbs wsX1_noteWho := goodIn_r _ [33, 34, 35, 36, 8, 9, 10, 6, 11, 1, 12, 13, 14, 15, 37, 38, 39, 40, 41, 42, 43, 44, 45, 46, 47, 48, 49, 50, 51, 52, 53, 54, 55, 56, 57] (by decide +kernel) (by decide +kernel)
set_option maxRecDepth 20000 in
theorem gX1_noteVerbs_X1_noteWho : GoodIn wsX1_noteVerbs (wsV RX1 95 RX1 yX1_noteWho wsX1_noteWho) := goodIn_app (goodIn_of _ (by decide +kernel)) ggX1_noteVerbs_X1_noteWho
theorem dX1_noteVerbs_0 : decode cX1_noteVerbs 0 = .ok (.iconst 0, 1) := by decide +kernel
theorem dX1_noteVerbs_1 : decode cX1_noteVerbs 1 = .ok (.istore_n 1, 1) := by decide +kernel
theorem dX1_noteVerbs_2 : decode cX1_noteVerbs 2 = .ok (.iload_n 1, 1) := by decide +kernel
theorem dX1_noteVerbs_3 : decode cX1_noteVerbs 3 = .ok (.aload_n 0, 1) := by decide +kernel
theorem dX1_noteVerbs_4 : decode cX1_noteVerbs 4 = .ok (.getfield 21, 3) := by decide +kernel
theorem dX1_noteVerbs_7 : decode cX1_noteVerbs 7 = .ok (.if_icmp .ge 39, 3) := by decide +kernel
theorem dX1_noteVerbs_10 : decode cX1_noteVerbs 10 = .ok (.aload_n 0, 1) := by decide +kernel
theorem dX1_noteVerbs_11 : decode cX1_noteVerbs 11 = .ok (.iload_n 1, 1) := by decide +kernel
theorem dX1_noteVerbs_12 : decode cX1_noteVerbs 12 = .ok (.invokevirtual 89, 3) := by decide +kernel
theorem dX1_noteVerbs_15 : decode cX1_noteVerbs 15 = .ok (.istore_n 2, 1) := by decide +kernel
theorem dX1_noteVerbs_16 : decode cX1_noteVerbs 16 = .ok (.aload_n 0, 1) := by decide +kernel
theorem dX1_noteVerbs_17 : decode cX1_noteVerbs 17 = .ok (.iload_n 1, 1) := by decide +kernel
theorem dX1_noteVerbs_18 : decode cX1_noteVerbs 18 = .ok (.iload_n 2, 1) := by decide +kernel
theorem dX1_noteVerbs_19 : decode cX1_noteVerbs 19 = .ok (.invokevirtual 92, 3) := by decide +kernel
theorem dX1_noteVerbs_22 : decode cX1_noteVerbs 22 = .ok (.ifCond .eq 18, 3) := by decide +kernel
theorem dX1_noteVerbs_25 : decode cX1_noteVerbs 25 = .ok (.aload_n 0, 1) := by decide +kernel
theorem dX1_noteVerbs_26 : decode cX1_noteVerbs 26 = .ok (.dup, 1) := by decide +kernel
theorem dX1_noteVerbs_27 : decode cX1_noteVerbs 27 = .ok (.getfield 44, 3) := by decide +kernel
theorem dX1_noteVerbs_30 : decode cX1_noteVerbs 30 = .ok (.iconst 1, 1) := by decide +kernel
theorem dX1_noteVerbs_31 : decode cX1_noteVerbs 31 = .ok (.iadd, 1) := by decide +kernel
theorem dX1_noteVerbs_32 : decode cX1_noteVerbs 32 = .ok (.putfield 44, 3) := by decide +kernel
theorem dX1_noteVerbs_35 : decode cX1_noteVerbs 35 = .ok (.aload_n 0, 1) := by decide +kernel
theorem dX1_noteVerbs_36 : decode cX1_noteVerbs 36 = .ok (.iload_n 2, 1) := by decide +kernel
theorem dX1_noteVerbs_37 : decode cX1_noteVerbs 37 = .ok (.invokevirtual 95, 3) := by decide +kernel
theorem dX1_noteVerbs_40 : decode cX1_noteVerbs 40 = .ok (.iinc 1 1, 3) := by decide +kernel
theorem dX1_noteVerbs_43 : decode cX1_noteVerbs 43 = .ok (.goto (-41), 3) := by decide +kernel
theorem dX1_noteVerbs_46 : decode cX1_noteVerbs 46 = .ok (.return_, 1) := by decide +kernel
set_option maxRecDepth 20000 in
theorem ggX1_noteWho_X1_kindAt : GoodIn wsX1_noteWho wsX1_kindAt := goodIn_r _ [8, 9, 10, 11, 12, 13, 21, 22, 23, 24, 25, 26, 27, 28, 29, 30, 31, 32, 33, 34] (by decide +kernel) (by decide +kernel)
set_option maxRecDepth 20000 in
theorem gX1_noteWho_X1_kindAt : GoodIn wsX1_noteWho (wsV RX1 98 RX1 yX1_kindAt wsX1_kindAt) := goodIn_app (goodIn_of _ (by decide +kernel)) ggX1_noteWho_X1_kindAt
set_option maxRecDepth 20000 in
theorem ggX1_noteWho_X1_personAt : GoodIn wsX1_noteWho wsX1_personAt := goodIn_r _ [17, 9, 18, 11, 12, 13, 21, 22, 23, 24, 25, 26, 27, 28, 29, 30, 31, 32, 33, 34] (by decide +kernel) (by decide +kernel)
set_option maxRecDepth 20000 in
theorem gX1_noteWho_X1_personAt : GoodIn wsX1_noteWho (wsV RX1 101 RX1 yX1_personAt wsX1_personAt) := goodIn_app (goodIn_of _ (by decide +kernel)) ggX1_noteWho_X1_personAt
set_option maxRecDepth 20000 in
theorem ggX1_noteWho_X5_bitOf : GoodIn wsX1_noteWho wsX5_bitOf := goodIn_r _ [20] (by decide +kernel) (by decide +kernel)
set_option maxRecDepth 20000 in
theorem gX1_noteWho_X5_bitOf_n86 : GoodIn wsX1_noteWho (wsX5_bitOf) := ggX1_noteWho_X5_bitOf
theorem dX1_noteWho_0 : decode cX1_noteWho 0 = .ok (.aload_n 0, 1) := by decide +kernel
theorem dX1_noteWho_1 : decode cX1_noteWho 1 = .ok (.iload_n 1, 1) := by decide +kernel
theorem dX1_noteWho_2 : decode cX1_noteWho 2 = .ok (.invokevirtual 98, 3) := by decide +kernel
theorem dX1_noteWho_5 : decode cX1_noteWho 5 = .ok (.lookupswitch 71 #[(65, 35), (104, 55), (115, 63)], 35) := by decide +kernel
theorem dX1_noteWho_40 : decode cX1_noteWho 40 = .ok (.aload_n 0, 1) := by decide +kernel
theorem dX1_noteWho_41 : decode cX1_noteWho 41 = .ok (.dup, 1) := by decide +kernel
theorem dX1_noteWho_42 : decode cX1_noteWho 42 = .ok (.getfield 47, 3) := by decide +kernel
theorem dX1_noteWho_45 : decode cX1_noteWho 45 = .ok (.aload_n 0, 1) := by decide +kernel
theorem dX1_noteWho_46 : decode cX1_noteWho 46 = .ok (.iload_n 1, 1) := by decide +kernel
theorem dX1_noteWho_47 : decode cX1_noteWho 47 = .ok (.invokevirtual 101, 3) := by decide +kernel
theorem dX1_noteWho_50 : decode cX1_noteWho 50 = .ok (.invokestatic 86, 3) := by decide +kernel
theorem dX1_noteWho_53 : decode cX1_noteWho 53 = .ok (.iand, 1) := by decide +kernel
theorem dX1_noteWho_54 : decode cX1_noteWho 54 = .ok (.putfield 47, 3) := by decide +kernel
theorem dX1_noteWho_57 : decode cX1_noteWho 57 = .ok (.goto 19, 3) := by decide +kernel
theorem dX1_noteWho_60 : decode cX1_noteWho 60 = .ok (.aload_n 0, 1) := by decide +kernel
theorem dX1_noteWho_61 : decode cX1_noteWho 61 = .ok (.iconst 1, 1) := by decide +kernel
theorem dX1_noteWho_62 : decode cX1_noteWho 62 = .ok (.putfield 50, 3) := by decide +kernel
theorem dX1_noteWho_65 : decode cX1_noteWho 65 = .ok (.goto 11, 3) := by decide +kernel
theorem dX1_noteWho_68 : decode cX1_noteWho 68 = .ok (.aload_n 0, 1) := by decide +kernel
theorem dX1_noteWho_69 : decode cX1_noteWho 69 = .ok (.iconst 1, 1) := by decide +kernel
theorem dX1_noteWho_70 : decode cX1_noteWho 70 = .ok (.putfield 53, 3) := by decide +kernel
theorem dX1_noteWho_73 : decode cX1_noteWho 73 = .ok (.goto 3, 3) := by decide +kernel
theorem dX1_noteWho_76 : decode cX1_noteWho 76 = .ok (.return_, 1) := by decide +kernel
set_option maxRecDepth 20000 in
theorem ggX1_noteDoer_X1_kindAt : GoodIn wsX1_noteDoer wsX1_kindAt := goodIn_r _ [7, 8, 9, 10, 11, 12, 20, 21, 22, 23, 24, 25, 26, 27, 28, 29, 30, 31, 32, 33] (by decide +kernel) (by decide +kernel)
set_option maxRecDepth 20000 in
theorem gX1_noteDoer_X1_kindAt : GoodIn wsX1_noteDoer (wsV RX1 98 RX1 yX1_kindAt wsX1_kindAt) := goodIn_app (goodIn_of _ (by decide +kernel)) ggX1_noteDoer_X1_kindAt
set_option maxRecDepth 20000 in
theorem ggX1_noteDoer_X1_personAt : GoodIn wsX1_noteDoer wsX1_personAt := goodIn_r _ [16, 8, 17, 10, 11, 12, 20, 21, 22, 23, 24, 25, 26, 27, 28, 29, 30, 31, 32, 33] (by decide +kernel) (by decide +kernel)
set_option maxRecDepth 20000 in
theorem gX1_noteDoer_X1_personAt : GoodIn wsX1_noteDoer (wsV RX1 101 RX1 yX1_personAt wsX1_personAt) := goodIn_app (goodIn_of _ (by decide +kernel)) ggX1_noteDoer_X1_personAt
set_option maxRecDepth 20000 in
theorem ggX1_noteDoer_X5_bitOf : GoodIn wsX1_noteDoer wsX5_bitOf := goodIn_r _ [19] (by decide +kernel) (by decide +kernel)
set_option maxRecDepth 20000 in
theorem gX1_noteDoer_X5_bitOf_n86 : GoodIn wsX1_noteDoer (wsX5_bitOf) := ggX1_noteDoer_X5_bitOf
theorem dX1_noteDoer_0 : decode cX1_noteDoer 0 = .ok (.aload_n 0, 1) := by decide +kernel
theorem dX1_noteDoer_1 : decode cX1_noteDoer 1 = .ok (.getfield 44, 3) := by decide +kernel
theorem dX1_noteDoer_4 : decode cX1_noteDoer 4 = .ok (.ifCond .ne 35, 3) := by decide +kernel
theorem dX1_noteDoer_7 : decode cX1_noteDoer 7 = .ok (.aload_n 0, 1) := by decide +kernel
theorem dX1_noteDoer_8 : decode cX1_noteDoer 8 = .ok (.iconst 0, 1) := by decide +kernel
theorem dX1_noteDoer_9 : decode cX1_noteDoer 9 = .ok (.invokevirtual 98, 3) := by decide +kernel
theorem dX1_noteDoer_12 : decode cX1_noteDoer 12 = .ok (.bipush 65, 2) := by decide +kernel
theorem dX1_noteDoer_14 : decode cX1_noteDoer 14 = .ok (.if_icmp .ne 25, 3) := by decide +kernel
theorem dX1_noteDoer_17 : decode cX1_noteDoer 17 = .ok (.aload_n 0, 1) := by decide +kernel
theorem dX1_noteDoer_18 : decode cX1_noteDoer 18 = .ok (.iconst 1, 1) := by decide +kernel
theorem dX1_noteDoer_19 : decode cX1_noteDoer 19 = .ok (.invokevirtual 98, 3) := by decide +kernel
theorem dX1_noteDoer_22 : decode cX1_noteDoer 22 = .ok (.bipush 111, 2) := by decide +kernel
theorem dX1_noteDoer_24 : decode cX1_noteDoer 24 = .ok (.if_icmp .ne 15, 3) := by decide +kernel
theorem dX1_noteDoer_27 : decode cX1_noteDoer 27 = .ok (.aload_n 0, 1) := by decide +kernel
theorem dX1_noteDoer_28 : decode cX1_noteDoer 28 = .ok (.aload_n 0, 1) := by decide +kernel
theorem dX1_noteDoer_29 : decode cX1_noteDoer 29 = .ok (.iconst 0, 1) := by decide +kernel
theorem dX1_noteDoer_30 : decode cX1_noteDoer 30 = .ok (.invokevirtual 101, 3) := by decide +kernel
theorem dX1_noteDoer_33 : decode cX1_noteDoer 33 = .ok (.invokestatic 86, 3) := by decide +kernel
theorem dX1_noteDoer_36 : decode cX1_noteDoer 36 = .ok (.putfield 56, 3) := by decide +kernel
theorem dX1_noteDoer_39 : decode cX1_noteDoer 39 = .ok (.return_, 1) := by decide +kernel
set_option maxRecDepth 20000 in
theorem ggX1_verbCounts_X1_kindAt : GoodIn wsX1_verbCounts wsX1_kindAt := goodIn_r _ [12, 13, 14, 15, 16, 17, 18, 19, 20, 21, 22, 23, 24, 25, 26, 27, 28, 29, 30, 31] (by decide +kernel) (by decide +kernel)
set_option maxRecDepth 20000 in
theorem gX1_verbCounts_X1_kindAt : GoodIn wsX1_verbCounts (wsV RX1 98 RX1 yX1_kindAt wsX1_kindAt) := goodIn_app (goodIn_of _ (by decide +kernel)) ggX1_verbCounts_X1_kindAt
theorem dX1_verbCounts_0 : decode cX1_verbCounts 0 = .ok (.aload_n 0, 1) := by decide +kernel
theorem dX1_verbCounts_1 : decode cX1_verbCounts 1 = .ok (.iload_n 1, 1) := by decide +kernel
theorem dX1_verbCounts_2 : decode cX1_verbCounts 2 = .ok (.invokevirtual 98, 3) := by decide +kernel
theorem dX1_verbCounts_5 : decode cX1_verbCounts 5 = .ok (.bipush 118, 2) := by decide +kernel
theorem dX1_verbCounts_7 : decode cX1_verbCounts 7 = .ok (.if_icmp .ne 9, 3) := by decide +kernel
theorem dX1_verbCounts_10 : decode cX1_verbCounts 10 = .ok (.iload_n 2, 1) := by decide +kernel
theorem dX1_verbCounts_11 : decode cX1_verbCounts 11 = .ok (.bipush (-9), 2) := by decide +kernel
theorem dX1_verbCounts_13 : decode cX1_verbCounts 13 = .ok (.if_icmp .ne 5, 3) := by decide +kernel
theorem dX1_verbCounts_16 : decode cX1_verbCounts 16 = .ok (.iconst 0, 1) := by decide +kernel
theorem dX1_verbCounts_17 : decode cX1_verbCounts 17 = .ok (.ireturn, 1) := by decide +kernel
theorem dX1_verbCounts_18 : decode cX1_verbCounts 18 = .ok (.iload_n 1, 1) := by decide +kernel
theorem dX1_verbCounts_19 : decode cX1_verbCounts 19 = .ok (.iload_n 2, 1) := by decide +kernel
theorem dX1_verbCounts_20 : decode cX1_verbCounts 20 = .ok (.invokestatic 104, 3) := by decide +kernel
theorem dX1_verbCounts_23 : decode cX1_verbCounts 23 = .ok (.iconst 1, 1) := by decide +kernel
theorem dX1_verbCounts_24 : decode cX1_verbCounts 24 = .ok (.isub, 1) := by decide +kernel
theorem dX1_verbCounts_25 : decode cX1_verbCounts 25 = .ok (.istore_n 3, 1) := by decide +kernel
theorem dX1_verbCounts_26 : decode cX1_verbCounts 26 = .ok (.iload_n 1, 1) := by decide +kernel
theorem dX1_verbCounts_27 : decode cX1_verbCounts 27 = .ok (.iload_n 2, 1) := by decide +kernel
theorem dX1_verbCounts_28 : decode cX1_verbCounts 28 = .ok (.invokestatic 110, 3) := by decide +kernel
theorem dX1_verbCounts_31 : decode cX1_verbCounts 31 = .ok (.iconst 1, 1) := by decide +kernel
theorem dX1_verbCounts_32 : decode cX1_verbCounts 32 = .ok (.iadd, 1) := by decide +kernel
theorem dX1_verbCounts_33 : decode cX1_verbCounts 33 = .ok (.istore 4, 2) := by decide +kernel
theorem dX1_verbCounts_35 : decode cX1_verbCounts 35 = .ok (.aload_n 0, 1) := by decide +kernel
theorem dX1_verbCounts_36 : decode cX1_verbCounts 36 = .ok (.iload_n 3, 1) := by decide +kernel
theorem dX1_verbCounts_37 : decode cX1_verbCounts 37 = .ok (.invokevirtual 98, 3) := by decide +kernel
theorem dX1_verbCounts_40 : decode cX1_verbCounts 40 = .ok (.bipush 113, 2) := by decide +kernel
theorem dX1_verbCounts_42 : decode cX1_verbCounts 42 = .ok (.if_icmp .eq 14, 3) := by decide +kernel
theorem dX1_verbCounts_45 : decode cX1_verbCounts 45 = .ok (.aload_n 0, 1) := by decide +kernel
theorem dX1_verbCounts_46 : decode cX1_verbCounts 46 = .ok (.iload 4, 2) := by decide +kernel
theorem dX1_verbCounts_48 : decode cX1_verbCounts 48 = .ok (.invokevirtual 98, 3) := by decide +kernel
theorem dX1_verbCounts_51 : decode cX1_verbCounts 51 = .ok (.bipush 113, 2) := by decide +kernel
theorem dX1_verbCounts_53 : decode cX1_verbCounts 53 = .ok (.if_icmp .ne 7, 3) := by decide +kernel
theorem dX1_verbCounts_56 : decode cX1_verbCounts 56 = .ok (.iconst 1, 1) := by decide +kernel
theorem dX1_verbCounts_57 : decode cX1_verbCounts 57 = .ok (.goto 4, 3) := by decide +kernel
theorem dX1_verbCounts_60 : decode cX1_verbCounts 60 = .ok (.iconst 0, 1) := by decide +kernel
theorem dX1_verbCounts_61 : decode cX1_verbCounts 61 = .ok (.ireturn, 1) := by decide +kernel
set_option maxRecDepth 20000 in
theorem ggX1_whoPlace_X1_kindAt : GoodIn wsX1_whoPlace wsX1_kindAt := goodIn_r _ [5, 6, 7, 8, 9, 10, 14, 15, 16, 17, 18, 19, 20, 21, 22, 23, 24, 25, 26, 27] (by decide +kernel) (by decide +kernel)
set_option maxRecDepth 20000 in
theorem gX1_whoPlace_X1_kindAt : GoodIn wsX1_whoPlace (wsV RX1 98 RX1 yX1_kindAt wsX1_kindAt) := goodIn_app (goodIn_of _ (by decide +kernel)) ggX1_whoPlace_X1_kindAt
set_option maxRecDepth 20000 in
theorem ggX1_whoPlace_X1_isWho : GoodIn wsX1_whoPlace wsX1_isWho := goodIn_r _ [13] (by decide +kernel) (by decide +kernel)
set_option maxRecDepth 20000 in
theorem gX1_whoPlace_X1_isWho : GoodIn wsX1_whoPlace (va_wsS RX1 113 yX1_isWho wsX1_isWho) := goodIn_app (goodIn_of _ (by decide +kernel)) ggX1_whoPlace_X1_isWho
theorem dX1_whoPlace_0 : decode cX1_whoPlace 0 = .ok (.aload_n 0, 1) := by decide +kernel
theorem dX1_whoPlace_1 : decode cX1_whoPlace 1 = .ok (.iload_n 1, 1) := by decide +kernel
theorem dX1_whoPlace_2 : decode cX1_whoPlace 2 = .ok (.iconst 1, 1) := by decide +kernel
theorem dX1_whoPlace_3 : decode cX1_whoPlace 3 = .ok (.iadd, 1) := by decide +kernel
theorem dX1_whoPlace_4 : decode cX1_whoPlace 4 = .ok (.invokevirtual 98, 3) := by decide +kernel
theorem dX1_whoPlace_7 : decode cX1_whoPlace 7 = .ok (.invokestatic 113, 3) := by decide +kernel
theorem dX1_whoPlace_10 : decode cX1_whoPlace 10 = .ok (.ifCond .eq 7, 3) := by decide +kernel
theorem dX1_whoPlace_13 : decode cX1_whoPlace 13 = .ok (.iload_n 1, 1) := by decide +kernel
theorem dX1_whoPlace_14 : decode cX1_whoPlace 14 = .ok (.iconst 1, 1) := by decide +kernel
theorem dX1_whoPlace_15 : decode cX1_whoPlace 15 = .ok (.iadd, 1) := by decide +kernel
theorem dX1_whoPlace_16 : decode cX1_whoPlace 16 = .ok (.ireturn, 1) := by decide +kernel
theorem dX1_whoPlace_17 : decode cX1_whoPlace 17 = .ok (.aload_n 0, 1) := by decide +kernel
theorem dX1_whoPlace_18 : decode cX1_whoPlace 18 = .ok (.iload_n 1, 1) := by decide +kernel
theorem dX1_whoPlace_19 : decode cX1_whoPlace 19 = .ok (.iconst 1, 1) := by decide +kernel
theorem dX1_whoPlace_20 : decode cX1_whoPlace 20 = .ok (.isub, 1) := by decide +kernel
theorem dX1_whoPlace_21 : decode cX1_whoPlace 21 = .ok (.invokevirtual 98, 3) := by decide +kernel
theorem dX1_whoPlace_24 : decode cX1_whoPlace 24 = .ok (.invokestatic 113, 3) := by decide +kernel
theorem dX1_whoPlace_27 : decode cX1_whoPlace 27 = .ok (.ifCond .eq 9, 3) := by decide +kernel
theorem dX1_whoPlace_30 : decode cX1_whoPlace 30 = .ok (.iload_n 1, 1) := by decide +kernel
theorem dX1_whoPlace_31 : decode cX1_whoPlace 31 = .ok (.iconst 1, 1) := by decide +kernel
theorem dX1_whoPlace_32 : decode cX1_whoPlace 32 = .ok (.isub, 1) := by decide +kernel
theorem dX1_whoPlace_33 : decode cX1_whoPlace 33 = .ok (.goto 5, 3) := by decide +kernel
theorem dX1_whoPlace_36 : decode cX1_whoPlace 36 = .ok (.bipush (-9), 2) := by decide +kernel
theorem dX1_whoPlace_38 : decode cX1_whoPlace 38 = .ok (.ireturn, 1) := by decide +kernel
theorem dX1_isWho_0 : decode cX1_isWho 0 = .ok (.iload_n 0, 1) := by decide +kernel
theorem dX1_isWho_1 : decode cX1_isWho 1 = .ok (.bipush 65, 2) := by decide +kernel
theorem dX1_isWho_3 : decode cX1_isWho 3 = .ok (.if_icmp .eq 15, 3) := by decide +kernel
theorem dX1_isWho_6 : decode cX1_isWho 6 = .ok (.iload_n 0, 1) := by decide +kernel
theorem dX1_isWho_7 : decode cX1_isWho 7 = .ok (.bipush 104, 2) := by decide +kernel
theorem dX1_isWho_9 : decode cX1_isWho 9 = .ok (.if_icmp .eq 9, 3) := by decide +kernel
theorem dX1_isWho_12 : decode cX1_isWho 12 = .ok (.iload_n 0, 1) := by decide +kernel
theorem dX1_isWho_13 : decode cX1_isWho 13 = .ok (.bipush 115, 2) := by decide +kernel
theorem dX1_isWho_15 : decode cX1_isWho 15 = .ok (.if_icmp .ne 7, 3) := by decide +kernel
theorem dX1_isWho_18 : decode cX1_isWho 18 = .ok (.iconst 1, 1) := by decide +kernel
theorem dX1_isWho_19 : decode cX1_isWho 19 = .ok (.goto 4, 3) := by decide +kernel
theorem dX1_isWho_22 : decode cX1_isWho 22 = .ok (.iconst 0, 1) := by decide +kernel
theorem dX1_isWho_23 : decode cX1_isWho 23 = .ok (.ireturn, 1) := by decide +kernel
set_option maxRecDepth 20000 in
theorem ggX1_kindAt_X5_isWithin : GoodIn wsX1_kindAt wsX5_isWithin := goodIn_r _ [5] (by decide +kernel) (by decide +kernel)
set_option maxRecDepth 20000 in
theorem gX1_kindAt_X5_isWithin_n82 : GoodIn wsX1_kindAt (wsX5_isWithin) := ggX1_kindAt_X5_isWithin
theorem dX1_kindAt_0 : decode cX1_kindAt 0 = .ok (.iload_n 1, 1) := by decide +kernel
theorem dX1_kindAt_1 : decode cX1_kindAt 1 = .ok (.aload_n 0, 1) := by decide +kernel
theorem dX1_kindAt_2 : decode cX1_kindAt 2 = .ok (.getfield 21, 3) := by decide +kernel
theorem dX1_kindAt_5 : decode cX1_kindAt 5 = .ok (.invokestatic 82, 3) := by decide +kernel
theorem dX1_kindAt_8 : decode cX1_kindAt 8 = .ok (.ifCond .eq 21, 3) := by decide +kernel
theorem dX1_kindAt_11 : decode cX1_kindAt 11 = .ok (.iload_n 1, 1) := by decide +kernel
theorem dX1_kindAt_12 : decode cX1_kindAt 12 = .ok (.aload_n 0, 1) := by decide +kernel
theorem dX1_kindAt_13 : decode cX1_kindAt 13 = .ok (.getfield 9, 3) := by decide +kernel
theorem dX1_kindAt_16 : decode cX1_kindAt 16 = .ok (.arraylength, 1) := by decide +kernel
theorem dX1_kindAt_17 : decode cX1_kindAt 17 = .ok (.if_icmp .ge 12, 3) := by decide +kernel
theorem dX1_kindAt_20 : decode cX1_kindAt 20 = .ok (.aload_n 0, 1) := by decide +kernel
theorem dX1_kindAt_21 : decode cX1_kindAt 21 = .ok (.getfield 9, 3) := by decide +kernel
theorem dX1_kindAt_24 : decode cX1_kindAt 24 = .ok (.iload_n 1, 1) := by decide +kernel
theorem dX1_kindAt_25 : decode cX1_kindAt 25 = .ok (.iaload, 1) := by decide +kernel
theorem dX1_kindAt_26 : decode cX1_kindAt 26 = .ok (.goto 4, 3) := by decide +kernel
theorem dX1_kindAt_29 : decode cX1_kindAt 29 = .ok (.iconst (-1), 1) := by decide +kernel
theorem dX1_kindAt_30 : decode cX1_kindAt 30 = .ok (.ireturn, 1) := by decide +kernel
set_option maxRecDepth 20000 in
theorem ggX1_personAt_X5_isWithin : GoodIn wsX1_personAt wsX5_isWithin := goodIn_r _ [5] (by decide +kernel) (by decide +kernel)
set_option maxRecDepth 20000 in
theorem gX1_personAt_X5_isWithin_n82 : GoodIn wsX1_personAt (wsX5_isWithin) := ggX1_personAt_X5_isWithin
theorem dX1_personAt_0 : decode cX1_personAt 0 = .ok (.iload_n 1, 1) := by decide +kernel
theorem dX1_personAt_1 : decode cX1_personAt 1 = .ok (.aload_n 0, 1) := by decide +kernel
theorem dX1_personAt_2 : decode cX1_personAt 2 = .ok (.getfield 21, 3) := by decide +kernel
theorem dX1_personAt_5 : decode cX1_personAt 5 = .ok (.invokestatic 82, 3) := by decide +kernel
theorem dX1_personAt_8 : decode cX1_personAt 8 = .ok (.ifCond .eq 21, 3) := by decide +kernel
theorem dX1_personAt_11 : decode cX1_personAt 11 = .ok (.iload_n 1, 1) := by decide +kernel
theorem dX1_personAt_12 : decode cX1_personAt 12 = .ok (.aload_n 0, 1) := by decide +kernel
theorem dX1_personAt_13 : decode cX1_personAt 13 = .ok (.getfield 15, 3) := by decide +kernel
theorem dX1_personAt_16 : decode cX1_personAt 16 = .ok (.arraylength, 1) := by decide +kernel
theorem dX1_personAt_17 : decode cX1_personAt 17 = .ok (.if_icmp .ge 12, 3) := by decide +kernel
theorem dX1_personAt_20 : decode cX1_personAt 20 = .ok (.aload_n 0, 1) := by decide +kernel
theorem dX1_personAt_21 : decode cX1_personAt 21 = .ok (.getfield 15, 3) := by decide +kernel
theorem dX1_personAt_24 : decode cX1_personAt 24 = .ok (.iload_n 1, 1) := by decide +kernel
theorem dX1_personAt_25 : decode cX1_personAt 25 = .ok (.iaload, 1) := by decide +kernel
theorem dX1_personAt_26 : decode cX1_personAt 26 = .ok (.goto 4, 3) := by decide +kernel
theorem dX1_personAt_29 : decode cX1_personAt 29 = .ok (.iconst (-1), 1) := by decide +kernel
theorem dX1_personAt_30 : decode cX1_personAt 30 = .ok (.ireturn, 1) := by decide +kernel
theorem dX1_takeHint_0 : decode cX1_takeHint 0 = .ok (.aload_n 0, 1) := by decide +kernel
theorem dX1_takeHint_1 : decode cX1_takeHint 1 = .ok (.iload_n 1, 1) := by decide +kernel
theorem dX1_takeHint_2 : decode cX1_takeHint 2 = .ok (.putfield 32, 3) := by decide +kernel
theorem dX1_takeHint_5 : decode cX1_takeHint 5 = .ok (.return_, 1) := by decide +kernel
theorem dX1_length_0 : decode cX1_length 0 = .ok (.aload_n 0, 1) := by decide +kernel
theorem dX1_length_1 : decode cX1_length 1 = .ok (.getfield 21, 3) := by decide +kernel
theorem dX1_length_4 : decode cX1_length 4 = .ok (.ireturn, 1) := by decide +kernel
theorem dX1_goesOn_0 : decode cX1_goesOn 0 = .ok (.aload_n 0, 1) := by decide +kernel
theorem dX1_goesOn_1 : decode cX1_goesOn 1 = .ok (.getfield 25, 3) := by decide +kernel
theorem dX1_goesOn_4 : decode cX1_goesOn 4 = .ok (.ireturn, 1) := by decide +kernel
theorem dX1_hereThen_0 : decode cX1_hereThen 0 = .ok (.aload_n 0, 1) := by decide +kernel
theorem dX1_hereThen_1 : decode cX1_hereThen 1 = .ok (.getfield 29, 3) := by decide +kernel
theorem dX1_hereThen_4 : decode cX1_hereThen 4 = .ok (.ireturn, 1) := by decide +kernel
theorem dX1_hintSet_0 : decode cX1_hintSet 0 = .ok (.aload_n 0, 1) := by decide +kernel
theorem dX1_hintSet_1 : decode cX1_hintSet 1 = .ok (.getfield 32, 3) := by decide +kernel
theorem dX1_hintSet_4 : decode cX1_hintSet 4 = .ok (.ireturn, 1) := by decide +kernel
theorem dX1_quotes_0 : decode cX1_quotes 0 = .ok (.aload_n 0, 1) := by decide +kernel
theorem dX1_quotes_1 : decode cX1_quotes 1 = .ok (.getfield 35, 3) := by decide +kernel
theorem dX1_quotes_4 : decode cX1_quotes 4 = .ok (.ireturn, 1) := by decide +kernel
theorem dX1_speaks_0 : decode cX1_speaks 0 = .ok (.aload_n 0, 1) := by decide +kernel
theorem dX1_speaks_1 : decode cX1_speaks 1 = .ok (.getfield 35, 3) := by decide +kernel
theorem dX1_speaks_4 : decode cX1_speaks 4 = .ok (.ifCond .le 7, 3) := by decide +kernel
theorem dX1_speaks_7 : decode cX1_speaks 7 = .ok (.iconst 1, 1) := by decide +kernel
theorem dX1_speaks_8 : decode cX1_speaks 8 = .ok (.goto 4, 3) := by decide +kernel
theorem dX1_speaks_11 : decode cX1_speaks 11 = .ok (.iconst 0, 1) := by decide +kernel
theorem dX1_speaks_12 : decode cX1_speaks 12 = .ok (.ireturn, 1) := by decide +kernel
theorem dX1_countingVerbs_0 : decode cX1_countingVerbs 0 = .ok (.aload_n 0, 1) := by decide +kernel
theorem dX1_countingVerbs_1 : decode cX1_countingVerbs 1 = .ok (.getfield 44, 3) := by decide +kernel
theorem dX1_countingVerbs_4 : decode cX1_countingVerbs 4 = .ok (.ireturn, 1) := by decide +kernel
set_option maxRecDepth 20000 in
theorem ggX1_mentions_X5_bitOf : GoodIn wsX1_mentions wsX5_bitOf := goodIn_r _ [4] (by decide +kernel) (by decide +kernel)
set_option maxRecDepth 20000 in
theorem gX1_mentions_X5_bitOf_n86 : GoodIn wsX1_mentions (wsX5_bitOf) := ggX1_mentions_X5_bitOf
theorem dX1_mentions_0 : decode cX1_mentions 0 = .ok (.aload_n 0, 1) := by decide +kernel
theorem dX1_mentions_1 : decode cX1_mentions 1 = .ok (.getfield 38, 3) := by decide +kernel
theorem dX1_mentions_4 : decode cX1_mentions 4 = .ok (.iload_n 1, 1) := by decide +kernel
theorem dX1_mentions_5 : decode cX1_mentions 5 = .ok (.invokestatic 86, 3) := by decide +kernel
theorem dX1_mentions_8 : decode cX1_mentions 8 = .ok (.iand, 1) := by decide +kernel
theorem dX1_mentions_9 : decode cX1_mentions 9 = .ok (.ifCond .eq 7, 3) := by decide +kernel
theorem dX1_mentions_12 : decode cX1_mentions 12 = .ok (.iconst 1, 1) := by decide +kernel
theorem dX1_mentions_13 : decode cX1_mentions 13 = .ok (.goto 4, 3) := by decide +kernel
theorem dX1_mentions_16 : decode cX1_mentions 16 = .ok (.iconst 0, 1) := by decide +kernel
theorem dX1_mentions_17 : decode cX1_mentions 17 = .ok (.ireturn, 1) := by decide +kernel
set_option maxRecDepth 20000 in
theorem ggX1_ownSet_X2_thereSet : GoodIn wsX1_ownSet wsX2_thereSet := goodIn_r _ [12, 13, 36, 37] (by decide +kernel) (by decide +kernel)
set_option maxRecDepth 20000 in
theorem gX1_ownSet_X2_thereSet : GoodIn wsX1_ownSet (wsV RX1 117 RX2 yX2_thereSet wsX2_thereSet) := goodIn_app (goodIn_of _ (by decide +kernel)) ggX1_ownSet_X2_thereSet
set_option maxRecDepth 20000 in
theorem ggX1_ownSet_X2_allOfSort : GoodIn wsX1_ownSet wsX2_allOfSort := goodIn_r _ [17, 18, 13, 19, 20, 21, 36, 37] (by decide +kernel) (by decide +kernel)
set_option maxRecDepth 20000 in
theorem gX1_ownSet_X2_allOfSort : GoodIn wsX1_ownSet (wsV RX1 122 RX2 yX2_allOfSort wsX2_allOfSort) := goodIn_app (goodIn_of _ (by decide +kernel)) ggX1_ownSet_X2_allOfSort
theorem dX1_ownSet_0 : decode cX1_ownSet 0 = .ok (.aload_n 0, 1) := by decide +kernel
theorem dX1_ownSet_1 : decode cX1_ownSet 1 = .ok (.getfield 29, 3) := by decide +kernel
theorem dX1_ownSet_4 : decode cX1_ownSet 4 = .ok (.aload_n 1, 1) := by decide +kernel
theorem dX1_ownSet_5 : decode cX1_ownSet 5 = .ok (.invokevirtual 117, 3) := by decide +kernel
theorem dX1_ownSet_8 : decode cX1_ownSet 8 = .ok (.iand, 1) := by decide +kernel
theorem dX1_ownSet_9 : decode cX1_ownSet 9 = .ok (.istore_n 3, 1) := by decide +kernel
theorem dX1_ownSet_10 : decode cX1_ownSet 10 = .ok (.iload_n 2, 1) := by decide +kernel
theorem dX1_ownSet_11 : decode cX1_ownSet 11 = .ok (.iconst 1, 1) := by decide +kernel
theorem dX1_ownSet_12 : decode cX1_ownSet 12 = .ok (.iand, 1) := by decide +kernel
theorem dX1_ownSet_13 : decode cX1_ownSet 13 = .ok (.ifCond .eq 12, 3) := by decide +kernel
theorem dX1_ownSet_16 : decode cX1_ownSet 16 = .ok (.iload_n 3, 1) := by decide +kernel
theorem dX1_ownSet_17 : decode cX1_ownSet 17 = .ok (.aload_n 0, 1) := by decide +kernel
theorem dX1_ownSet_18 : decode cX1_ownSet 18 = .ok (.getfield 41, 3) := by decide +kernel
theorem dX1_ownSet_21 : decode cX1_ownSet 21 = .ok (.iconst (-1), 1) := by decide +kernel
theorem dX1_ownSet_22 : decode cX1_ownSet 22 = .ok (.ixor, 1) := by decide +kernel
theorem dX1_ownSet_23 : decode cX1_ownSet 23 = .ok (.iand, 1) := by decide +kernel
theorem dX1_ownSet_24 : decode cX1_ownSet 24 = .ok (.istore_n 3, 1) := by decide +kernel
theorem dX1_ownSet_25 : decode cX1_ownSet 25 = .ok (.iload_n 2, 1) := by decide +kernel
theorem dX1_ownSet_26 : decode cX1_ownSet 26 = .ok (.iconst 2, 1) := by decide +kernel
theorem dX1_ownSet_27 : decode cX1_ownSet 27 = .ok (.iand, 1) := by decide +kernel
theorem dX1_ownSet_28 : decode cX1_ownSet 28 = .ok (.ifCond .eq 52, 3) := by decide +kernel
theorem dX1_ownSet_31 : decode cX1_ownSet 31 = .ok (.iload_n 3, 1) := by decide +kernel
theorem dX1_ownSet_32 : decode cX1_ownSet 32 = .ok (.aload_n 0, 1) := by decide +kernel
theorem dX1_ownSet_33 : decode cX1_ownSet 33 = .ok (.getfield 47, 3) := by decide +kernel
theorem dX1_ownSet_36 : decode cX1_ownSet 36 = .ok (.iand, 1) := by decide +kernel
theorem dX1_ownSet_37 : decode cX1_ownSet 37 = .ok (.istore_n 3, 1) := by decide +kernel
theorem dX1_ownSet_38 : decode cX1_ownSet 38 = .ok (.iload_n 3, 1) := by decide +kernel
theorem dX1_ownSet_39 : decode cX1_ownSet 39 = .ok (.aload_n 0, 1) := by decide +kernel
theorem dX1_ownSet_40 : decode cX1_ownSet 40 = .ok (.getfield 50, 3) := by decide +kernel
theorem dX1_ownSet_43 : decode cX1_ownSet 43 = .ok (.ifCond .eq 11, 3) := by decide +kernel
theorem dX1_ownSet_46 : decode cX1_ownSet 46 = .ok (.aload_n 1, 1) := by decide +kernel
theorem dX1_ownSet_47 : decode cX1_ownSet 47 = .ok (.iconst 0, 1) := by decide +kernel
theorem dX1_ownSet_48 : decode cX1_ownSet 48 = .ok (.invokevirtual 122, 3) := by decide +kernel
theorem dX1_ownSet_51 : decode cX1_ownSet 51 = .ok (.goto 6, 3) := by decide +kernel
theorem dX1_ownSet_54 : decode cX1_ownSet 54 = .ok (.sipush 255, 3) := by decide +kernel
theorem dX1_ownSet_57 : decode cX1_ownSet 57 = .ok (.iand, 1) := by decide +kernel
theorem dX1_ownSet_58 : decode cX1_ownSet 58 = .ok (.istore_n 3, 1) := by decide +kernel
theorem dX1_ownSet_59 : decode cX1_ownSet 59 = .ok (.iload_n 3, 1) := by decide +kernel
theorem dX1_ownSet_60 : decode cX1_ownSet 60 = .ok (.aload_n 0, 1) := by decide +kernel
theorem dX1_ownSet_61 : decode cX1_ownSet 61 = .ok (.getfield 53, 3) := by decide +kernel
theorem dX1_ownSet_64 : decode cX1_ownSet 64 = .ok (.ifCond .eq 11, 3) := by decide +kernel
theorem dX1_ownSet_67 : decode cX1_ownSet 67 = .ok (.aload_n 1, 1) := by decide +kernel
theorem dX1_ownSet_68 : decode cX1_ownSet 68 = .ok (.iconst 1, 1) := by decide +kernel
theorem dX1_ownSet_69 : decode cX1_ownSet 69 = .ok (.invokevirtual 122, 3) := by decide +kernel
theorem dX1_ownSet_72 : decode cX1_ownSet 72 = .ok (.goto 6, 3) := by decide +kernel
theorem dX1_ownSet_75 : decode cX1_ownSet 75 = .ok (.sipush 255, 3) := by decide +kernel
theorem dX1_ownSet_78 : decode cX1_ownSet 78 = .ok (.iand, 1) := by decide +kernel
