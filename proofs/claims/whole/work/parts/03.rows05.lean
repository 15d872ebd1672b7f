theorem dX5_ofPerson_14 : decode cX5_ofPerson 14 = .ok (.ifCond .lt 8, 3) := by decide +kernel
theorem dX5_ofPerson_17 : decode cX5_ofPerson 17 = .ok (.iload_n 2, 1) := by decide +kernel
theorem dX5_ofPerson_18 : decode cX5_ofPerson 18 = .ok (.iconst 5, 1) := by decide +kernel
theorem dX5_ofPerson_19 : decode cX5_ofPerson 19 = .ok (.if_icmp .le 6, 3) := by decide +kernel
theorem dX5_ofPerson_22 : decode cX5_ofPerson 22 = .ok (.bipush (-2), 2) := by decide +kernel
theorem dX5_ofPerson_24 : decode cX5_ofPerson 24 = .ok (.ireturn, 1) := by decide +kernel
theorem dX5_ofPerson_25 : decode cX5_ofPerson 25 = .ok (.iload_n 2, 1) := by decide +kernel
theorem dX5_ofPerson_26 : decode cX5_ofPerson 26 = .ok (.ifCond .ne 12, 3) := by decide +kernel
theorem dX5_ofPerson_29 : decode cX5_ofPerson 29 = .ok (.aload_n 0, 1) := by decide +kernel
theorem dX5_ofPerson_30 : decode cX5_ofPerson 30 = .ok (.getfield 12, 3) := by decide +kernel
theorem dX5_ofPerson_33 : decode cX5_ofPerson 33 = .ok (.iload_n 1, 1) := by decide +kernel
theorem dX5_ofPerson_34 : decode cX5_ofPerson 34 = .ok (.invokevirtual 58, 3) := by decide +kernel
theorem dX5_ofPerson_37 : decode cX5_ofPerson 37 = .ok (.ireturn, 1) := by decide +kernel
theorem dX5_ofPerson_38 : decode cX5_ofPerson 38 = .ok (.iload_n 2, 1) := by decide +kernel
theorem dX5_ofPerson_39 : decode cX5_ofPerson 39 = .ok (.iconst 5, 1) := by decide +kernel
theorem dX5_ofPerson_40 : decode cX5_ofPerson 40 = .ok (.if_icmp .ne 21, 3) := by decide +kernel
theorem dX5_ofPerson_43 : decode cX5_ofPerson 43 = .ok (.aload_n 0, 1) := by decide +kernel
theorem dX5_ofPerson_44 : decode cX5_ofPerson 44 = .ok (.getfield 47, 3) := by decide +kernel
theorem dX5_ofPerson_47 : decode cX5_ofPerson 47 = .ok (.iload_n 1, 1) := by decide +kernel
theorem dX5_ofPerson_48 : decode cX5_ofPerson 48 = .ok (.invokestatic 83, 3) := by decide +kernel
theorem dX5_ofPerson_51 : decode cX5_ofPerson 51 = .ok (.iand, 1) := by decide +kernel
theorem dX5_ofPerson_52 : decode cX5_ofPerson 52 = .ok (.ifCond .eq 7, 3) := by decide +kernel
theorem dX5_ofPerson_55 : decode cX5_ofPerson 55 = .ok (.iconst 1, 1) := by decide +kernel
theorem dX5_ofPerson_56 : decode cX5_ofPerson 56 = .ok (.goto 4, 3) := by decide +kernel
theorem dX5_ofPerson_59 : decode cX5_ofPerson 59 = .ok (.iconst 0, 1) := by decide +kernel
theorem dX5_ofPerson_60 : decode cX5_ofPerson 60 = .ok (.ireturn, 1) := by decide +kernel
theorem dX5_ofPerson_61 : decode cX5_ofPerson 61 = .ok (.aload_n 0, 1) := by decide +kernel
theorem dX5_ofPerson_62 : decode cX5_ofPerson 62 = .ok (.invokevirtual 73, 3) := by decide +kernel
theorem dX5_ofPerson_65 : decode cX5_ofPerson 65 = .ok (.aload_n 0, 1) := by decide +kernel
theorem dX5_ofPerson_66 : decode cX5_ofPerson 66 = .ok (.getfield 33, 3) := by decide +kernel
theorem dX5_ofPerson_69 : decode cX5_ofPerson 69 = .ok (.invokevirtual 156, 3) := by decide +kernel
theorem dX5_ofPerson_72 : decode cX5_ofPerson 72 = .ok (.pop2, 1) := by decide +kernel
theorem dX5_ofPerson_73 : decode cX5_ofPerson 73 = .ok (.iload_n 2, 1) := by decide +kernel
theorem dX5_ofPerson_74 : decode cX5_ofPerson 74 = .ok (.tableswitch 53 1 3 #[26, 35, 44], 26) := by decide +kernel
theorem dX5_ofPerson_100 : decode cX5_ofPerson 100 = .ok (.aload_n 0, 1) := by decide +kernel
theorem dX5_ofPerson_101 : decode cX5_ofPerson 101 = .ok (.getfield 33, 3) := by decide +kernel
theorem dX5_ofPerson_104 : decode cX5_ofPerson 104 = .ok (.iload_n 1, 1) := by decide +kernel
theorem dX5_ofPerson_105 : decode cX5_ofPerson 105 = .ok (.invokevirtual 206, 3) := by decide +kernel
theorem dX5_ofPerson_108 : decode cX5_ofPerson 108 = .ok (.ireturn, 1) := by decide +kernel
theorem dX5_ofPerson_109 : decode cX5_ofPerson 109 = .ok (.aload_n 0, 1) := by decide +kernel
theorem dX5_ofPerson_110 : decode cX5_ofPerson 110 = .ok (.getfield 33, 3) := by decide +kernel
theorem dX5_ofPerson_113 : decode cX5_ofPerson 113 = .ok (.iload_n 1, 1) := by decide +kernel
theorem dX5_ofPerson_114 : decode cX5_ofPerson 114 = .ok (.invokevirtual 209, 3) := by decide +kernel
theorem dX5_ofPerson_117 : decode cX5_ofPerson 117 = .ok (.ireturn, 1) := by decide +kernel
theorem dX5_ofPerson_118 : decode cX5_ofPerson 118 = .ok (.aload_n 0, 1) := by decide +kernel
theorem dX5_ofPerson_119 : decode cX5_ofPerson 119 = .ok (.getfield 33, 3) := by decide +kernel
theorem dX5_ofPerson_122 : decode cX5_ofPerson 122 = .ok (.iload_n 1, 1) := by decide +kernel
theorem dX5_ofPerson_123 : decode cX5_ofPerson 123 = .ok (.invokevirtual 212, 3) := by decide +kernel
theorem dX5_ofPerson_126 : decode cX5_ofPerson 126 = .ok (.ireturn, 1) := by decide +kernel
theorem dX5_ofPerson_127 : decode cX5_ofPerson 127 = .ok (.aload_n 0, 1) := by decide +kernel
theorem dX5_ofPerson_128 : decode cX5_ofPerson 128 = .ok (.getfield 33, 3) := by decide +kernel
theorem dX5_ofPerson_131 : decode cX5_ofPerson 131 = .ok (.iload_n 1, 1) := by decide +kernel
theorem dX5_ofPerson_132 : decode cX5_ofPerson 132 = .ok (.invokevirtual 215, 3) := by decide +kernel
theorem dX5_ofPerson_135 : decode cX5_ofPerson 135 = .ok (.ireturn, 1) := by decide +kernel
set_option maxRecDepth 20000 in
theorem ggX5_rank_X5_isWithin : GoodIn wsX5_rank wsX5_isWithin := goodIn_r _ [8] (by decide +kernel) (by decide +kernel)
set_option maxRecDepth 20000 in
theorem gX5_rank_X5_isWithin : GoodIn wsX5_rank (va_wsS RX5 54 yX5_isWithin wsX5_isWithin) := goodIn_app (goodIn_of _ (by decide +kernel)) ggX5_rank_X5_isWithin
set_option maxRecDepth 20000 in
theorem ggX5_rank_X5_fillChain : GoodIn wsX5_rank wsX5_fillChain := goodIn_r _ [12, 1, 13, 4, 14, 15, 16, 17, 18, 19, 20, 21, 22, 23, 24, 25, 26, 27, 28, 29, 30, 31, 32, 33, 34, 35, 36, 37, 38, 39, 40, 41, 42, 43, 44, 45, 46, 47, 48, 49, 50, 51, 52, 53, 54, 55, 56, 57, 58, 59, 60, 61, 62, 63, 64, 65, 7, 66, 67, 68, 69, 70, 71, 72, 73, 74, 75, 76, 77, 78, 79, 80, 81, 82, 83, 84, 85, 86, 87, 88, 6, 8, 158, 159, 160, 161, 162, 163, 164, 165, 166, 167, 168, 169, 170, 171, 172, 173, 174, 175, 176, 177, 178, 179, 180, 181, 182, 183, 184, 185, 186, 187, 188, 189, 190, 191, 192, 193, 194] (by decide +kernel) (by decide +kernel)
set_option maxRecDepth 20000 in
theorem gX5_rank_X5_fillChain : GoodIn wsX5_rank (wsV RX5 73 RX5 yX5_fillChain wsX5_fillChain) := goodIn_app (goodIn_of _ (by decide +kernel)) ggX5_rank_X5_fillChain
set_option maxRecDepth 20000 in
theorem ggX5_rank_X0_countWays : GoodIn wsX5_rank wsX0_countWays := goodIn_r _ [92, 20, 93, 94, 95, 96, 97, 18, 98, 88, 99, 100, 101, 102, 6, 7, 8, 103, 104, 105, 106, 86, 107, 108, 109, 110, 87, 65, 66, 111, 112, 113, 114, 115, 116, 117, 118, 119, 120, 121, 122, 123, 124, 125, 126, 127, 128, 129, 167, 168, 169, 170, 171, 172, 173, 174, 175] (by decide +kernel) (by decide +kernel)
set_option maxRecDepth 20000 in
theorem gX5_rank_X0_countWays : GoodIn wsX5_rank (wsV RX5 156 RX0 yX0_countWays wsX0_countWays) := goodIn_app (goodIn_of _ (by decide +kernel)) ggX5_rank_X0_countWays
set_option maxRecDepth 20000 in
theorem ggX5_rank_X0_hadBy : GoodIn wsX5_rank wsX0_hadBy := goodIn_r _ [133, 20, 134, 135, 136, 18, 137, 6, 7, 8, 138, 139, 140, 141, 94, 99, 100, 101, 102, 65, 66, 167, 168, 169, 170, 171, 172, 173, 174, 175] (by decide +kernel) (by decide +kernel)
set_option maxRecDepth 20000 in
theorem gX5_rank_X0_hadBy : GoodIn wsX5_rank (wsV RX5 206 RX0 yX0_hadBy wsX0_hadBy) := goodIn_app (goodIn_of _ (by decide +kernel)) ggX5_rank_X0_hadBy
set_option maxRecDepth 20000 in
theorem ggX5_rank_X0_maybeHadBy : GoodIn wsX5_rank wsX0_maybeHadBy := goodIn_r _ [145, 20, 138, 139, 140, 18, 141, 94, 99, 100, 101, 102, 6, 7, 8, 65, 66, 167, 168, 169, 170, 171, 172, 173, 174, 175] (by decide +kernel) (by decide +kernel)
set_option maxRecDepth 20000 in
theorem gX5_rank_X0_maybeHadBy : GoodIn wsX5_rank (wsV RX5 209 RX0 yX0_maybeHadBy wsX0_maybeHadBy) := goodIn_app (goodIn_of _ (by decide +kernel)) ggX5_rank_X0_maybeHadBy
set_option maxRecDepth 20000 in
theorem ggX5_rank_X2_isThere : GoodIn wsX5_rank wsX2_isThere := goodIn_r _ [149, 59, 65, 7, 66, 193, 194] (by decide +kernel) (by decide +kernel)
set_option maxRecDepth 20000 in
theorem gX5_rank_X2_isThere : GoodIn wsX5_rank (wsV RX5 66 RX2 yX2_isThere wsX2_isThere) := goodIn_app (goodIn_of _ (by decide +kernel)) ggX5_rank_X2_isThere
set_option maxRecDepth 20000 in
theorem ggX5_rank_X5_placeByRank : GoodIn wsX5_rank wsX5_placeByRank := goodIn_r _ [153, 4, 146, 147, 148, 57, 149, 59, 65, 7, 66, 154, 155, 156, 157, 2, 3, 5, 6, 8, 158, 159, 160, 161, 162, 163, 164, 165, 166, 193, 194] (by decide +kernel) (by decide +kernel)
set_option maxRecDepth 20000 in
theorem gX5_rank_X5_placeByRank : GoodIn wsX5_rank (wsV RX5 218 RX5 yX5_placeByRank wsX5_placeByRank) := goodIn_app (goodIn_of _ (by decide +kernel)) ggX5_rank_X5_placeByRank
theorem dX5_rank_0 : decode cX5_rank 0 = .ok (.iload_n 1, 1) := by decide +kernel
theorem dX5_rank_1 : decode cX5_rank 1 = .ok (.bipush 8, 2) := by decide +kernel
theorem dX5_rank_3 : decode cX5_rank 3 = .ok (.invokestatic 54, 3) := by decide +kernel
theorem dX5_rank_6 : decode cX5_rank 6 = .ok (.ifCond .ne 6, 3) := by decide +kernel
theorem dX5_rank_9 : decode cX5_rank 9 = .ok (.bipush (-2), 2) := by decide +kernel
theorem dX5_rank_11 : decode cX5_rank 11 = .ok (.ireturn, 1) := by decide +kernel
theorem dX5_rank_12 : decode cX5_rank 12 = .ok (.aload_n 0, 1) := by decide +kernel
theorem dX5_rank_13 : decode cX5_rank 13 = .ok (.invokevirtual 73, 3) := by decide +kernel
theorem dX5_rank_16 : decode cX5_rank 16 = .ok (.aload_n 0, 1) := by decide +kernel
theorem dX5_rank_17 : decode cX5_rank 17 = .ok (.getfield 33, 3) := by decide +kernel
theorem dX5_rank_20 : decode cX5_rank 20 = .ok (.invokevirtual 156, 3) := by decide +kernel
theorem dX5_rank_23 : decode cX5_rank 23 = .ok (.pop2, 1) := by decide +kernel
theorem dX5_rank_24 : decode cX5_rank 24 = .ok (.iconst 0, 1) := by decide +kernel
theorem dX5_rank_25 : decode cX5_rank 25 = .ok (.istore_n 2, 1) := by decide +kernel
theorem dX5_rank_26 : decode cX5_rank 26 = .ok (.iload_n 2, 1) := by decide +kernel
theorem dX5_rank_27 : decode cX5_rank 27 = .ok (.bipush 8, 2) := by decide +kernel
theorem dX5_rank_29 : decode cX5_rank 29 = .ok (.if_icmp .ge 37, 3) := by decide +kernel
theorem dX5_rank_32 : decode cX5_rank 32 = .ok (.aload_n 0, 1) := by decide +kernel
theorem dX5_rank_33 : decode cX5_rank 33 = .ok (.getfield 41, 3) := by decide +kernel
theorem dX5_rank_36 : decode cX5_rank 36 = .ok (.iload_n 2, 1) := by decide +kernel
theorem dX5_rank_37 : decode cX5_rank 37 = .ok (.aload_n 0, 1) := by decide +kernel
theorem dX5_rank_38 : decode cX5_rank 38 = .ok (.getfield 33, 3) := by decide +kernel
theorem dX5_rank_41 : decode cX5_rank 41 = .ok (.iload_n 2, 1) := by decide +kernel
theorem dX5_rank_42 : decode cX5_rank 42 = .ok (.invokevirtual 206, 3) := by decide +kernel
theorem dX5_rank_45 : decode cX5_rank 45 = .ok (.iastore, 1) := by decide +kernel
theorem dX5_rank_46 : decode cX5_rank 46 = .ok (.aload_n 0, 1) := by decide +kernel
theorem dX5_rank_47 : decode cX5_rank 47 = .ok (.getfield 44, 3) := by decide +kernel
theorem dX5_rank_50 : decode cX5_rank 50 = .ok (.iload_n 2, 1) := by decide +kernel
theorem dX5_rank_51 : decode cX5_rank 51 = .ok (.aload_n 0, 1) := by decide +kernel
theorem dX5_rank_52 : decode cX5_rank 52 = .ok (.getfield 33, 3) := by decide +kernel
theorem dX5_rank_55 : decode cX5_rank 55 = .ok (.iload_n 2, 1) := by decide +kernel
theorem dX5_rank_56 : decode cX5_rank 56 = .ok (.invokevirtual 209, 3) := by decide +kernel
theorem dX5_rank_59 : decode cX5_rank 59 = .ok (.iastore, 1) := by decide +kernel
theorem dX5_rank_60 : decode cX5_rank 60 = .ok (.iinc 2 1, 3) := by decide +kernel
theorem dX5_rank_63 : decode cX5_rank 63 = .ok (.goto (-37), 3) := by decide +kernel
theorem dX5_rank_66 : decode cX5_rank 66 = .ok (.iconst 0, 1) := by decide +kernel
theorem dX5_rank_67 : decode cX5_rank 67 = .ok (.istore_n 2, 1) := by decide +kernel
theorem dX5_rank_68 : decode cX5_rank 68 = .ok (.iload_n 2, 1) := by decide +kernel
theorem dX5_rank_69 : decode cX5_rank 69 = .ok (.bipush 8, 2) := by decide +kernel
theorem dX5_rank_71 : decode cX5_rank 71 = .ok (.if_icmp .ge 31, 3) := by decide +kernel
theorem dX5_rank_74 : decode cX5_rank 74 = .ok (.aload_n 0, 1) := by decide +kernel
theorem dX5_rank_75 : decode cX5_rank 75 = .ok (.getfield 12, 3) := by decide +kernel
theorem dX5_rank_78 : decode cX5_rank 78 = .ok (.iload_n 2, 1) := by decide +kernel
theorem dX5_rank_79 : decode cX5_rank 79 = .ok (.invokevirtual 66, 3) := by decide +kernel
theorem dX5_rank_82 : decode cX5_rank 82 = .ok (.ifCond .eq 14, 3) := by decide +kernel
theorem dX5_rank_85 : decode cX5_rank 85 = .ok (.aload_n 0, 1) := by decide +kernel
theorem dX5_rank_86 : decode cX5_rank 86 = .ok (.iload_n 2, 1) := by decide +kernel
theorem dX5_rank_87 : decode cX5_rank 87 = .ok (.invokevirtual 218, 3) := by decide +kernel
theorem dX5_rank_90 : decode cX5_rank 90 = .ok (.iload_n 1, 1) := by decide +kernel
theorem dX5_rank_91 : decode cX5_rank 91 = .ok (.if_icmp .ne 5, 3) := by decide +kernel
theorem dX5_rank_94 : decode cX5_rank 94 = .ok (.iload_n 2, 1) := by decide +kernel
theorem dX5_rank_95 : decode cX5_rank 95 = .ok (.ireturn, 1) := by decide +kernel
theorem dX5_rank_96 : decode cX5_rank 96 = .ok (.iinc 2 1, 3) := by decide +kernel
theorem dX5_rank_99 : decode cX5_rank 99 = .ok (.goto (-31), 3) := by decide +kernel
theorem dX5_rank_102 : decode cX5_rank 102 = .ok (.bipush (-9), 2) := by decide +kernel
theorem dX5_rank_104 : decode cX5_rank 104 = .ok (.ireturn, 1) := by decide +kernel
set_option maxRecDepth 20000 in
theorem ggX5_written_X3_holds : GoodIn wsX5_written wsX3_holds := goodIn_r _ [7, 8, 147, 148, 149] (by decide +kernel) (by decide +kernel)
set_option maxRecDepth 20000 in
theorem gX5_written_X3_holds : GoodIn wsX5_written (wsV RX5 119 RX3 yX3_holds wsX3_holds) := goodIn_app (goodIn_of _ (by decide +kernel)) ggX5_written_X3_holds
set_option maxRecDepth 20000 in
theorem ggX5_written_X3_paragraphAt : GoodIn wsX5_written wsX3_paragraphAt := goodIn_r _ [12, 13, 14, 15, 4, 5, 6, 7, 8, 147, 148, 149] (by decide +kernel) (by decide +kernel)
set_option maxRecDepth 20000 in
theorem gX5_written_X3_paragraphAt : GoodIn wsX5_written (wsV RX5 122 RX3 yX3_paragraphAt wsX3_paragraphAt) := goodIn_app (goodIn_of _ (by decide +kernel)) ggX5_written_X3_paragraphAt
set_option maxRecDepth 20000 in
theorem ggX5_written_X1_speaks : GoodIn wsX5_written wsX1_speaks := goodIn_r _ [20, 21, 150, 151, 152, 153, 154, 155, 156, 157, 158, 159, 160, 161, 162, 163] (by decide +kernel) (by decide +kernel)
set_option maxRecDepth 20000 in
theorem gX5_written_X1_speaks : GoodIn wsX5_written (wsV RX5 144 RX1 yX1_speaks wsX1_speaks) := goodIn_app (goodIn_of _ (by decide +kernel)) ggX5_written_X1_speaks
set_option maxRecDepth 20000 in
theorem ggX5_written_X5_signOfOne : GoodIn wsX5_written wsX5_signOfOne := goodIn_r _ [25] (by decide +kernel) (by decide +kernel)
set_option maxRecDepth 20000 in
theorem gX5_written_X5_signOfOne : GoodIn wsX5_written (va_wsS RX5 221 yX5_signOfOne wsX5_signOfOne) := goodIn_app (goodIn_of _ (by decide +kernel)) ggX5_written_X5_signOfOne
set_option maxRecDepth 20000 in
theorem ggX5_written_X5_fillChain : GoodIn wsX5_written wsX5_fillChain := goodIn_r _ [29, 2, 1, 30, 31, 32, 33, 34, 35, 36, 37, 38, 39, 40, 6, 41, 8, 9, 10, 11, 12, 13, 14, 15, 4, 5, 7, 16, 17, 18, 19, 20, 21, 42, 43, 44, 45, 46, 47, 48, 49, 50, 51, 52, 53, 54, 55, 56, 57, 58, 59, 60, 61, 62, 63, 64, 24, 65, 66, 67, 68, 69, 70, 71, 72, 73, 74, 75, 76, 77, 78, 79, 80, 81, 82, 83, 84, 85, 86, 87, 88, 89, 138, 139, 140, 141, 142, 143, 144, 145, 146, 164, 165, 166, 167, 168, 169, 170, 171, 172, 147, 148, 149, 150, 151, 152, 153, 154, 155, 156, 157, 158, 159, 160, 161, 162, 163, 173, 174] (by decide +kernel) (by decide +kernel)
set_option maxRecDepth 20000 in
theorem gX5_written_X5_fillChain : GoodIn wsX5_written (wsV RX5 73 RX5 yX5_fillChain wsX5_fillChain) := goodIn_app (goodIn_of _ (by decide +kernel)) ggX5_written_X5_fillChain
set_option maxRecDepth 20000 in
theorem ggX5_written_X0_narrow : GoodIn wsX5_written wsX0_narrow := goodIn_r _ [93, 94, 95, 96, 97, 35, 98, 86, 99, 100, 101, 102, 37, 88, 24, 89, 103, 104, 105, 106, 107, 108, 109, 110, 111, 112, 113, 114, 115, 87, 116, 117, 118, 119, 120, 121, 122, 123, 124, 125, 164, 165, 166, 167, 168, 169, 170, 171, 172] (by decide +kernel) (by decide +kernel)
set_option maxRecDepth 20000 in
theorem gX5_written_X0_narrow : GoodIn wsX5_written (wsV RX5 150 RX0 yX0_narrow wsX0_narrow) := goodIn_app (goodIn_of _ (by decide +kernel)) ggX5_written_X0_narrow
set_option maxRecDepth 20000 in
theorem ggX5_written_X0_narrowedSet : GoodIn wsX5_written wsX0_narrowedSet := goodIn_r _ [129, 94, 99, 100, 101, 35, 102, 37, 88, 24, 89, 164, 165, 166, 167, 168, 169, 170, 171, 172] (by decide +kernel) (by decide +kernel)
set_option maxRecDepth 20000 in
theorem gX5_written_X0_narrowedSet : GoodIn wsX5_written (wsV RX5 153 RX0 yX0_narrowedSet wsX0_narrowedSet) := goodIn_app (goodIn_of _ (by decide +kernel)) ggX5_written_X0_narrowedSet
set_option maxRecDepth 20000 in
theorem ggX5_written_X5_signOfSet : GoodIn wsX5_written wsX5_signOfSet := goodIn_r _ [132, 133, 120, 121, 122, 123, 124, 125, 134, 135, 24, 136, 137, 64, 65] (by decide +kernel) (by decide +kernel)
set_option maxRecDepth 20000 in
theorem gX5_written_X5_signOfSet : GoodIn wsX5_written (va_wsS RX5 224 yX5_signOfSet wsX5_signOfSet) := goodIn_app (goodIn_of _ (by decide +kernel)) ggX5_written_X5_signOfSet
theorem dX5_written_0 : decode cX5_written 0 = .ok (.aload_n 0, 1) := by decide +kernel
theorem dX5_written_1 : decode cX5_written 1 = .ok (.getfield 26, 3) := by decide +kernel
theorem dX5_written_4 : decode cX5_written 4 = .ok (.iload_n 1, 1) := by decide +kernel
theorem dX5_written_5 : decode cX5_written 5 = .ok (.invokevirtual 119, 3) := by decide +kernel
theorem dX5_written_8 : decode cX5_written 8 = .ok (.ifCond .ne 5, 3) := by decide +kernel
theorem dX5_written_11 : decode cX5_written 11 = .ok (.iconst (-1), 1) := by decide +kernel
theorem dX5_written_12 : decode cX5_written 12 = .ok (.ireturn, 1) := by decide +kernel
theorem dX5_written_13 : decode cX5_written 13 = .ok (.iload_n 2, 1) := by decide +kernel
theorem dX5_written_14 : decode cX5_written 14 = .ok (.iconst (-1), 1) := by decide +kernel
theorem dX5_written_15 : decode cX5_written 15 = .ok (.if_icmp .lt 9, 3) := by decide +kernel
theorem dX5_written_18 : decode cX5_written 18 = .ok (.iload_n 2, 1) := by decide +kernel
theorem dX5_written_19 : decode cX5_written 19 = .ok (.bipush 14, 2) := by decide +kernel
theorem dX5_written_21 : decode cX5_written 21 = .ok (.if_icmp .le 6, 3) := by decide +kernel
theorem dX5_written_24 : decode cX5_written 24 = .ok (.bipush (-2), 2) := by decide +kernel
theorem dX5_written_26 : decode cX5_written 26 = .ok (.ireturn, 1) := by decide +kernel
theorem dX5_written_27 : decode cX5_written 27 = .ok (.aload_n 0, 1) := by decide +kernel
theorem dX5_written_28 : decode cX5_written 28 = .ok (.getfield 26, 3) := by decide +kernel
theorem dX5_written_31 : decode cX5_written 31 = .ok (.iload_n 1, 1) := by decide +kernel
theorem dX5_written_32 : decode cX5_written 32 = .ok (.invokevirtual 122, 3) := by decide +kernel
theorem dX5_written_35 : decode cX5_written 35 = .ok (.invokevirtual 144, 3) := by decide +kernel
theorem dX5_written_38 : decode cX5_written 38 = .ok (.ifCond .ne 10, 3) := by decide +kernel
theorem dX5_written_41 : decode cX5_written 41 = .ok (.bipush 46, 2) := by decide +kernel
theorem dX5_written_43 : decode cX5_written 43 = .ok (.iload_n 2, 1) := by decide +kernel
theorem dX5_written_44 : decode cX5_written 44 = .ok (.invokestatic 221, 3) := by decide +kernel
theorem dX5_written_47 : decode cX5_written 47 = .ok (.ireturn, 1) := by decide +kernel
theorem dX5_written_48 : decode cX5_written 48 = .ok (.aload_n 0, 1) := by decide +kernel
theorem dX5_written_49 : decode cX5_written 49 = .ok (.invokevirtual 73, 3) := by decide +kernel
theorem dX5_written_52 : decode cX5_written 52 = .ok (.aload_n 0, 1) := by decide +kernel
theorem dX5_written_53 : decode cX5_written 53 = .ok (.getfield 33, 3) := by decide +kernel
theorem dX5_written_56 : decode cX5_written 56 = .ok (.invokevirtual 150, 3) := by decide +kernel
theorem dX5_written_59 : decode cX5_written 59 = .ok (.aload_n 0, 1) := by decide +kernel
theorem dX5_written_60 : decode cX5_written 60 = .ok (.getfield 33, 3) := by decide +kernel
theorem dX5_written_63 : decode cX5_written 63 = .ok (.iload_n 1, 1) := by decide +kernel
theorem dX5_written_64 : decode cX5_written 64 = .ok (.invokevirtual 153, 3) := by decide +kernel
theorem dX5_written_67 : decode cX5_written 67 = .ok (.istore_n 3, 1) := by decide +kernel
theorem dX5_written_68 : decode cX5_written 68 = .ok (.iload_n 3, 1) := by decide +kernel
theorem dX5_written_69 : decode cX5_written 69 = .ok (.ifCond .ne 12, 3) := by decide +kernel
theorem dX5_written_72 : decode cX5_written 72 = .ok (.bipush 33, 2) := by decide +kernel
theorem dX5_written_74 : decode cX5_written 74 = .ok (.iload_n 2, 1) := by decide +kernel
theorem dX5_written_75 : decode cX5_written 75 = .ok (.invokestatic 221, 3) := by decide +kernel
theorem dX5_written_78 : decode cX5_written 78 = .ok (.goto 8, 3) := by decide +kernel
theorem dX5_written_81 : decode cX5_written 81 = .ok (.iload_n 3, 1) := by decide +kernel
theorem dX5_written_82 : decode cX5_written 82 = .ok (.iload_n 2, 1) := by decide +kernel
theorem dX5_written_83 : decode cX5_written 83 = .ok (.invokestatic 224, 3) := by decide +kernel
theorem dX5_written_86 : decode cX5_written 86 = .ok (.ireturn, 1) := by decide +kernel
set_option maxRecDepth 20000 in
theorem ggX5_many_X2_thereSet : GoodIn wsX5_many wsX2_thereSet := goodIn_r _ [11, 12, 181, 182] (by decide +kernel) (by decide +kernel)
set_option maxRecDepth 20000 in
theorem gX5_many_X2_thereSet : GoodIn wsX5_many (wsV RX5 86 RX2 yX2_thereSet wsX2_thereSet) := goodIn_app (goodIn_of _ (by decide +kernel)) ggX5_many_X2_thereSet
set_option maxRecDepth 20000 in
theorem ggX5_many_J6_bitCount_0f7a4 : GoodIn wsX5_many wsJ6_bitCount_0f7a4 := goodIn_r _ [16, 17, 18, 19] (by decide +kernel) (by decide +kernel)
set_option maxRecDepth 20000 in
theorem gX5_many_J6_bitCount_0f7a4 : GoodIn wsX5_many (va_wsS RX5 188 yJ6_bitCount_0f7a4 wsJ6_bitCount_0f7a4) := goodIn_app (goodIn_of _ (by decide +kernel)) ggX5_many_J6_bitCount_0f7a4
set_option maxRecDepth 20000 in
theorem ggX5_many_X3_length : GoodIn wsX5_many wsX3_length := goodIn_r _ [24, 25, 183, 184, 185] (by decide +kernel) (by decide +kernel)
set_option maxRecDepth 20000 in
theorem gX5_many_X3_length : GoodIn wsX5_many (wsV RX5 115 RX3 yX3_length wsX3_length) := goodIn_app (goodIn_of _ (by decide +kernel)) ggX5_many_X3_length
set_option maxRecDepth 20000 in
theorem ggX5_many_X3_speaking : GoodIn wsX5_many wsX3_speaking := goodIn_r _ [29, 25, 30, 31, 32, 23, 33, 34, 35, 36, 37, 38, 39, 40, 41, 42, 43, 44, 45, 46, 47, 48, 49, 183, 184, 185, 186, 187, 188, 189, 190, 191, 192, 193, 194, 195, 196, 197, 198, 199] (by decide +kernel) (by decide +kernel)
set_option maxRecDepth 20000 in
theorem gX5_many_X3_speaking : GoodIn wsX5_many (wsV RX5 227 RX3 yX3_speaking wsX3_speaking) := goodIn_app (goodIn_of _ (by decide +kernel)) ggX5_many_X3_speaking
set_option maxRecDepth 20000 in
theorem ggX5_many_X3_runs : GoodIn wsX5_many wsX3_runs := goodIn_r _ [53, 25, 54, 55, 56, 23, 57, 30, 31, 32, 33, 34, 35, 36, 37, 38, 39, 40, 41, 42, 43, 44, 45, 46, 47, 48, 49, 183, 184, 185, 186, 187, 188, 189, 190, 191, 192, 193, 194, 195, 196, 197, 198, 199] (by decide +kernel) (by decide +kernel)
set_option maxRecDepth 20000 in
theorem gX5_many_X3_runs : GoodIn wsX5_many (wsV RX5 230 RX3 yX3_runs wsX3_runs) := goodIn_app (goodIn_of _ (by decide +kernel)) ggX5_many_X3_runs
set_option maxRecDepth 20000 in
theorem ggX5_many_X5_fillChain : GoodIn wsX5_many wsX5_fillChain := goodIn_r _ [62, 3, 2, 1, 6, 63, 64, 65, 66, 67, 68, 20, 21, 22, 23, 24, 25, 69, 35, 36, 37, 38, 39, 40, 41, 42, 43, 70, 45, 46, 47, 48, 49, 71, 72, 73, 74, 75, 76, 77, 78, 79, 80, 81, 82, 8, 9, 10, 11, 12, 83, 84, 85, 86, 87, 88, 61, 89, 90, 91, 92, 93, 30, 31, 32, 33, 34, 44, 94, 95, 96, 97, 98, 99, 100, 101, 102, 103, 104, 105, 106, 107, 172, 173, 174, 175, 176, 177, 178, 179, 180, 200, 201, 202, 203, 204, 205, 206, 207, 208, 183, 184, 185, 186, 187, 188, 189, 190, 191, 192, 193, 194, 195, 196, 197, 198, 199, 181, 182] (by decide +kernel) (by decide +kernel)
set_option maxRecDepth 20000 in
theorem gX5_many_X5_fillChain : GoodIn wsX5_many (wsV RX5 73 RX5 yX5_fillChain wsX5_fillChain) := goodIn_app (goodIn_of _ (by decide +kernel)) ggX5_many_X5_fillChain
set_option maxRecDepth 20000 in
theorem ggX5_many_X0_countWays : GoodIn wsX5_many wsX0_countWays := goodIn_r _ [111, 68, 112, 113, 114, 115, 116, 66, 117, 105, 118, 119, 120, 121, 106, 61, 107, 122, 123, 124, 125, 103, 126, 127, 128, 129, 104, 88, 89, 130, 131, 132, 133, 134, 135, 136, 137, 138, 139, 140, 141, 142, 143, 144, 145, 146, 147, 148, 200, 201, 202, 203, 204, 205, 206, 207, 208] (by decide +kernel) (by decide +kernel)
set_option maxRecDepth 20000 in
theorem gX5_many_X0_countWays : GoodIn wsX5_many (wsV RX5 156 RX0 yX0_countWays wsX0_countWays) := goodIn_app (goodIn_of _ (by decide +kernel)) ggX5_many_X0_countWays
set_option maxRecDepth 20000 in
theorem ggX5_many_X0_setsSureOfOne : GoodIn wsX5_many wsX0_setsSureOfOne := goodIn_r _ [152, 68, 153, 154, 155, 66, 156, 113, 118, 119, 120, 121, 106, 61, 107, 157, 14, 15, 16, 17, 18, 19, 200, 201, 202, 203, 204, 205, 206, 207, 208] (by decide +kernel) (by decide +kernel)
set_option maxRecDepth 20000 in
theorem gX5_many_X0_setsSureOfOne : GoodIn wsX5_many (wsV RX5 233 RX0 yX0_setsSureOfOne wsX0_setsSureOfOne) := goodIn_app (goodIn_of _ (by decide +kernel)) ggX5_many_X0_setsSureOfOne
set_option maxRecDepth 20000 in
theorem ggX5_many_X3_hints : GoodIn wsX5_many wsX3_hints := goodIn_r _ [161, 25, 34, 35, 36, 23, 37, 38, 39, 40, 41, 42, 43, 162, 163, 164, 47, 165, 81, 183, 184, 185, 186, 187, 188, 189, 190, 191, 192, 193, 194, 195, 196, 197, 198, 199] (by decide +kernel) (by decide +kernel)
set_option maxRecDepth 20000 in
theorem gX5_many_X3_hints : GoodIn wsX5_many (wsV RX5 236 RX3 yX3_hints wsX3_hints) := goodIn_app (goodIn_of _ (by decide +kernel)) ggX5_many_X3_hints
set_option maxRecDepth 20000 in
theorem ggX5_many_X4_length : GoodIn wsX5_many wsX4_length := goodIn_r _ [170, 171, 209, 210] (by decide +kernel) (by decide +kernel)
set_option maxRecDepth 20000 in
theorem gX5_many_X4_length : GoodIn wsX5_many (wsV RX5 97 RX4 yX4_length wsX4_length) := goodIn_app (goodIn_of _ (by decide +kernel)) ggX5_many_X4_length
theorem dX5_many_0 : decode cX5_many 0 = .ok (.iload_n 1, 1) := by decide +kernel
theorem dX5_many_1 : decode cX5_many 1 = .ok (.tableswitch 132 0 8 #[51, 62, 70, 78, 86, 106, 114, 122, 127], 51) := by decide +kernel
theorem dX5_many_52 : decode cX5_many 52 = .ok (.aload_n 0, 1) := by decide +kernel
theorem dX5_many_53 : decode cX5_many 53 = .ok (.getfield 12, 3) := by decide +kernel
theorem dX5_many_56 : decode cX5_many 56 = .ok (.invokevirtual 86, 3) := by decide +kernel
theorem dX5_many_59 : decode cX5_many 59 = .ok (.invokestatic 188, 3) := by decide +kernel
theorem dX5_many_62 : decode cX5_many 62 = .ok (.ireturn, 1) := by decide +kernel
theorem dX5_many_63 : decode cX5_many 63 = .ok (.aload_n 0, 1) := by decide +kernel
theorem dX5_many_64 : decode cX5_many 64 = .ok (.getfield 26, 3) := by decide +kernel
theorem dX5_many_67 : decode cX5_many 67 = .ok (.invokevirtual 115, 3) := by decide +kernel
theorem dX5_many_70 : decode cX5_many 70 = .ok (.ireturn, 1) := by decide +kernel
theorem dX5_many_71 : decode cX5_many 71 = .ok (.aload_n 0, 1) := by decide +kernel
theorem dX5_many_72 : decode cX5_many 72 = .ok (.getfield 26, 3) := by decide +kernel
theorem dX5_many_75 : decode cX5_many 75 = .ok (.invokevirtual 227, 3) := by decide +kernel
theorem dX5_many_78 : decode cX5_many 78 = .ok (.ireturn, 1) := by decide +kernel
theorem dX5_many_79 : decode cX5_many 79 = .ok (.aload_n 0, 1) := by decide +kernel
theorem dX5_many_80 : decode cX5_many 80 = .ok (.getfield 26, 3) := by decide +kernel
theorem dX5_many_83 : decode cX5_many 83 = .ok (.invokevirtual 230, 3) := by decide +kernel
theorem dX5_many_86 : decode cX5_many 86 = .ok (.ireturn, 1) := by decide +kernel
theorem dX5_many_87 : decode cX5_many 87 = .ok (.aload_n 0, 1) := by decide +kernel
theorem dX5_many_88 : decode cX5_many 88 = .ok (.invokevirtual 73, 3) := by decide +kernel
theorem dX5_many_91 : decode cX5_many 91 = .ok (.aload_n 0, 1) := by decide +kernel
theorem dX5_many_92 : decode cX5_many 92 = .ok (.getfield 33, 3) := by decide +kernel
theorem dX5_many_95 : decode cX5_many 95 = .ok (.invokevirtual 156, 3) := by decide +kernel
theorem dX5_many_98 : decode cX5_many 98 = .ok (.pop2, 1) := by decide +kernel
theorem dX5_many_99 : decode cX5_many 99 = .ok (.aload_n 0, 1) := by decide +kernel
theorem dX5_many_100 : decode cX5_many 100 = .ok (.getfield 33, 3) := by decide +kernel
theorem dX5_many_103 : decode cX5_many 103 = .ok (.invokevirtual 233, 3) := by decide +kernel
theorem dX5_many_106 : decode cX5_many 106 = .ok (.ireturn, 1) := by decide +kernel
theorem dX5_many_107 : decode cX5_many 107 = .ok (.aload_n 0, 1) := by decide +kernel
theorem dX5_many_108 : decode cX5_many 108 = .ok (.getfield 26, 3) := by decide +kernel
theorem dX5_many_111 : decode cX5_many 111 = .ok (.invokevirtual 236, 3) := by decide +kernel
theorem dX5_many_114 : decode cX5_many 114 = .ok (.ireturn, 1) := by decide +kernel
theorem dX5_many_115 : decode cX5_many 115 = .ok (.aload_n 0, 1) := by decide +kernel
theorem dX5_many_116 : decode cX5_many 116 = .ok (.getfield 19, 3) := by decide +kernel
theorem dX5_many_119 : decode cX5_many 119 = .ok (.invokevirtual 97, 3) := by decide +kernel
theorem dX5_many_122 : decode cX5_many 122 = .ok (.ireturn, 1) := by decide +kernel
theorem dX5_many_123 : decode cX5_many 123 = .ok (.aload_n 0, 1) := by decide +kernel
theorem dX5_many_124 : decode cX5_many 124 = .ok (.getfield 47, 3) := by decide +kernel
theorem dX5_many_127 : decode cX5_many 127 = .ok (.ireturn, 1) := by decide +kernel
theorem dX5_many_128 : decode cX5_many 128 = .ok (.aload_n 0, 1) := by decide +kernel
theorem dX5_many_129 : decode cX5_many 129 = .ok (.getfield 51, 3) := by decide +kernel
theorem dX5_many_132 : decode cX5_many 132 = .ok (.ireturn, 1) := by decide +kernel
theorem dX5_many_133 : decode cX5_many 133 = .ok (.bipush (-2), 2) := by decide +kernel
theorem dX5_many_135 : decode cX5_many 135 = .ok (.ireturn, 1) := by decide +kernel
theorem dX5_isWithin_0 : decode cX5_isWithin 0 = .ok (.iload_n 0, 1) := by decide +kernel
theorem dX5_isWithin_1 : decode cX5_isWithin 1 = .ok (.ifCond .lt 12, 3) := by decide +kernel
theorem dX5_isWithin_4 : decode cX5_isWithin 4 = .ok (.iload_n 0, 1) := by decide +kernel
theorem dX5_isWithin_5 : decode cX5_isWithin 5 = .ok (.iload_n 1, 1) := by decide +kernel
theorem dX5_isWithin_6 : decode cX5_isWithin 6 = .ok (.if_icmp .ge 7, 3) := by decide +kernel
theorem dX5_isWithin_9 : decode cX5_isWithin 9 = .ok (.iconst 1, 1) := by decide +kernel
theorem dX5_isWithin_10 : decode cX5_isWithin 10 = .ok (.goto 4, 3) := by decide +kernel
theorem dX5_isWithin_13 : decode cX5_isWithin 13 = .ok (.iconst 0, 1) := by decide +kernel
theorem dX5_isWithin_14 : decode cX5_isWithin 14 = .ok (.ireturn, 1) := by decide +kernel
theorem dX5_bitOf_0 : decode cX5_bitOf 0 = .ok (.iload_n 0, 1) := by decide +kernel
theorem dX5_bitOf_1 : decode cX5_bitOf 1 = .ok (.ifCond .lt 15, 3) := by decide +kernel
theorem dX5_bitOf_4 : decode cX5_bitOf 4 = .ok (.iload_n 0, 1) := by decide +kernel
theorem dX5_bitOf_5 : decode cX5_bitOf 5 = .ok (.bipush 8, 2) := by decide +kernel
theorem dX5_bitOf_7 : decode cX5_bitOf 7 = .ok (.if_icmp .ge 9, 3) := by decide +kernel
theorem dX5_bitOf_10 : decode cX5_bitOf 10 = .ok (.iconst 1, 1) := by decide +kernel
theorem dX5_bitOf_11 : decode cX5_bitOf 11 = .ok (.iload_n 0, 1) := by decide +kernel
theorem dX5_bitOf_12 : decode cX5_bitOf 12 = .ok (.ishl, 1) := by decide +kernel
theorem dX5_bitOf_13 : decode cX5_bitOf 13 = .ok (.goto 4, 3) := by decide +kernel
theorem dX5_bitOf_16 : decode cX5_bitOf 16 = .ok (.iconst 0, 1) := by decide +kernel
theorem dX5_bitOf_17 : decode cX5_bitOf 17 = .ok (.ireturn, 1) := by decide +kernel
set_option maxRecDepth 20000 in
theorem ggX5_fillChain_X0_clear : GoodIn wsX5_fillChain wsX0_clear := goodIn_r _ [9, 10, 91, 92, 93, 94, 95, 96, 97, 98, 99] (by decide +kernel) (by decide +kernel)
set_option maxRecDepth 20000 in
theorem gX5_fillChain_X0_clear : GoodIn wsX5_fillChain (wsV RX5 239 RX0 yX0_clear wsX0_clear) := goodIn_app (goodIn_of _ (by decide +kernel)) ggX5_fillChain_X0_clear
set_option maxRecDepth 20000 in
theorem ggX5_fillChain_X3_length : GoodIn wsX5_fillChain wsX3_length := goodIn_r _ [15, 16, 100, 101, 102] (by decide +kernel) (by decide +kernel)
set_option maxRecDepth 20000 in
theorem gX5_fillChain_X3_length : GoodIn wsX5_fillChain (wsV RX5 115 RX3 yX3_length wsX3_length) := goodIn_app (goodIn_of _ (by decide +kernel)) ggX5_fillChain_X3_length
set_option maxRecDepth 20000 in
theorem ggX5_fillChain_X3_paragraphAt : GoodIn wsX5_fillChain wsX3_paragraphAt := goodIn_r _ [20, 21, 22, 23, 24, 25, 14, 26, 16, 100, 101, 102] (by decide +kernel) (by decide +kernel)
set_option maxRecDepth 20000 in
theorem gX5_fillChain_X3_paragraphAt : GoodIn wsX5_fillChain (wsV RX5 122 RX3 yX3_paragraphAt wsX3_paragraphAt) := goodIn_app (goodIn_of _ (by decide +kernel)) ggX5_fillChain_X3_paragraphAt
set_option maxRecDepth 20000 in
theorem ggX5_fillChain_X1_speaks : GoodIn wsX5_fillChain wsX1_speaks := goodIn_r _ [31, 32, 103, 104, 105, 106, 107, 108, 109, 110, 111, 112, 113, 114, 115, 116] (by decide +kernel) (by decide +kernel)
set_option maxRecDepth 20000 in
theorem gX5_fillChain_X1_speaks : GoodIn wsX5_fillChain (wsV RX5 144 RX1 yX1_speaks wsX1_speaks) := goodIn_app (goodIn_of _ (by decide +kernel)) ggX5_fillChain_X1_speaks
set_option maxRecDepth 20000 in
theorem ggX5_fillChain_X1_ownSet : GoodIn wsX5_fillChain wsX1_ownSet := goodIn_r _ [36, 37, 38, 39, 40, 41, 42, 43, 44, 45, 46, 47, 48, 49, 50, 51, 52, 53, 54, 55, 56, 57, 103, 104, 105, 106, 107, 108, 109, 110, 111, 112, 113, 114, 115, 116, 117, 118] (by decide +kernel) (by decide +kernel)
set_option maxRecDepth 20000 in
theorem gX5_fillChain_X1_ownSet : GoodIn wsX5_fillChain (wsV RX5 240 RX1 yX1_ownSet wsX1_ownSet) := goodIn_app (goodIn_of _ (by decide +kernel)) ggX5_fillChain_X1_ownSet
set_option maxRecDepth 20000 in
theorem ggX5_fillChain_X3_linkAhead : GoodIn wsX5_fillChain wsX3_linkAhead := goodIn_r _ [61, 62, 63, 64, 14, 65, 66, 18, 19, 20, 21, 22, 23, 24, 25, 26, 16, 67, 28, 29, 30, 31, 32, 68, 69, 70, 71, 72, 100, 101, 102, 103, 104, 105, 106, 107, 108, 109, 110, 111, 112, 113, 114, 115, 116] (by decide +kernel) (by decide +kernel)
set_option maxRecDepth 20000 in
theorem gX5_fillChain_X3_linkAhead : GoodIn wsX5_fillChain (wsV RX5 172 RX3 yX3_linkAhead wsX3_linkAhead) := goodIn_app (goodIn_of _ (by decide +kernel)) ggX5_fillChain_X3_linkAhead
set_option maxRecDepth 20000 in
theorem ggX5_fillChain_X0_append : GoodIn wsX5_fillChain wsX0_append := goodIn_r _ [76, 10, 77, 78, 79, 80, 56, 81, 91, 92, 93, 94, 95, 96, 97, 98, 99] (by decide +kernel) (by decide +kernel)
set_option maxRecDepth 20000 in
theorem gX5_fillChain_X0_append : GoodIn wsX5_fillChain (wsV RX5 243 RX0 yX0_append wsX0_append) := goodIn_app (goodIn_of _ (by decide +kernel)) ggX5_fillChain_X0_append
theorem dX5_fillChain_0 : decode cX5_fillChain 0 = .ok (.aload_n 0, 1) := by decide +kernel
theorem dX5_fillChain_1 : decode cX5_fillChain 1 = .ok (.getfield 33, 3) := by decide +kernel
theorem dX5_fillChain_4 : decode cX5_fillChain 4 = .ok (.invokevirtual 239, 3) := by decide +kernel
theorem dX5_fillChain_7 : decode cX5_fillChain 7 = .ok (.iconst 0, 1) := by decide +kernel
theorem dX5_fillChain_8 : decode cX5_fillChain 8 = .ok (.istore_n 1, 1) := by decide +kernel
theorem dX5_fillChain_9 : decode cX5_fillChain 9 = .ok (.iload_n 1, 1) := by decide +kernel
theorem dX5_fillChain_10 : decode cX5_fillChain 10 = .ok (.aload_n 0, 1) := by decide +kernel
theorem dX5_fillChain_11 : decode cX5_fillChain 11 = .ok (.getfield 26, 3) := by decide +kernel
theorem dX5_fillChain_14 : decode cX5_fillChain 14 = .ok (.invokevirtual 115, 3) := by decide +kernel
theorem dX5_fillChain_17 : decode cX5_fillChain 17 = .ok (.if_icmp .ge 67, 3) := by decide +kernel
theorem dX5_fillChain_20 : decode cX5_fillChain 20 = .ok (.aload_n 0, 1) := by decide +kernel
theorem dX5_fillChain_21 : decode cX5_fillChain 21 = .ok (.getfield 26, 3) := by decide +kernel
theorem dX5_fillChain_24 : decode cX5_fillChain 24 = .ok (.iload_n 1, 1) := by decide +kernel
theorem dX5_fillChain_25 : decode cX5_fillChain 25 = .ok (.invokevirtual 122, 3) := by decide +kernel
theorem dX5_fillChain_28 : decode cX5_fillChain 28 = .ok (.astore_n 2, 1) := by decide +kernel
theorem dX5_fillChain_29 : decode cX5_fillChain 29 = .ok (.aload_n 2, 1) := by decide +kernel
theorem dX5_fillChain_30 : decode cX5_fillChain 30 = .ok (.invokevirtual 144, 3) := by decide +kernel
theorem dX5_fillChain_33 : decode cX5_fillChain 33 = .ok (.istore_n 3, 1) := by decide +kernel
theorem dX5_fillChain_34 : decode cX5_fillChain 34 = .ok (.iload_n 3, 1) := by decide +kernel
theorem dX5_fillChain_35 : decode cX5_fillChain 35 = .ok (.ifCond .eq 18, 3) := by decide +kernel
theorem dX5_fillChain_38 : decode cX5_fillChain 38 = .ok (.aload_n 2, 1) := by decide +kernel
theorem dX5_fillChain_39 : decode cX5_fillChain 39 = .ok (.aload_n 0, 1) := by decide +kernel
theorem dX5_fillChain_40 : decode cX5_fillChain 40 = .ok (.getfield 12, 3) := by decide +kernel
theorem dX5_fillChain_43 : decode cX5_fillChain 43 = .ok (.aload_n 0, 1) := by decide +kernel
theorem dX5_fillChain_44 : decode cX5_fillChain 44 = .ok (.getfield 51, 3) := by decide +kernel
theorem dX5_fillChain_47 : decode cX5_fillChain 47 = .ok (.invokevirtual 240, 3) := by decide +kernel
theorem dX5_fillChain_50 : decode cX5_fillChain 50 = .ok (.goto 4, 3) := by decide +kernel
theorem dX5_fillChain_53 : decode cX5_fillChain 53 = .ok (.iconst 0, 1) := by decide +kernel
theorem dX5_fillChain_54 : decode cX5_fillChain 54 = .ok (.istore 4, 2) := by decide +kernel
theorem dX5_fillChain_56 : decode cX5_fillChain 56 = .ok (.aload_n 0, 1) := by decide +kernel
theorem dX5_fillChain_57 : decode cX5_fillChain 57 = .ok (.getfield 33, 3) := by decide +kernel
theorem dX5_fillChain_60 : decode cX5_fillChain 60 = .ok (.iload_n 3, 1) := by decide +kernel
theorem dX5_fillChain_61 : decode cX5_fillChain 61 = .ok (.iload 4, 2) := by decide +kernel
theorem dX5_fillChain_63 : decode cX5_fillChain 63 = .ok (.aload_n 0, 1) := by decide +kernel
theorem dX5_fillChain_64 : decode cX5_fillChain 64 = .ok (.getfield 26, 3) := by decide +kernel
theorem dX5_fillChain_67 : decode cX5_fillChain 67 = .ok (.iload_n 1, 1) := by decide +kernel
theorem dX5_fillChain_68 : decode cX5_fillChain 68 = .ok (.aload_n 0, 1) := by decide +kernel
theorem dX5_fillChain_69 : decode cX5_fillChain 69 = .ok (.getfield 51, 3) := by decide +kernel
theorem dX5_fillChain_72 : decode cX5_fillChain 72 = .ok (.invokevirtual 172, 3) := by decide +kernel
theorem dX5_fillChain_75 : decode cX5_fillChain 75 = .ok (.invokevirtual 243, 3) := by decide +kernel
theorem dX5_fillChain_78 : decode cX5_fillChain 78 = .ok (.iinc 1 1, 3) := by decide +kernel
theorem dX5_fillChain_81 : decode cX5_fillChain 81 = .ok (.goto (-72), 3) := by decide +kernel
theorem dX5_fillChain_84 : decode cX5_fillChain 84 = .ok (.return_, 1) := by decide +kernel
set_option maxRecDepth 20000 in
theorem ggX5_keepNarrowedSets_X5_fillChain : GoodIn wsX5_keepNarrowedSets wsX5_fillChain := goodIn_r _ [7, 1, 8, 9, 10, 11, 12, 13, 14, 15, 16, 17, 18, 19, 20, 21, 22, 23, 24, 25, 26, 27, 28, 29, 30, 31, 32, 33, 34, 35, 36, 37, 38, 39, 40, 41, 42, 43, 44, 45, 46, 47, 48, 49, 50, 51, 52, 53, 54, 55, 56, 57, 58, 59, 60, 61, 6, 62, 63, 64, 65, 66, 67, 68, 69, 70, 71, 72, 73, 74, 75, 76, 77, 78, 79, 80, 81, 82, 83, 84, 85, 86, 127, 128, 129, 130, 131, 132, 133, 134, 135, 136, 137, 138, 139, 140, 141, 142, 143, 144, 145, 146, 147, 148, 149, 150, 151, 152, 153, 154, 155, 156, 157, 158, 159, 160, 161, 162, 163] (by decide +kernel) (by decide +kernel)
set_option maxRecDepth 20000 in
theorem gX5_keepNarrowedSets_X5_fillChain : GoodIn wsX5_keepNarrowedSets (wsV RX5 73 RX5 yX5_fillChain wsX5_fillChain) := goodIn_app (goodIn_of _ (by decide +kernel)) ggX5_keepNarrowedSets_X5_fillChain
set_option maxRecDepth 20000 in
theorem ggX5_keepNarrowedSets_X0_narrow : GoodIn wsX5_keepNarrowedSets wsX0_narrow := goodIn_r _ [90, 91, 92, 93, 94, 14, 95, 83, 96, 97, 98, 99, 16, 85, 6, 86, 100, 101, 102, 103, 104, 105, 106, 107, 108, 109, 110, 111, 112, 84, 113, 114, 115, 116, 117, 118, 119, 120, 121, 122, 136, 137, 138, 139, 140, 141, 142, 143, 144] (by decide +kernel) (by decide +kernel)
set_option maxRecDepth 20000 in
theorem gX5_keepNarrowedSets_X0_narrow : GoodIn wsX5_keepNarrowedSets (wsV RX5 150 RX0 yX0_narrow wsX0_narrow) := goodIn_app (goodIn_of _ (by decide +kernel)) ggX5_keepNarrowedSets_X0_narrow
set_option maxRecDepth 20000 in
theorem ggX5_keepNarrowedSets_X0_narrowedSet : GoodIn wsX5_keepNarrowedSets wsX0_narrowedSet := goodIn_r _ [126, 91, 96, 97, 98, 14, 99, 16, 85, 6, 86, 136, 137, 138, 139, 140, 141, 142, 143, 144] (by decide +kernel) (by decide +kernel)
set_option maxRecDepth 20000 in
theorem gX5_keepNarrowedSets_X0_narrowedSet : GoodIn wsX5_keepNarrowedSets (wsV RX5 153 RX0 yX0_narrowedSet wsX0_narrowedSet) := goodIn_app (goodIn_of _ (by decide +kernel)) ggX5_keepNarrowedSets_X0_narrowedSet
theorem dX5_keepNarrowedSets_0 : decode cX5_keepNarrowedSets 0 = .ok (.aload_n 0, 1) := by decide +kernel
theorem dX5_keepNarrowedSets_1 : decode cX5_keepNarrowedSets 1 = .ok (.invokevirtual 73, 3) := by decide +kernel
theorem dX5_keepNarrowedSets_4 : decode cX5_keepNarrowedSets 4 = .ok (.aload_n 0, 1) := by decide +kernel
theorem dX5_keepNarrowedSets_5 : decode cX5_keepNarrowedSets 5 = .ok (.getfield 33, 3) := by decide +kernel
theorem dX5_keepNarrowedSets_8 : decode cX5_keepNarrowedSets 8 = .ok (.invokevirtual 150, 3) := by decide +kernel
theorem dX5_keepNarrowedSets_11 : decode cX5_keepNarrowedSets 11 = .ok (.iconst 0, 1) := by decide +kernel
theorem dX5_keepNarrowedSets_12 : decode cX5_keepNarrowedSets 12 = .ok (.istore_n 1, 1) := by decide +kernel
theorem dX5_keepNarrowedSets_13 : decode cX5_keepNarrowedSets 13 = .ok (.iload_n 1, 1) := by decide +kernel
theorem dX5_keepNarrowedSets_14 : decode cX5_keepNarrowedSets 14 = .ok (.bipush 16, 2) := by decide +kernel
theorem dX5_keepNarrowedSets_16 : decode cX5_keepNarrowedSets 16 = .ok (.if_icmp .ge 23, 3) := by decide +kernel
theorem dX5_keepNarrowedSets_19 : decode cX5_keepNarrowedSets 19 = .ok (.aload_n 0, 1) := by decide +kernel
theorem dX5_keepNarrowedSets_20 : decode cX5_keepNarrowedSets 20 = .ok (.getfield 37, 3) := by decide +kernel
theorem dX5_keepNarrowedSets_23 : decode cX5_keepNarrowedSets 23 = .ok (.iload_n 1, 1) := by decide +kernel
theorem dX5_keepNarrowedSets_24 : decode cX5_keepNarrowedSets 24 = .ok (.aload_n 0, 1) := by decide +kernel
theorem dX5_keepNarrowedSets_25 : decode cX5_keepNarrowedSets 25 = .ok (.getfield 33, 3) := by decide +kernel
theorem dX5_keepNarrowedSets_28 : decode cX5_keepNarrowedSets 28 = .ok (.iload_n 1, 1) := by decide +kernel
theorem dX5_keepNarrowedSets_29 : decode cX5_keepNarrowedSets 29 = .ok (.invokevirtual 153, 3) := by decide +kernel
theorem dX5_keepNarrowedSets_32 : decode cX5_keepNarrowedSets 32 = .ok (.iastore, 1) := by decide +kernel
theorem dX5_keepNarrowedSets_33 : decode cX5_keepNarrowedSets 33 = .ok (.iinc 1 1, 3) := by decide +kernel
theorem dX5_keepNarrowedSets_36 : decode cX5_keepNarrowedSets 36 = .ok (.goto (-23), 3) := by decide +kernel
theorem dX5_keepNarrowedSets_39 : decode cX5_keepNarrowedSets 39 = .ok (.return_, 1) := by decide +kernel
set_option maxRecDepth 20000 in
theorem ggX5_changedNarrowedSets_X5_fillChain : GoodIn wsX5_changedNarrowedSets wsX5_fillChain := goodIn_r _ [7, 1, 8, 9, 10, 11, 12, 13, 14, 15, 16, 17, 18, 19, 20, 21, 22, 23, 24, 25, 26, 27, 28, 29, 30, 31, 32, 33, 34, 35, 36, 37, 38, 39, 40, 41, 42, 43, 44, 45, 46, 47, 48, 49, 50, 51, 52, 53, 54, 55, 56, 57, 58, 59, 60, 61, 6, 62, 63, 64, 65, 66, 67, 68, 69, 70, 71, 72, 73, 74, 75, 76, 77, 78, 79, 80, 81, 82, 83, 84, 85, 86, 127, 128, 129, 130, 131, 132, 133, 134, 135, 136, 137, 138, 139, 140, 141, 142, 143, 144, 145, 146, 147, 148, 149, 150, 151, 152, 153, 154, 155, 156, 157, 158, 159, 160, 161, 162, 163] (by decide +kernel) (by decide +kernel)
set_option maxRecDepth 20000 in
theorem gX5_changedNarrowedSets_X5_fillChain : GoodIn wsX5_changedNarrowedSets (wsV RX5 73 RX5 yX5_fillChain wsX5_fillChain) := goodIn_app (goodIn_of _ (by decide +kernel)) ggX5_changedNarrowedSets_X5_fillChain
set_option maxRecDepth 20000 in
theorem ggX5_changedNarrowedSets_X0_narrow : GoodIn wsX5_changedNarrowedSets wsX0_narrow := goodIn_r _ [90, 91, 92, 93, 94, 14, 95, 83, 96, 97, 98, 99, 16, 85, 6, 86, 100, 101, 102, 103, 104, 105, 106, 107, 108, 109, 110, 111, 112, 84, 113, 114, 115, 116, 117, 118, 119, 120, 121, 122, 136, 137, 138, 139, 140, 141, 142, 143, 144] (by decide +kernel) (by decide +kernel)
set_option maxRecDepth 20000 in
theorem gX5_changedNarrowedSets_X0_narrow : GoodIn wsX5_changedNarrowedSets (wsV RX5 150 RX0 yX0_narrow wsX0_narrow) := goodIn_app (goodIn_of _ (by decide +kernel)) ggX5_changedNarrowedSets_X0_narrow
set_option maxRecDepth 20000 in
theorem ggX5_changedNarrowedSets_X0_narrowedSet : GoodIn wsX5_changedNarrowedSets wsX0_narrowedSet := goodIn_r _ [126, 91, 96, 97, 98, 14, 99, 16, 85, 6, 86, 136, 137, 138, 139, 140, 141, 142, 143, 144] (by decide +kernel) (by decide +kernel)
set_option maxRecDepth 20000 in
theorem gX5_changedNarrowedSets_X0_narrowedSet : GoodIn wsX5_changedNarrowedSets (wsV RX5 153 RX0 yX0_narrowedSet wsX0_narrowedSet) := goodIn_app (goodIn_of _ (by decide +kernel)) ggX5_changedNarrowedSets_X0_narrowedSet
theorem dX5_changedNarrowedSets_0 : decode cX5_changedNarrowedSets 0 = .ok (.aload_n 0, 1) := by decide +kernel
theorem dX5_changedNarrowedSets_1 : decode cX5_changedNarrowedSets 1 = .ok (.invokevirtual 73, 3) := by decide +kernel
theorem dX5_changedNarrowedSets_4 : decode cX5_changedNarrowedSets 4 = .ok (.aload_n 0, 1) := by decide +kernel
theorem dX5_changedNarrowedSets_5 : decode cX5_changedNarrowedSets 5 = .ok (.getfield 33, 3) := by decide +kernel
theorem dX5_changedNarrowedSets_8 : decode cX5_changedNarrowedSets 8 = .ok (.invokevirtual 150, 3) := by decide +kernel
theorem dX5_changedNarrowedSets_11 : decode cX5_changedNarrowedSets 11 = .ok (.iconst 0, 1) := by decide +kernel
theorem dX5_changedNarrowedSets_12 : decode cX5_changedNarrowedSets 12 = .ok (.istore_n 1, 1) := by decide +kernel
theorem dX5_changedNarrowedSets_13 : decode cX5_changedNarrowedSets 13 = .ok (.iconst 0, 1) := by decide +kernel
theorem dX5_changedNarrowedSets_14 : decode cX5_changedNarrowedSets 14 = .ok (.istore_n 2, 1) := by decide +kernel
theorem dX5_changedNarrowedSets_15 : decode cX5_changedNarrowedSets 15 = .ok (.iload_n 2, 1) := by decide +kernel
theorem dX5_changedNarrowedSets_16 : decode cX5_changedNarrowedSets 16 = .ok (.bipush 16, 2) := by decide +kernel
theorem dX5_changedNarrowedSets_18 : decode cX5_changedNarrowedSets 18 = .ok (.if_icmp .ge 29, 3) := by decide +kernel
theorem dX5_changedNarrowedSets_21 : decode cX5_changedNarrowedSets 21 = .ok (.aload_n 0, 1) := by decide +kernel
theorem dX5_changedNarrowedSets_22 : decode cX5_changedNarrowedSets 22 = .ok (.getfield 37, 3) := by decide +kernel
theorem dX5_changedNarrowedSets_25 : decode cX5_changedNarrowedSets 25 = .ok (.iload_n 2, 1) := by decide +kernel
theorem dX5_changedNarrowedSets_26 : decode cX5_changedNarrowedSets 26 = .ok (.iaload, 1) := by decide +kernel
theorem dX5_changedNarrowedSets_27 : decode cX5_changedNarrowedSets 27 = .ok (.aload_n 0, 1) := by decide +kernel
theorem dX5_changedNarrowedSets_28 : decode cX5_changedNarrowedSets 28 = .ok (.getfield 33, 3) := by decide +kernel
theorem dX5_changedNarrowedSets_31 : decode cX5_changedNarrowedSets 31 = .ok (.iload_n 2, 1) := by decide +kernel
theorem dX5_changedNarrowedSets_32 : decode cX5_changedNarrowedSets 32 = .ok (.invokevirtual 153, 3) := by decide +kernel
theorem dX5_changedNarrowedSets_35 : decode cX5_changedNarrowedSets 35 = .ok (.if_icmp .eq 6, 3) := by decide +kernel
theorem dX5_changedNarrowedSets_38 : decode cX5_changedNarrowedSets 38 = .ok (.iinc 1 1, 3) := by decide +kernel
theorem dX5_changedNarrowedSets_41 : decode cX5_changedNarrowedSets 41 = .ok (.iinc 2 1, 3) := by decide +kernel
theorem dX5_changedNarrowedSets_44 : decode cX5_changedNarrowedSets 44 = .ok (.goto (-29), 3) := by decide +kernel
theorem dX5_changedNarrowedSets_47 : decode cX5_changedNarrowedSets 47 = .ok (.iload_n 1, 1) := by decide +kernel
theorem dX5_changedNarrowedSets_48 : decode cX5_changedNarrowedSets 48 = .ok (.ireturn, 1) := by decide +kernel
set_option maxRecDepth 20000 in
theorem ggX5_placeByRank_X2_isThere : GoodIn wsX5_placeByRank wsX2_isThere := goodIn_r _ [6, 7, 8, 9, 10, 29, 30] (by decide +kernel) (by decide +kernel)
set_option maxRecDepth 20000 in
theorem gX5_placeByRank_X2_isThere : GoodIn wsX5_placeByRank (wsV RX5 66 RX2 yX2_isThere wsX2_isThere) := goodIn_app (goodIn_of _ (by decide +kernel)) ggX5_placeByRank_X2_isThere
set_option maxRecDepth 20000 in
theorem ggX5_placeByRank_X5_ranksAhead : GoodIn wsX5_placeByRank wsX5_ranksAhead := goodIn_r _ [14, 15, 16, 17, 18, 9, 19, 20, 21, 22, 23, 24, 25, 26, 27, 28] (by decide +kernel) (by decide +kernel)
set_option maxRecDepth 20000 in
theorem gX5_placeByRank_X5_ranksAhead : GoodIn wsX5_placeByRank (wsV RX5 246 RX5 yX5_ranksAhead wsX5_ranksAhead) := goodIn_app (goodIn_of _ (by decide +kernel)) ggX5_placeByRank_X5_ranksAhead
theorem dX5_placeByRank_0 : decode cX5_placeByRank 0 = .ok (.iconst 0, 1) := by decide +kernel
theorem dX5_placeByRank_1 : decode cX5_placeByRank 1 = .ok (.istore_n 2, 1) := by decide +kernel
theorem dX5_placeByRank_2 : decode cX5_placeByRank 2 = .ok (.iconst 0, 1) := by decide +kernel
theorem dX5_placeByRank_3 : decode cX5_placeByRank 3 = .ok (.istore_n 3, 1) := by decide +kernel
theorem dX5_placeByRank_4 : decode cX5_placeByRank 4 = .ok (.iload_n 3, 1) := by decide +kernel
theorem dX5_placeByRank_5 : decode cX5_placeByRank 5 = .ok (.bipush 8, 2) := by decide +kernel
theorem dX5_placeByRank_7 : decode cX5_placeByRank 7 = .ok (.if_icmp .ge 32, 3) := by decide +kernel
theorem dX5_placeByRank_10 : decode cX5_placeByRank 10 = .ok (.aload_n 0, 1) := by decide +kernel
theorem dX5_placeByRank_11 : decode cX5_placeByRank 11 = .ok (.getfield 12, 3) := by decide +kernel
theorem dX5_placeByRank_14 : decode cX5_placeByRank 14 = .ok (.iload_n 3, 1) := by decide +kernel
theorem dX5_placeByRank_15 : decode cX5_placeByRank 15 = .ok (.invokevirtual 66, 3) := by decide +kernel
theorem dX5_placeByRank_18 : decode cX5_placeByRank 18 = .ok (.ifCond .eq 15, 3) := by decide +kernel
theorem dX5_placeByRank_21 : decode cX5_placeByRank 21 = .ok (.aload_n 0, 1) := by decide +kernel
theorem dX5_placeByRank_22 : decode cX5_placeByRank 22 = .ok (.iload_n 3, 1) := by decide +kernel
theorem dX5_placeByRank_23 : decode cX5_placeByRank 23 = .ok (.iload_n 1, 1) := by decide +kernel
theorem dX5_placeByRank_24 : decode cX5_placeByRank 24 = .ok (.invokevirtual 246, 3) := by decide +kernel
theorem dX5_placeByRank_27 : decode cX5_placeByRank 27 = .ok (.ifCond .eq 6, 3) := by decide +kernel
theorem dX5_placeByRank_30 : decode cX5_placeByRank 30 = .ok (.iinc 2 1, 3) := by decide +kernel
theorem dX5_placeByRank_33 : decode cX5_placeByRank 33 = .ok (.iinc 3 1, 3) := by decide +kernel
theorem dX5_placeByRank_36 : decode cX5_placeByRank 36 = .ok (.goto (-32), 3) := by decide +kernel
theorem dX5_placeByRank_39 : decode cX5_placeByRank 39 = .ok (.iload_n 2, 1) := by decide +kernel
theorem dX5_placeByRank_40 : decode cX5_placeByRank 40 = .ok (.ireturn, 1) := by decide +kernel
set_option maxRecDepth 20000 in
theorem ggX5_ranksAhead_X5_isWithin : GoodIn wsX5_ranksAhead wsX5_isWithin := goodIn_r _ [6] (by decide +kernel) (by decide +kernel)
set_option maxRecDepth 20000 in
theorem gX5_ranksAhead_X5_isWithin : GoodIn wsX5_ranksAhead (va_wsS RX5 54 yX5_isWithin wsX5_isWithin) := goodIn_app (goodIn_of _ (by decide +kernel)) ggX5_ranksAhead_X5_isWithin
theorem dX5_ranksAhead_0 : decode cX5_ranksAhead 0 = .ok (.iload_n 1, 1) := by decide +kernel
theorem dX5_ranksAhead_1 : decode cX5_ranksAhead 1 = .ok (.bipush 8, 2) := by decide +kernel
theorem dX5_ranksAhead_3 : decode cX5_ranksAhead 3 = .ok (.invokestatic 54, 3) := by decide +kernel
theorem dX5_ranksAhead_6 : decode cX5_ranksAhead 6 = .ok (.ifCond .eq 12, 3) := by decide +kernel
theorem dX5_ranksAhead_9 : decode cX5_ranksAhead 9 = .ok (.iload_n 2, 1) := by decide +kernel
theorem dX5_ranksAhead_10 : decode cX5_ranksAhead 10 = .ok (.bipush 8, 2) := by decide +kernel
theorem dX5_ranksAhead_12 : decode cX5_ranksAhead 12 = .ok (.invokestatic 54, 3) := by decide +kernel
theorem dX5_ranksAhead_15 : decode cX5_ranksAhead 15 = .ok (.ifCond .ne 5, 3) := by decide +kernel
theorem dX5_ranksAhead_18 : decode cX5_ranksAhead 18 = .ok (.iconst 0, 1) := by decide +kernel
theorem dX5_ranksAhead_19 : decode cX5_ranksAhead 19 = .ok (.ireturn, 1) := by decide +kernel
theorem dX5_ranksAhead_20 : decode cX5_ranksAhead 20 = .ok (.aload_n 0, 1) := by decide +kernel
theorem dX5_ranksAhead_21 : decode cX5_ranksAhead 21 = .ok (.getfield 41, 3) := by decide +kernel
theorem dX5_ranksAhead_24 : decode cX5_ranksAhead 24 = .ok (.iload_n 1, 1) := by decide +kernel
theorem dX5_ranksAhead_25 : decode cX5_ranksAhead 25 = .ok (.iaload, 1) := by decide +kernel
theorem dX5_ranksAhead_26 : decode cX5_ranksAhead 26 = .ok (.aload_n 0, 1) := by decide +kernel
theorem dX5_ranksAhead_27 : decode cX5_ranksAhead 27 = .ok (.getfield 41, 3) := by decide +kernel
theorem dX5_ranksAhead_30 : decode cX5_ranksAhead 30 = .ok (.iload_n 2, 1) := by decide +kernel
theorem dX5_ranksAhead_31 : decode cX5_ranksAhead 31 = .ok (.iaload, 1) := by decide +kernel
theorem dX5_ranksAhead_32 : decode cX5_ranksAhead 32 = .ok (.if_icmp .eq 24, 3) := by decide +kernel
theorem dX5_ranksAhead_35 : decode cX5_ranksAhead 35 = .ok (.aload_n 0, 1) := by decide +kernel
theorem dX5_ranksAhead_36 : decode cX5_ranksAhead 36 = .ok (.getfield 41, 3) := by decide +kernel
theorem dX5_ranksAhead_39 : decode cX5_ranksAhead 39 = .ok (.iload_n 1, 1) := by decide +kernel
theorem dX5_ranksAhead_40 : decode cX5_ranksAhead 40 = .ok (.iaload, 1) := by decide +kernel
theorem dX5_ranksAhead_41 : decode cX5_ranksAhead 41 = .ok (.aload_n 0, 1) := by decide +kernel
theorem dX5_ranksAhead_42 : decode cX5_ranksAhead 42 = .ok (.getfield 41, 3) := by decide +kernel
theorem dX5_ranksAhead_45 : decode cX5_ranksAhead 45 = .ok (.iload_n 2, 1) := by decide +kernel
theorem dX5_ranksAhead_46 : decode cX5_ranksAhead 46 = .ok (.iaload, 1) := by decide +kernel
theorem dX5_ranksAhead_47 : decode cX5_ranksAhead 47 = .ok (.if_icmp .le 7, 3) := by decide +kernel
theorem dX5_ranksAhead_50 : decode cX5_ranksAhead 50 = .ok (.iconst 1, 1) := by decide +kernel
theorem dX5_ranksAhead_51 : decode cX5_ranksAhead 51 = .ok (.goto 4, 3) := by decide +kernel
theorem dX5_ranksAhead_54 : decode cX5_ranksAhead 54 = .ok (.iconst 0, 1) := by decide +kernel
theorem dX5_ranksAhead_55 : decode cX5_ranksAhead 55 = .ok (.ireturn, 1) := by decide +kernel
theorem dX5_ranksAhead_56 : decode cX5_ranksAhead 56 = .ok (.aload_n 0, 1) := by decide +kernel
theorem dX5_ranksAhead_57 : decode cX5_ranksAhead 57 = .ok (.getfield 44, 3) := by decide +kernel
theorem dX5_ranksAhead_60 : decode cX5_ranksAhead 60 = .ok (.iload_n 1, 1) := by decide +kernel
theorem dX5_ranksAhead_61 : decode cX5_ranksAhead 61 = .ok (.iaload, 1) := by decide +kernel
theorem dX5_ranksAhead_62 : decode cX5_ranksAhead 62 = .ok (.aload_n 0, 1) := by decide +kernel
theorem dX5_ranksAhead_63 : decode cX5_ranksAhead 63 = .ok (.getfield 44, 3) := by decide +kernel
theorem dX5_ranksAhead_66 : decode cX5_ranksAhead 66 = .ok (.iload_n 2, 1) := by decide +kernel
theorem dX5_ranksAhead_67 : decode cX5_ranksAhead 67 = .ok (.iaload, 1) := by decide +kernel
theorem dX5_ranksAhead_68 : decode cX5_ranksAhead 68 = .ok (.if_icmp .eq 24, 3) := by decide +kernel
theorem dX5_ranksAhead_71 : decode cX5_ranksAhead 71 = .ok (.aload_n 0, 1) := by decide +kernel
theorem dX5_ranksAhead_72 : decode cX5_ranksAhead 72 = .ok (.getfield 44, 3) := by decide +kernel
theorem dX5_ranksAhead_75 : decode cX5_ranksAhead 75 = .ok (.iload_n 1, 1) := by decide +kernel
theorem dX5_ranksAhead_76 : decode cX5_ranksAhead 76 = .ok (.iaload, 1) := by decide +kernel
theorem dX5_ranksAhead_77 : decode cX5_ranksAhead 77 = .ok (.aload_n 0, 1) := by decide +kernel
theorem dX5_ranksAhead_78 : decode cX5_ranksAhead 78 = .ok (.getfield 44, 3) := by decide +kernel
theorem dX5_ranksAhead_81 : decode cX5_ranksAhead 81 = .ok (.iload_n 2, 1) := by decide +kernel
theorem dX5_ranksAhead_82 : decode cX5_ranksAhead 82 = .ok (.iaload, 1) := by decide +kernel
theorem dX5_ranksAhead_83 : decode cX5_ranksAhead 83 = .ok (.if_icmp .le 7, 3) := by decide +kernel
theorem dX5_ranksAhead_86 : decode cX5_ranksAhead 86 = .ok (.iconst 1, 1) := by decide +kernel
theorem dX5_ranksAhead_87 : decode cX5_ranksAhead 87 = .ok (.goto 4, 3) := by decide +kernel
theorem dX5_ranksAhead_90 : decode cX5_ranksAhead 90 = .ok (.iconst 0, 1) := by decide +kernel
theorem dX5_ranksAhead_91 : decode cX5_ranksAhead 91 = .ok (.ireturn, 1) := by decide +kernel
theorem dX5_ranksAhead_92 : decode cX5_ranksAhead 92 = .ok (.iload_n 1, 1) := by decide +kernel
theorem dX5_ranksAhead_93 : decode cX5_ranksAhead 93 = .ok (.iload_n 2, 1) := by decide +kernel
theorem dX5_ranksAhead_94 : decode cX5_ranksAhead 94 = .ok (.if_icmp .ge 7, 3) := by decide +kernel
theorem dX5_ranksAhead_97 : decode cX5_ranksAhead 97 = .ok (.iconst 1, 1) := by decide +kernel
theorem dX5_ranksAhead_98 : decode cX5_ranksAhead 98 = .ok (.goto 4, 3) := by decide +kernel
theorem dX5_ranksAhead_101 : decode cX5_ranksAhead 101 = .ok (.iconst 0, 1) := by decide +kernel
theorem dX5_ranksAhead_102 : decode cX5_ranksAhead 102 = .ok (.ireturn, 1) := by decide +kernel
theorem dX5_signOfOne_0 : decode cX5_signOfOne 0 = .ok (.iload_n 1, 1) := by decide +kernel
theorem dX5_signOfOne_1 : decode cX5_signOfOne 1 = .ok (.iconst (-1), 1) := by decide +kernel
theorem dX5_signOfOne_2 : decode cX5_signOfOne 2 = .ok (.if_icmp .ne 5, 3) := by decide +kernel
theorem dX5_signOfOne_5 : decode cX5_signOfOne 5 = .ok (.iconst 1, 1) := by decide +kernel
theorem dX5_signOfOne_6 : decode cX5_signOfOne 6 = .ok (.ireturn, 1) := by decide +kernel
theorem dX5_signOfOne_7 : decode cX5_signOfOne 7 = .ok (.iload_n 1, 1) := by decide +kernel
theorem dX5_signOfOne_8 : decode cX5_signOfOne 8 = .ok (.ifCond .ne 7, 3) := by decide +kernel
theorem dX5_signOfOne_11 : decode cX5_signOfOne 11 = .ok (.iload_n 0, 1) := by decide +kernel
theorem dX5_signOfOne_12 : decode cX5_signOfOne 12 = .ok (.goto 5, 3) := by decide +kernel
theorem dX5_signOfOne_15 : decode cX5_signOfOne 15 = .ok (.bipush (-9), 2) := by decide +kernel
theorem dX5_signOfOne_17 : decode cX5_signOfOne 17 = .ok (.ireturn, 1) := by decide +kernel
set_option maxRecDepth 20000 in
theorem ggX5_signOfSet_J6_bitCount_0f7a4 : GoodIn wsX5_signOfSet wsJ6_bitCount_0f7a4 := goodIn_r _ [4, 5, 6, 7] (by decide +kernel) (by decide +kernel)
set_option maxRecDepth 20000 in
theorem gX5_signOfSet_J6_bitCount_0f7a4 : GoodIn wsX5_signOfSet (va_wsS RX5 188 yJ6_bitCount_0f7a4 wsJ6_bitCount_0f7a4) := goodIn_app (goodIn_of _ (by decide +kernel)) ggX5_signOfSet_J6_bitCount_0f7a4
set_option maxRecDepth 20000 in
theorem ggX5_signOfSet_X5_memberOf : GoodIn wsX5_signOfSet wsX5_memberOf := goodIn_r _ [11, 12, 13, 10, 14] (by decide +kernel) (by decide +kernel)
set_option maxRecDepth 20000 in
theorem gX5_signOfSet_X5_memberOf : GoodIn wsX5_signOfSet (va_wsS RX5 249 yX5_memberOf wsX5_memberOf) := goodIn_app (goodIn_of _ (by decide +kernel)) ggX5_signOfSet_X5_memberOf
theorem dX5_signOfSet_0 : decode cX5_signOfSet 0 = .ok (.iconst 2, 1) := by decide +kernel
theorem dX5_signOfSet_1 : decode cX5_signOfSet 1 = .ok (.iload_n 0, 1) := by decide +kernel
theorem dX5_signOfSet_2 : decode cX5_signOfSet 2 = .ok (.invokestatic 188, 3) := by decide +kernel
theorem dX5_signOfSet_5 : decode cX5_signOfSet 5 = .ok (.imul, 1) := by decide +kernel
theorem dX5_signOfSet_6 : decode cX5_signOfSet 6 = .ok (.iconst 1, 1) := by decide +kernel
theorem dX5_signOfSet_7 : decode cX5_signOfSet 7 = .ok (.isub, 1) := by decide +kernel
theorem dX5_signOfSet_8 : decode cX5_signOfSet 8 = .ok (.istore_n 2, 1) := by decide +kernel
theorem dX5_signOfSet_9 : decode cX5_signOfSet 9 = .ok (.iload_n 1, 1) := by decide +kernel
theorem dX5_signOfSet_10 : decode cX5_signOfSet 10 = .ok (.iconst (-1), 1) := by decide +kernel
theorem dX5_signOfSet_11 : decode cX5_signOfSet 11 = .ok (.if_icmp .ne 5, 3) := by decide +kernel
theorem dX5_signOfSet_14 : decode cX5_signOfSet 14 = .ok (.iload_n 2, 1) := by decide +kernel
theorem dX5_signOfSet_15 : decode cX5_signOfSet 15 = .ok (.ireturn, 1) := by decide +kernel
theorem dX5_signOfSet_16 : decode cX5_signOfSet 16 = .ok (.iload_n 1, 1) := by decide +kernel
theorem dX5_signOfSet_17 : decode cX5_signOfSet 17 = .ok (.iload_n 2, 1) := by decide +kernel
theorem dX5_signOfSet_18 : decode cX5_signOfSet 18 = .ok (.if_icmp .lt 6, 3) := by decide +kernel
theorem dX5_signOfSet_21 : decode cX5_signOfSet 21 = .ok (.bipush (-9), 2) := by decide +kernel
theorem dX5_signOfSet_23 : decode cX5_signOfSet 23 = .ok (.ireturn, 1) := by decide +kernel
theorem dX5_signOfSet_24 : decode cX5_signOfSet 24 = .ok (.iload_n 1, 1) := by decide +kernel
theorem dX5_signOfSet_25 : decode cX5_signOfSet 25 = .ok (.iconst 2, 1) := by decide +kernel
theorem dX5_signOfSet_26 : decode cX5_signOfSet 26 = .ok (.irem, 1) := by decide +kernel
theorem dX5_signOfSet_27 : decode cX5_signOfSet 27 = .ok (.iconst 1, 1) := by decide +kernel
theorem dX5_signOfSet_28 : decode cX5_signOfSet 28 = .ok (.if_icmp .ne 8, 3) := by decide +kernel
theorem dX5_signOfSet_31 : decode cX5_signOfSet 31 = .ok (.bipush 47, 2) := by decide +kernel
theorem dX5_signOfSet_33 : decode cX5_signOfSet 33 = .ok (.goto 13, 3) := by decide +kernel
theorem dX5_signOfSet_36 : decode cX5_signOfSet 36 = .ok (.bipush 65, 2) := by decide +kernel
theorem dX5_signOfSet_38 : decode cX5_signOfSet 38 = .ok (.iload_n 0, 1) := by decide +kernel
theorem dX5_signOfSet_39 : decode cX5_signOfSet 39 = .ok (.iload_n 1, 1) := by decide +kernel
theorem dX5_signOfSet_40 : decode cX5_signOfSet 40 = .ok (.iconst 2, 1) := by decide +kernel
theorem dX5_signOfSet_41 : decode cX5_signOfSet 41 = .ok (.idiv, 1) := by decide +kernel
theorem dX5_signOfSet_42 : decode cX5_signOfSet 42 = .ok (.invokestatic 249, 3) := by decide +kernel
theorem dX5_signOfSet_45 : decode cX5_signOfSet 45 = .ok (.iadd, 1) := by decide +kernel
theorem dX5_signOfSet_46 : decode cX5_signOfSet 46 = .ok (.ireturn, 1) := by decide +kernel
set_option maxRecDepth 20000 in
theorem ggX5_memberOf_X5_bitOf : GoodIn wsX5_memberOf wsX5_bitOf := goodIn_r _ [4] (by decide +kernel) (by decide +kernel)
set_option maxRecDepth 20000 in
theorem gX5_memberOf_X5_bitOf : GoodIn wsX5_memberOf (va_wsS RX5 83 yX5_bitOf wsX5_bitOf) := goodIn_app (goodIn_of _ (by decide +kernel)) ggX5_memberOf_X5_bitOf
theorem dX5_memberOf_0 : decode cX5_memberOf 0 = .ok (.iconst 0, 1) := by decide +kernel
theorem dX5_memberOf_1 : decode cX5_memberOf 1 = .ok (.istore_n 2, 1) := by decide +kernel
theorem dX5_memberOf_2 : decode cX5_memberOf 2 = .ok (.iconst 0, 1) := by decide +kernel
theorem dX5_memberOf_3 : decode cX5_memberOf 3 = .ok (.istore_n 3, 1) := by decide +kernel
theorem dX5_memberOf_4 : decode cX5_memberOf 4 = .ok (.iload_n 3, 1) := by decide +kernel
theorem dX5_memberOf_5 : decode cX5_memberOf 5 = .ok (.bipush 8, 2) := by decide +kernel
theorem dX5_memberOf_7 : decode cX5_memberOf 7 = .ok (.if_icmp .ge 28, 3) := by decide +kernel
theorem dX5_memberOf_10 : decode cX5_memberOf 10 = .ok (.iload_n 0, 1) := by decide +kernel
theorem dX5_memberOf_11 : decode cX5_memberOf 11 = .ok (.iload_n 3, 1) := by decide +kernel
theorem dX5_memberOf_12 : decode cX5_memberOf 12 = .ok (.invokestatic 83, 3) := by decide +kernel
theorem dX5_memberOf_15 : decode cX5_memberOf 15 = .ok (.iand, 1) := by decide +kernel
theorem dX5_memberOf_16 : decode cX5_memberOf 16 = .ok (.ifCond .eq 13, 3) := by decide +kernel
theorem dX5_memberOf_19 : decode cX5_memberOf 19 = .ok (.iload_n 2, 1) := by decide +kernel
theorem dX5_memberOf_20 : decode cX5_memberOf 20 = .ok (.iload_n 1, 1) := by decide +kernel
theorem dX5_memberOf_21 : decode cX5_memberOf 21 = .ok (.if_icmp .ne 5, 3) := by decide +kernel
theorem dX5_memberOf_24 : decode cX5_memberOf 24 = .ok (.iload_n 3, 1) := by decide +kernel
theorem dX5_memberOf_25 : decode cX5_memberOf 25 = .ok (.ireturn, 1) := by decide +kernel
theorem dX5_memberOf_26 : decode cX5_memberOf 26 = .ok (.iinc 2 1, 3) := by decide +kernel
theorem dX5_memberOf_29 : decode cX5_memberOf 29 = .ok (.iinc 3 1, 3) := by decide +kernel
theorem dX5_memberOf_32 : decode cX5_memberOf 32 = .ok (.goto (-28), 3) := by decide +kernel
theorem dX5_memberOf_35 : decode cX5_memberOf 35 = .ok (.bipush (-9), 2) := by decide +kernel
theorem dX5_memberOf_37 : decode cX5_memberOf 37 = .ok (.ireturn, 1) := by decide +kernel
theorem dX6_init_0 : decode cX6_init 0 = .ok (.aload_n 0, 1) := by decide +kernel
theorem dX6_init_1 : decode cX6_init 1 = .ok (.invokespecial 1, 3) := by decide +kernel
theorem dX6_init_4 : decode cX6_init 4 = .ok (.aload_n 0, 1) := by decide +kernel
theorem dX6_init_5 : decode cX6_init 5 = .ok (.bipush 8, 2) := by decide +kernel
theorem dX6_init_7 : decode cX6_init 7 = .ok (.newarray .int, 2) := by decide +kernel
theorem dX6_init_9 : decode cX6_init 9 = .ok (.putfield 7, 3) := by decide +kernel
theorem dX6_init_12 : decode cX6_init 12 = .ok (.aload_n 0, 1) := by decide +kernel
theorem dX6_init_13 : decode cX6_init 13 = .ok (.bipush 15, 2) := by decide +kernel
theorem dX6_init_15 : decode cX6_init 15 = .ok (.putfield 13, 3) := by decide +kernel
theorem dX6_init_18 : decode cX6_init 18 = .ok (.aload_n 0, 1) := by decide +kernel
theorem dX6_init_19 : decode cX6_init 19 = .ok (.bipush 12, 2) := by decide +kernel
theorem dX6_init_21 : decode cX6_init 21 = .ok (.newarray .int, 2) := by decide +kernel
theorem dX6_init_23 : decode cX6_init 23 = .ok (.putfield 17, 3) := by decide +kernel
theorem dX6_init_26 : decode cX6_init 26 = .ok (.aload_n 0, 1) := by decide +kernel
theorem dX6_init_27 : decode cX6_init 27 = .ok (.bipush 16, 2) := by decide +kernel
theorem dX6_init_29 : decode cX6_init 29 = .ok (.newarray .int, 2) := by decide +kernel
theorem dX6_init_31 : decode cX6_init 31 = .ok (.putfield 20, 3) := by decide +kernel
theorem dX6_init_34 : decode cX6_init 34 = .ok (.aload_n 0, 1) := by decide +kernel
theorem dX6_init_35 : decode cX6_init 35 = .ok (.sipush 192, 3) := by decide +kernel
theorem dX6_init_38 : decode cX6_init 38 = .ok (.newarray .int, 2) := by decide +kernel
theorem dX6_init_40 : decode cX6_init 40 = .ok (.putfield 23, 3) := by decide +kernel
theorem dX6_init_43 : decode cX6_init 43 = .ok (.aload_n 0, 1) := by decide +kernel
theorem dX6_init_44 : decode cX6_init 44 = .ok (.sipush 192, 3) := by decide +kernel
theorem dX6_init_47 : decode cX6_init 47 = .ok (.newarray .int, 2) := by decide +kernel
theorem dX6_init_49 : decode cX6_init 49 = .ok (.putfield 26, 3) := by decide +kernel
theorem dX6_init_52 : decode cX6_init 52 = .ok (.aload_n 0, 1) := by decide +kernel
theorem dX6_init_53 : decode cX6_init 53 = .ok (.bipush 16, 2) := by decide +kernel
theorem dX6_init_55 : decode cX6_init 55 = .ok (.newarray .boolean, 2) := by decide +kernel
theorem dX6_init_57 : decode cX6_init 57 = .ok (.putfield 29, 3) := by decide +kernel
theorem dX6_init_60 : decode cX6_init 60 = .ok (.aload_n 0, 1) := by decide +kernel
theorem dX6_init_61 : decode cX6_init 61 = .ok (.bipush 16, 2) := by decide +kernel
theorem dX6_init_63 : decode cX6_init 63 = .ok (.newarray .int, 2) := by decide +kernel
theorem dX6_init_65 : decode cX6_init 65 = .ok (.putfield 33, 3) := by decide +kernel
theorem dX6_init_68 : decode cX6_init 68 = .ok (.aload_n 0, 1) := by decide +kernel
theorem dX6_init_69 : decode cX6_init 69 = .ok (.bipush 16, 2) := by decide +kernel
theorem dX6_init_71 : decode cX6_init 71 = .ok (.newarray .int, 2) := by decide +kernel
theorem dX6_init_73 : decode cX6_init 73 = .ok (.putfield 36, 3) := by decide +kernel
theorem dX6_init_76 : decode cX6_init 76 = .ok (.aload_n 0, 1) := by decide +kernel
theorem dX6_init_77 : decode cX6_init 77 = .ok (.bipush 16, 2) := by decide +kernel
theorem dX6_init_79 : decode cX6_init 79 = .ok (.newarray .int, 2) := by decide +kernel
theorem dX6_init_81 : decode cX6_init 81 = .ok (.putfield 39, 3) := by decide +kernel
theorem dX6_init_84 : decode cX6_init 84 = .ok (.aload_n 0, 1) := by decide +kernel
theorem dX6_init_85 : decode cX6_init 85 = .ok (.bipush 16, 2) := by decide +kernel
theorem dX6_init_87 : decode cX6_init 87 = .ok (.newarray .int, 2) := by decide +kernel
theorem dX6_init_89 : decode cX6_init 89 = .ok (.putfield 42, 3) := by decide +kernel
theorem dX6_init_92 : decode cX6_init 92 = .ok (.aload_n 0, 1) := by decide +kernel
theorem dX6_init_93 : decode cX6_init 93 = .ok (.bipush 16, 2) := by decide +kernel
theorem dX6_init_95 : decode cX6_init 95 = .ok (.newarray .int, 2) := by decide +kernel
theorem dX6_init_97 : decode cX6_init 97 = .ok (.putfield 45, 3) := by decide +kernel
theorem dX6_init_100 : decode cX6_init 100 = .ok (.aload_n 0, 1) := by decide +kernel
theorem dX6_init_101 : decode cX6_init 101 = .ok (.bipush 16, 2) := by decide +kernel
theorem dX6_init_103 : decode cX6_init 103 = .ok (.newarray .int, 2) := by decide +kernel
theorem dX6_init_105 : decode cX6_init 105 = .ok (.putfield 48, 3) := by decide +kernel
theorem dX6_init_108 : decode cX6_init 108 = .ok (.aload_n 0, 1) := by decide +kernel
theorem dX6_init_109 : decode cX6_init 109 = .ok (.sipush 128, 3) := by decide +kernel
theorem dX6_init_112 : decode cX6_init 112 = .ok (.newarray .long, 2) := by decide +kernel
theorem dX6_init_114 : decode cX6_init 114 = .ok (.putfield 51, 3) := by decide +kernel
theorem dX6_init_117 : decode cX6_init 117 = .ok (.aload_n 0, 1) := by decide +kernel
theorem dX6_init_118 : decode cX6_init 118 = .ok (.sipush 128, 3) := by decide +kernel
theorem dX6_init_121 : decode cX6_init 121 = .ok (.newarray .long, 2) := by decide +kernel
theorem dX6_init_123 : decode cX6_init 123 = .ok (.putfield 55, 3) := by decide +kernel
theorem dX6_init_126 : decode cX6_init 126 = .ok (.aload_n 0, 1) := by decide +kernel
theorem dX6_init_127 : decode cX6_init 127 = .ok (.bipush 16, 2) := by decide +kernel
theorem dX6_init_129 : decode cX6_init 129 = .ok (.newarray .int, 2) := by decide +kernel
theorem dX6_init_131 : decode cX6_init 131 = .ok (.putfield 58, 3) := by decide +kernel
theorem dX6_init_134 : decode cX6_init 134 = .ok (.aload_n 0, 1) := by decide +kernel
theorem dX6_init_135 : decode cX6_init 135 = .ok (.bipush 16, 2) := by decide +kernel
theorem dX6_init_137 : decode cX6_init 137 = .ok (.newarray .int, 2) := by decide +kernel
theorem dX6_init_139 : decode cX6_init 139 = .ok (.putfield 61, 3) := by decide +kernel
theorem dX6_init_142 : decode cX6_init 142 = .ok (.iconst 0, 1) := by decide +kernel
theorem dX6_init_143 : decode cX6_init 143 = .ok (.istore_n 1, 1) := by decide +kernel
theorem dX6_init_144 : decode cX6_init 144 = .ok (.iload_n 1, 1) := by decide +kernel
theorem dX6_init_145 : decode cX6_init 145 = .ok (.bipush 8, 2) := by decide +kernel
theorem dX6_init_147 : decode cX6_init 147 = .ok (.if_icmp .ge 17, 3) := by decide +kernel
theorem dX6_init_150 : decode cX6_init 150 = .ok (.aload_n 0, 1) := by decide +kernel
theorem dX6_init_151 : decode cX6_init 151 = .ok (.getfield 7, 3) := by decide +kernel
theorem dX6_init_154 : decode cX6_init 154 = .ok (.iload_n 1, 1) := by decide +kernel
theorem dX6_init_155 : decode cX6_init 155 = .ok (.bipush (-9), 2) := by decide +kernel
theorem dX6_init_157 : decode cX6_init 157 = .ok (.iastore, 1) := by decide +kernel
theorem dX6_init_158 : decode cX6_init 158 = .ok (.iinc 1 1, 3) := by decide +kernel
theorem dX6_init_161 : decode cX6_init 161 = .ok (.goto (-17), 3) := by decide +kernel
theorem dX6_init_164 : decode cX6_init 164 = .ok (.return_, 1) := by decide +kernel
theorem dX6_within_0 : decode cX6_within 0 = .ok (.iload_n 0, 1) := by decide +kernel
theorem dX6_within_1 : decode cX6_within 1 = .ok (.iload_n 1, 1) := by decide +kernel
theorem dX6_within_2 : decode cX6_within 2 = .ok (.if_icmp .lt 12, 3) := by decide +kernel
theorem dX6_within_5 : decode cX6_within 5 = .ok (.iload_n 0, 1) := by decide +kernel
theorem dX6_within_6 : decode cX6_within 6 = .ok (.iload_n 2, 1) := by decide +kernel
theorem dX6_within_7 : decode cX6_within 7 = .ok (.if_icmp .gt 7, 3) := by decide +kernel
theorem dX6_within_10 : decode cX6_within 10 = .ok (.iconst 1, 1) := by decide +kernel
theorem dX6_within_11 : decode cX6_within 11 = .ok (.goto 4, 3) := by decide +kernel
theorem dX6_within_14 : decode cX6_within 14 = .ok (.iconst 0, 1) := by decide +kernel
theorem dX6_within_15 : decode cX6_within 15 = .ok (.ireturn, 1) := by decide +kernel
theorem dX6_has_0 : decode cX6_has 0 = .ok (.iload_n 0, 1) := by decide +kernel
theorem dX6_has_1 : decode cX6_has 1 = .ok (.iload_n 1, 1) := by decide +kernel
