theorem dX6_isWho_2 : decode cX6_isWho 2 = .ok (.aload_n 0, 1) := by decide +kernel
theorem dX6_isWho_3 : decode cX6_isWho 3 = .ok (.getfield 20, 3) := by decide +kernel
theorem dX6_isWho_6 : decode cX6_isWho 6 = .ok (.iload_n 1, 1) := by decide +kernel
theorem dX6_isWho_7 : decode cX6_isWho 7 = .ok (.iaload, 1) := by decide +kernel
theorem dX6_isWho_8 : decode cX6_isWho 8 = .ok (.iconst 1, 1) := by decide +kernel
theorem dX6_isWho_9 : decode cX6_isWho 9 = .ok (.isub, 1) := by decide +kernel
theorem dX6_isWho_10 : decode cX6_isWho 10 = .ok (.invokestatic 64, 3) := by decide +kernel
theorem dX6_isWho_13 : decode cX6_isWho 13 = .ok (.ifCond .eq 22, 3) := by decide +kernel
theorem dX6_isWho_16 : decode cX6_isWho 16 = .ok (.aload_n 0, 1) := by decide +kernel
theorem dX6_isWho_17 : decode cX6_isWho 17 = .ok (.getfield 23, 3) := by decide +kernel
theorem dX6_isWho_20 : decode cX6_isWho 20 = .ok (.bipush 12, 2) := by decide +kernel
theorem dX6_isWho_22 : decode cX6_isWho 22 = .ok (.iload_n 1, 1) := by decide +kernel
theorem dX6_isWho_23 : decode cX6_isWho 23 = .ok (.imul, 1) := by decide +kernel
theorem dX6_isWho_24 : decode cX6_isWho 24 = .ok (.iload_n 2, 1) := by decide +kernel
theorem dX6_isWho_25 : decode cX6_isWho 25 = .ok (.iadd, 1) := by decide +kernel
theorem dX6_isWho_26 : decode cX6_isWho 26 = .ok (.iaload, 1) := by decide +kernel
theorem dX6_isWho_27 : decode cX6_isWho 27 = .ok (.iconst 3, 1) := by decide +kernel
theorem dX6_isWho_28 : decode cX6_isWho 28 = .ok (.if_icmp .lt 7, 3) := by decide +kernel
theorem dX6_isWho_31 : decode cX6_isWho 31 = .ok (.iconst 1, 1) := by decide +kernel
theorem dX6_isWho_32 : decode cX6_isWho 32 = .ok (.goto 4, 3) := by decide +kernel
theorem dX6_isWho_35 : decode cX6_isWho 35 = .ok (.iconst 0, 1) := by decide +kernel
theorem dX6_isWho_36 : decode cX6_isWho 36 = .ok (.ireturn, 1) := by decide +kernel
set_option maxRecDepth 20000 in
theorem ggX6_whoOf_X6_isWho : GoodIn wsX6_whoOf wsX6_isWho := goodIn_r _ [5, 6, 7, 8, 9, 4, 10, 11, 12, 13, 14, 15, 16, 17, 18, 19, 20, 21, 22, 23, 24, 25, 26, 27, 28, 29, 30, 31] (by decide +kernel) (by decide +kernel)
set_option maxRecDepth 20000 in
theorem gX6_whoOf_X6_isWho : GoodIn wsX6_whoOf (wsV RX6 119 RX6 yX6_isWho wsX6_isWho) := goodIn_app (goodIn_of _ (by decide +kernel)) ggX6_whoOf_X6_isWho
theorem dX6_whoOf_0 : decode cX6_whoOf 0 = .ok (.aload_n 0, 1) := by decide +kernel
theorem dX6_whoOf_1 : decode cX6_whoOf 1 = .ok (.iload_n 1, 1) := by decide +kernel
theorem dX6_whoOf_2 : decode cX6_whoOf 2 = .ok (.iload_n 2, 1) := by decide +kernel
theorem dX6_whoOf_3 : decode cX6_whoOf 3 = .ok (.iconst 1, 1) := by decide +kernel
theorem dX6_whoOf_4 : decode cX6_whoOf 4 = .ok (.iadd, 1) := by decide +kernel
theorem dX6_whoOf_5 : decode cX6_whoOf 5 = .ok (.invokevirtual 119, 3) := by decide +kernel
theorem dX6_whoOf_8 : decode cX6_whoOf 8 = .ok (.ifCond .eq 9, 3) := by decide +kernel
theorem dX6_whoOf_11 : decode cX6_whoOf 11 = .ok (.iload_n 2, 1) := by decide +kernel
theorem dX6_whoOf_12 : decode cX6_whoOf 12 = .ok (.iconst 1, 1) := by decide +kernel
theorem dX6_whoOf_13 : decode cX6_whoOf 13 = .ok (.iadd, 1) := by decide +kernel
theorem dX6_whoOf_14 : decode cX6_whoOf 14 = .ok (.goto 22, 3) := by decide +kernel
theorem dX6_whoOf_17 : decode cX6_whoOf 17 = .ok (.aload_n 0, 1) := by decide +kernel
theorem dX6_whoOf_18 : decode cX6_whoOf 18 = .ok (.iload_n 1, 1) := by decide +kernel
theorem dX6_whoOf_19 : decode cX6_whoOf 19 = .ok (.iload_n 2, 1) := by decide +kernel
theorem dX6_whoOf_20 : decode cX6_whoOf 20 = .ok (.iconst 1, 1) := by decide +kernel
theorem dX6_whoOf_21 : decode cX6_whoOf 21 = .ok (.isub, 1) := by decide +kernel
theorem dX6_whoOf_22 : decode cX6_whoOf 22 = .ok (.invokevirtual 119, 3) := by decide +kernel
theorem dX6_whoOf_25 : decode cX6_whoOf 25 = .ok (.ifCond .eq 9, 3) := by decide +kernel
theorem dX6_whoOf_28 : decode cX6_whoOf 28 = .ok (.iload_n 2, 1) := by decide +kernel
theorem dX6_whoOf_29 : decode cX6_whoOf 29 = .ok (.iconst 1, 1) := by decide +kernel
theorem dX6_whoOf_30 : decode cX6_whoOf 30 = .ok (.isub, 1) := by decide +kernel
theorem dX6_whoOf_31 : decode cX6_whoOf 31 = .ok (.goto 5, 3) := by decide +kernel
theorem dX6_whoOf_34 : decode cX6_whoOf 34 = .ok (.bipush (-9), 2) := by decide +kernel
theorem dX6_whoOf_36 : decode cX6_whoOf 36 = .ok (.ireturn, 1) := by decide +kernel
set_option maxRecDepth 20000 in
theorem ggX6_counts_X6_isItem : GoodIn wsX6_counts wsX6_isItem := goodIn_r _ [5, 6, 7, 8, 9, 4, 10, 19, 20, 21, 22, 23, 24, 25, 26, 27, 28, 29, 30, 31, 32, 33, 34, 35, 36, 37, 38, 39] (by decide +kernel) (by decide +kernel)
set_option maxRecDepth 20000 in
theorem gX6_counts_X6_isItem : GoodIn wsX6_counts (wsV RX6 122 RX6 yX6_isItem wsX6_isItem) := goodIn_app (goodIn_of _ (by decide +kernel)) ggX6_counts_X6_isItem
set_option maxRecDepth 20000 in
theorem ggX6_counts_X6_whoOf : GoodIn wsX6_counts wsX6_whoOf := goodIn_r _ [14, 15, 16, 17, 4, 18, 6, 7, 8, 9, 10, 19, 20, 21, 22, 23, 24, 25, 26, 27, 28, 29, 30, 31, 32, 33, 34, 35, 36, 37, 38, 39] (by decide +kernel) (by decide +kernel)
set_option maxRecDepth 20000 in
theorem gX6_counts_X6_whoOf : GoodIn wsX6_counts (wsV RX6 125 RX6 yX6_whoOf wsX6_whoOf) := goodIn_app (goodIn_of _ (by decide +kernel)) ggX6_counts_X6_whoOf
theorem dX6_counts_0 : decode cX6_counts 0 = .ok (.aload_n 0, 1) := by decide +kernel
theorem dX6_counts_1 : decode cX6_counts 1 = .ok (.iload_n 1, 1) := by decide +kernel
theorem dX6_counts_2 : decode cX6_counts 2 = .ok (.iload_n 2, 1) := by decide +kernel
theorem dX6_counts_3 : decode cX6_counts 3 = .ok (.iconst 1, 1) := by decide +kernel
theorem dX6_counts_4 : decode cX6_counts 4 = .ok (.invokevirtual 122, 3) := by decide +kernel
theorem dX6_counts_7 : decode cX6_counts 7 = .ok (.ifCond .eq 14, 3) := by decide +kernel
theorem dX6_counts_10 : decode cX6_counts 10 = .ok (.aload_n 0, 1) := by decide +kernel
theorem dX6_counts_11 : decode cX6_counts 11 = .ok (.iload_n 1, 1) := by decide +kernel
theorem dX6_counts_12 : decode cX6_counts 12 = .ok (.iload_n 2, 1) := by decide +kernel
theorem dX6_counts_13 : decode cX6_counts 13 = .ok (.invokevirtual 125, 3) := by decide +kernel
theorem dX6_counts_16 : decode cX6_counts 16 = .ok (.bipush (-9), 2) := by decide +kernel
theorem dX6_counts_18 : decode cX6_counts 18 = .ok (.if_icmp .ne 5, 3) := by decide +kernel
theorem dX6_counts_21 : decode cX6_counts 21 = .ok (.iconst 0, 1) := by decide +kernel
theorem dX6_counts_22 : decode cX6_counts 22 = .ok (.ireturn, 1) := by decide +kernel
theorem dX6_counts_23 : decode cX6_counts 23 = .ok (.aload_n 0, 1) := by decide +kernel
theorem dX6_counts_24 : decode cX6_counts 24 = .ok (.iload_n 1, 1) := by decide +kernel
theorem dX6_counts_25 : decode cX6_counts 25 = .ok (.iload_n 2, 1) := by decide +kernel
theorem dX6_counts_26 : decode cX6_counts 26 = .ok (.invokevirtual 125, 3) := by decide +kernel
theorem dX6_counts_29 : decode cX6_counts 29 = .ok (.iload_n 2, 1) := by decide +kernel
theorem dX6_counts_30 : decode cX6_counts 30 = .ok (.if_icmp .ge 9, 3) := by decide +kernel
theorem dX6_counts_33 : decode cX6_counts 33 = .ok (.iload_n 2, 1) := by decide +kernel
theorem dX6_counts_34 : decode cX6_counts 34 = .ok (.iconst 1, 1) := by decide +kernel
theorem dX6_counts_35 : decode cX6_counts 35 = .ok (.isub, 1) := by decide +kernel
theorem dX6_counts_36 : decode cX6_counts 36 = .ok (.goto 4, 3) := by decide +kernel
theorem dX6_counts_39 : decode cX6_counts 39 = .ok (.iload_n 2, 1) := by decide +kernel
theorem dX6_counts_40 : decode cX6_counts 40 = .ok (.istore_n 3, 1) := by decide +kernel
theorem dX6_counts_41 : decode cX6_counts 41 = .ok (.aload_n 0, 1) := by decide +kernel
theorem dX6_counts_42 : decode cX6_counts 42 = .ok (.iload_n 1, 1) := by decide +kernel
theorem dX6_counts_43 : decode cX6_counts 43 = .ok (.iload_n 3, 1) := by decide +kernel
theorem dX6_counts_44 : decode cX6_counts 44 = .ok (.iconst 1, 1) := by decide +kernel
theorem dX6_counts_45 : decode cX6_counts 45 = .ok (.isub, 1) := by decide +kernel
theorem dX6_counts_46 : decode cX6_counts 46 = .ok (.iconst 0, 1) := by decide +kernel
theorem dX6_counts_47 : decode cX6_counts 47 = .ok (.invokevirtual 122, 3) := by decide +kernel
theorem dX6_counts_50 : decode cX6_counts 50 = .ok (.ifCond .ne 15, 3) := by decide +kernel
theorem dX6_counts_53 : decode cX6_counts 53 = .ok (.aload_n 0, 1) := by decide +kernel
theorem dX6_counts_54 : decode cX6_counts 54 = .ok (.iload_n 1, 1) := by decide +kernel
theorem dX6_counts_55 : decode cX6_counts 55 = .ok (.iload_n 3, 1) := by decide +kernel
theorem dX6_counts_56 : decode cX6_counts 56 = .ok (.iconst 2, 1) := by decide +kernel
theorem dX6_counts_57 : decode cX6_counts 57 = .ok (.iadd, 1) := by decide +kernel
theorem dX6_counts_58 : decode cX6_counts 58 = .ok (.iconst 0, 1) := by decide +kernel
theorem dX6_counts_59 : decode cX6_counts 59 = .ok (.invokevirtual 122, 3) := by decide +kernel
theorem dX6_counts_62 : decode cX6_counts 62 = .ok (.ifCond .eq 7, 3) := by decide +kernel
theorem dX6_counts_65 : decode cX6_counts 65 = .ok (.iconst 1, 1) := by decide +kernel
theorem dX6_counts_66 : decode cX6_counts 66 = .ok (.goto 4, 3) := by decide +kernel
theorem dX6_counts_69 : decode cX6_counts 69 = .ok (.iconst 0, 1) := by decide +kernel
theorem dX6_counts_70 : decode cX6_counts 70 = .ok (.ireturn, 1) := by decide +kernel
set_option maxRecDepth 20000 in
theorem ggX6_manyCounting_X6_counts : GoodIn wsX6_manyCounting wsX6_counts := goodIn_r _ [6, 7, 8, 9, 5, 10, 1, 11, 12, 13, 14, 15, 16, 17, 18, 19, 20, 21, 22, 23, 24, 25, 26, 27, 28, 29, 30, 31, 32, 33, 34, 35, 36, 37, 38, 39, 40, 41, 42, 43] (by decide +kernel) (by decide +kernel)
set_option maxRecDepth 20000 in
theorem gX6_manyCounting_X6_counts : GoodIn wsX6_manyCounting (wsV RX6 128 RX6 yX6_counts wsX6_counts) := goodIn_app (goodIn_of _ (by decide +kernel)) ggX6_manyCounting_X6_counts
theorem dX6_manyCounting_0 : decode cX6_manyCounting 0 = .ok (.iconst 0, 1) := by decide +kernel
theorem dX6_manyCounting_1 : decode cX6_manyCounting 1 = .ok (.istore_n 2, 1) := by decide +kernel
theorem dX6_manyCounting_2 : decode cX6_manyCounting 2 = .ok (.iconst 0, 1) := by decide +kernel
theorem dX6_manyCounting_3 : decode cX6_manyCounting 3 = .ok (.istore_n 3, 1) := by decide +kernel
theorem dX6_manyCounting_4 : decode cX6_manyCounting 4 = .ok (.iload_n 3, 1) := by decide +kernel
theorem dX6_manyCounting_5 : decode cX6_manyCounting 5 = .ok (.aload_n 0, 1) := by decide +kernel
theorem dX6_manyCounting_6 : decode cX6_manyCounting 6 = .ok (.getfield 20, 3) := by decide +kernel
theorem dX6_manyCounting_9 : decode cX6_manyCounting 9 = .ok (.iload_n 1, 1) := by decide +kernel
theorem dX6_manyCounting_10 : decode cX6_manyCounting 10 = .ok (.iaload, 1) := by decide +kernel
theorem dX6_manyCounting_11 : decode cX6_manyCounting 11 = .ok (.if_icmp .ge 26, 3) := by decide +kernel
theorem dX6_manyCounting_14 : decode cX6_manyCounting 14 = .ok (.iload_n 2, 1) := by decide +kernel
theorem dX6_manyCounting_15 : decode cX6_manyCounting 15 = .ok (.aload_n 0, 1) := by decide +kernel
theorem dX6_manyCounting_16 : decode cX6_manyCounting 16 = .ok (.iload_n 1, 1) := by decide +kernel
theorem dX6_manyCounting_17 : decode cX6_manyCounting 17 = .ok (.iload_n 3, 1) := by decide +kernel
theorem dX6_manyCounting_18 : decode cX6_manyCounting 18 = .ok (.invokevirtual 128, 3) := by decide +kernel
theorem dX6_manyCounting_21 : decode cX6_manyCounting 21 = .ok (.ifCond .eq 7, 3) := by decide +kernel
theorem dX6_manyCounting_24 : decode cX6_manyCounting 24 = .ok (.iconst 1, 1) := by decide +kernel
theorem dX6_manyCounting_25 : decode cX6_manyCounting 25 = .ok (.goto 4, 3) := by decide +kernel
theorem dX6_manyCounting_28 : decode cX6_manyCounting 28 = .ok (.iconst 0, 1) := by decide +kernel
theorem dX6_manyCounting_29 : decode cX6_manyCounting 29 = .ok (.iadd, 1) := by decide +kernel
theorem dX6_manyCounting_30 : decode cX6_manyCounting 30 = .ok (.istore_n 2, 1) := by decide +kernel
theorem dX6_manyCounting_31 : decode cX6_manyCounting 31 = .ok (.iinc 3 1, 3) := by decide +kernel
theorem dX6_manyCounting_34 : decode cX6_manyCounting 34 = .ok (.goto (-30), 3) := by decide +kernel
theorem dX6_manyCounting_37 : decode cX6_manyCounting 37 = .ok (.iload_n 2, 1) := by decide +kernel
theorem dX6_manyCounting_38 : decode cX6_manyCounting 38 = .ok (.ireturn, 1) := by decide +kernel
set_option maxRecDepth 20000 in
theorem ggX6_ofParagraph_X6_isParagraph : GoodIn wsX6_ofParagraph wsX6_isParagraph := goodIn_r _ [9, 10, 11, 12, 8, 13, 39, 40, 41, 42, 43, 44, 45, 46, 47, 48, 49, 50, 51, 52, 53, 54, 55, 56, 57, 58, 59] (by decide +kernel) (by decide +kernel)
set_option maxRecDepth 20000 in
theorem gX6_ofParagraph_X6_isParagraph : GoodIn wsX6_ofParagraph (wsV RX6 131 RX6 yX6_isParagraph wsX6_isParagraph) := goodIn_app (goodIn_of _ (by decide +kernel)) ggX6_ofParagraph_X6_isParagraph
set_option maxRecDepth 20000 in
theorem ggX6_ofParagraph_X6_manyOf : GoodIn wsX6_ofParagraph wsX6_manyOf := goodIn_r _ [17, 1, 18, 39, 40, 41, 42, 43, 44, 45, 46, 47, 48, 49, 50, 51, 52, 53, 54, 55, 56, 57, 58, 59] (by decide +kernel) (by decide +kernel)
set_option maxRecDepth 20000 in
theorem gX6_ofParagraph_X6_manyOf : GoodIn wsX6_ofParagraph (wsV RX6 99 RX6 yX6_manyOf wsX6_manyOf) := goodIn_app (goodIn_of _ (by decide +kernel)) ggX6_ofParagraph_X6_manyOf
set_option maxRecDepth 20000 in
theorem ggX6_ofParagraph_X6_manyCounting : GoodIn wsX6_ofParagraph wsX6_manyCounting := goodIn_r _ [22, 1, 23, 24, 25, 8, 26, 27, 28, 29, 30, 18, 11, 12, 13, 31, 32, 33, 34, 35, 36, 37, 38, 39, 40, 41, 42, 43, 44, 45, 46, 47, 48, 49, 50, 51, 52, 53, 54, 55, 56, 57, 58, 59] (by decide +kernel) (by decide +kernel)
set_option maxRecDepth 20000 in
theorem gX6_ofParagraph_X6_manyCounting : GoodIn wsX6_ofParagraph (wsV RX6 134 RX6 yX6_manyCounting wsX6_manyCounting) := goodIn_app (goodIn_of _ (by decide +kernel)) ggX6_ofParagraph_X6_manyCounting
theorem dX6_ofParagraph_0 : decode cX6_ofParagraph 0 = .ok (.aload_n 0, 1) := by decide +kernel
theorem dX6_ofParagraph_1 : decode cX6_ofParagraph 1 = .ok (.iload_n 1, 1) := by decide +kernel
theorem dX6_ofParagraph_2 : decode cX6_ofParagraph 2 = .ok (.invokevirtual 131, 3) := by decide +kernel
theorem dX6_ofParagraph_5 : decode cX6_ofParagraph 5 = .ok (.ifCond .ne 5, 3) := by decide +kernel
theorem dX6_ofParagraph_8 : decode cX6_ofParagraph 8 = .ok (.iconst (-1), 1) := by decide +kernel
theorem dX6_ofParagraph_9 : decode cX6_ofParagraph 9 = .ok (.ireturn, 1) := by decide +kernel
theorem dX6_ofParagraph_10 : decode cX6_ofParagraph 10 = .ok (.iload_n 2, 1) := by decide +kernel
theorem dX6_ofParagraph_11 : decode cX6_ofParagraph 11 = .ok (.tableswitch 86 0 5 #[37, 44, 51, 66, 73, 79], 37) := by decide +kernel
theorem dX6_ofParagraph_48 : decode cX6_ofParagraph 48 = .ok (.aload_n 0, 1) := by decide +kernel
theorem dX6_ofParagraph_49 : decode cX6_ofParagraph 49 = .ok (.getfield 20, 3) := by decide +kernel
theorem dX6_ofParagraph_52 : decode cX6_ofParagraph 52 = .ok (.iload_n 1, 1) := by decide +kernel
theorem dX6_ofParagraph_53 : decode cX6_ofParagraph 53 = .ok (.iaload, 1) := by decide +kernel
theorem dX6_ofParagraph_54 : decode cX6_ofParagraph 54 = .ok (.ireturn, 1) := by decide +kernel
theorem dX6_ofParagraph_55 : decode cX6_ofParagraph 55 = .ok (.aload_n 0, 1) := by decide +kernel
theorem dX6_ofParagraph_56 : decode cX6_ofParagraph 56 = .ok (.iload_n 1, 1) := by decide +kernel
theorem dX6_ofParagraph_57 : decode cX6_ofParagraph 57 = .ok (.iconst 0, 1) := by decide +kernel
theorem dX6_ofParagraph_58 : decode cX6_ofParagraph 58 = .ok (.invokevirtual 99, 3) := by decide +kernel
theorem dX6_ofParagraph_61 : decode cX6_ofParagraph 61 = .ok (.ireturn, 1) := by decide +kernel
theorem dX6_ofParagraph_62 : decode cX6_ofParagraph 62 = .ok (.aload_n 0, 1) := by decide +kernel
theorem dX6_ofParagraph_63 : decode cX6_ofParagraph 63 = .ok (.getfield 29, 3) := by decide +kernel
theorem dX6_ofParagraph_66 : decode cX6_ofParagraph 66 = .ok (.iload_n 1, 1) := by decide +kernel
theorem dX6_ofParagraph_67 : decode cX6_ofParagraph 67 = .ok (.baload, 1) := by decide +kernel
theorem dX6_ofParagraph_68 : decode cX6_ofParagraph 68 = .ok (.ifCond .eq 7, 3) := by decide +kernel
theorem dX6_ofParagraph_71 : decode cX6_ofParagraph 71 = .ok (.iconst 1, 1) := by decide +kernel
theorem dX6_ofParagraph_72 : decode cX6_ofParagraph 72 = .ok (.goto 4, 3) := by decide +kernel
theorem dX6_ofParagraph_75 : decode cX6_ofParagraph 75 = .ok (.iconst 0, 1) := by decide +kernel
theorem dX6_ofParagraph_76 : decode cX6_ofParagraph 76 = .ok (.ireturn, 1) := by decide +kernel
theorem dX6_ofParagraph_77 : decode cX6_ofParagraph 77 = .ok (.aload_n 0, 1) := by decide +kernel
theorem dX6_ofParagraph_78 : decode cX6_ofParagraph 78 = .ok (.getfield 33, 3) := by decide +kernel
theorem dX6_ofParagraph_81 : decode cX6_ofParagraph 81 = .ok (.iload_n 1, 1) := by decide +kernel
theorem dX6_ofParagraph_82 : decode cX6_ofParagraph 82 = .ok (.iaload, 1) := by decide +kernel
theorem dX6_ofParagraph_83 : decode cX6_ofParagraph 83 = .ok (.ireturn, 1) := by decide +kernel
theorem dX6_ofParagraph_84 : decode cX6_ofParagraph 84 = .ok (.aload_n 0, 1) := by decide +kernel
theorem dX6_ofParagraph_85 : decode cX6_ofParagraph 85 = .ok (.iload_n 1, 1) := by decide +kernel
theorem dX6_ofParagraph_86 : decode cX6_ofParagraph 86 = .ok (.invokevirtual 134, 3) := by decide +kernel
theorem dX6_ofParagraph_89 : decode cX6_ofParagraph 89 = .ok (.ireturn, 1) := by decide +kernel
theorem dX6_ofParagraph_90 : decode cX6_ofParagraph 90 = .ok (.aload_n 0, 1) := by decide +kernel
theorem dX6_ofParagraph_91 : decode cX6_ofParagraph 91 = .ok (.getfield 36, 3) := by decide +kernel
theorem dX6_ofParagraph_94 : decode cX6_ofParagraph 94 = .ok (.iload_n 1, 1) := by decide +kernel
theorem dX6_ofParagraph_95 : decode cX6_ofParagraph 95 = .ok (.iaload, 1) := by decide +kernel
theorem dX6_ofParagraph_96 : decode cX6_ofParagraph 96 = .ok (.ireturn, 1) := by decide +kernel
theorem dX6_ofParagraph_97 : decode cX6_ofParagraph 97 = .ok (.bipush (-2), 2) := by decide +kernel
theorem dX6_ofParagraph_99 : decode cX6_ofParagraph 99 = .ok (.ireturn, 1) := by decide +kernel
theorem dX6_ofSort_0 : decode cX6_ofSort 0 = .ok (.iconst 0, 1) := by decide +kernel
theorem dX6_ofSort_1 : decode cX6_ofSort 1 = .ok (.istore_n 2, 1) := by decide +kernel
theorem dX6_ofSort_2 : decode cX6_ofSort 2 = .ok (.iconst 0, 1) := by decide +kernel
theorem dX6_ofSort_3 : decode cX6_ofSort 3 = .ok (.istore_n 3, 1) := by decide +kernel
theorem dX6_ofSort_4 : decode cX6_ofSort 4 = .ok (.iload_n 3, 1) := by decide +kernel
theorem dX6_ofSort_5 : decode cX6_ofSort 5 = .ok (.bipush 8, 2) := by decide +kernel
theorem dX6_ofSort_7 : decode cX6_ofSort 7 = .ok (.if_icmp .ge 29, 3) := by decide +kernel
theorem dX6_ofSort_10 : decode cX6_ofSort 10 = .ok (.iload_n 2, 1) := by decide +kernel
theorem dX6_ofSort_11 : decode cX6_ofSort 11 = .ok (.aload_n 0, 1) := by decide +kernel
theorem dX6_ofSort_12 : decode cX6_ofSort 12 = .ok (.getfield 7, 3) := by decide +kernel
theorem dX6_ofSort_15 : decode cX6_ofSort 15 = .ok (.iload_n 3, 1) := by decide +kernel
theorem dX6_ofSort_16 : decode cX6_ofSort 16 = .ok (.iaload, 1) := by decide +kernel
theorem dX6_ofSort_17 : decode cX6_ofSort 17 = .ok (.iload_n 1, 1) := by decide +kernel
theorem dX6_ofSort_18 : decode cX6_ofSort 18 = .ok (.if_icmp .ne 9, 3) := by decide +kernel
theorem dX6_ofSort_21 : decode cX6_ofSort 21 = .ok (.iconst 1, 1) := by decide +kernel
theorem dX6_ofSort_22 : decode cX6_ofSort 22 = .ok (.iload_n 3, 1) := by decide +kernel
theorem dX6_ofSort_23 : decode cX6_ofSort 23 = .ok (.ishl, 1) := by decide +kernel
theorem dX6_ofSort_24 : decode cX6_ofSort 24 = .ok (.goto 4, 3) := by decide +kernel
theorem dX6_ofSort_27 : decode cX6_ofSort 27 = .ok (.iconst 0, 1) := by decide +kernel
theorem dX6_ofSort_28 : decode cX6_ofSort 28 = .ok (.ior, 1) := by decide +kernel
theorem dX6_ofSort_29 : decode cX6_ofSort 29 = .ok (.istore_n 2, 1) := by decide +kernel
theorem dX6_ofSort_30 : decode cX6_ofSort 30 = .ok (.iinc 3 1, 3) := by decide +kernel
theorem dX6_ofSort_33 : decode cX6_ofSort 33 = .ok (.goto (-29), 3) := by decide +kernel
theorem dX6_ofSort_36 : decode cX6_ofSort 36 = .ok (.iload_n 2, 1) := by decide +kernel
theorem dX6_ofSort_37 : decode cX6_ofSort 37 = .ok (.ireturn, 1) := by decide +kernel
set_option maxRecDepth 20000 in
theorem ggX6_byWho_X6_ofSort : GoodIn wsX6_byWho wsX6_ofSort := goodIn_r _ [7, 8, 9, 10, 11, 12, 13, 14, 15, 16, 17, 18, 19, 20, 21, 22, 23, 24, 25, 26, 27, 28, 29] (by decide +kernel) (by decide +kernel)
set_option maxRecDepth 20000 in
theorem gX6_byWho_X6_ofSort : GoodIn wsX6_byWho (wsV RX6 137 RX6 yX6_ofSort wsX6_ofSort) := goodIn_app (goodIn_of _ (by decide +kernel)) ggX6_byWho_X6_ofSort
theorem dX6_byWho_0 : decode cX6_byWho 0 = .ok (.aload_n 0, 1) := by decide +kernel
theorem dX6_byWho_1 : decode cX6_byWho 1 = .ok (.getfield 23, 3) := by decide +kernel
theorem dX6_byWho_4 : decode cX6_byWho 4 = .ok (.bipush 12, 2) := by decide +kernel
theorem dX6_byWho_6 : decode cX6_byWho 6 = .ok (.iload_n 1, 1) := by decide +kernel
theorem dX6_byWho_7 : decode cX6_byWho 7 = .ok (.imul, 1) := by decide +kernel
theorem dX6_byWho_8 : decode cX6_byWho 8 = .ok (.iload_n 2, 1) := by decide +kernel
theorem dX6_byWho_9 : decode cX6_byWho 9 = .ok (.iadd, 1) := by decide +kernel
theorem dX6_byWho_10 : decode cX6_byWho 10 = .ok (.iaload, 1) := by decide +kernel
theorem dX6_byWho_11 : decode cX6_byWho 11 = .ok (.istore_n 3, 1) := by decide +kernel
theorem dX6_byWho_12 : decode cX6_byWho 12 = .ok (.iload_n 3, 1) := by decide +kernel
theorem dX6_byWho_13 : decode cX6_byWho 13 = .ok (.iconst 3, 1) := by decide +kernel
theorem dX6_byWho_14 : decode cX6_byWho 14 = .ok (.if_icmp .ne 11, 3) := by decide +kernel
theorem dX6_byWho_17 : decode cX6_byWho 17 = .ok (.aload_n 0, 1) := by decide +kernel
theorem dX6_byWho_18 : decode cX6_byWho 18 = .ok (.iconst 0, 1) := by decide +kernel
theorem dX6_byWho_19 : decode cX6_byWho 19 = .ok (.invokevirtual 137, 3) := by decide +kernel
theorem dX6_byWho_22 : decode cX6_byWho 22 = .ok (.goto 29, 3) := by decide +kernel
theorem dX6_byWho_25 : decode cX6_byWho 25 = .ok (.iload_n 3, 1) := by decide +kernel
theorem dX6_byWho_26 : decode cX6_byWho 26 = .ok (.iconst 4, 1) := by decide +kernel
theorem dX6_byWho_27 : decode cX6_byWho 27 = .ok (.if_icmp .ne 11, 3) := by decide +kernel
theorem dX6_byWho_30 : decode cX6_byWho 30 = .ok (.aload_n 0, 1) := by decide +kernel
theorem dX6_byWho_31 : decode cX6_byWho 31 = .ok (.iconst 1, 1) := by decide +kernel
theorem dX6_byWho_32 : decode cX6_byWho 32 = .ok (.invokevirtual 137, 3) := by decide +kernel
theorem dX6_byWho_35 : decode cX6_byWho 35 = .ok (.goto 16, 3) := by decide +kernel
theorem dX6_byWho_38 : decode cX6_byWho 38 = .ok (.iconst 1, 1) := by decide +kernel
theorem dX6_byWho_39 : decode cX6_byWho 39 = .ok (.aload_n 0, 1) := by decide +kernel
theorem dX6_byWho_40 : decode cX6_byWho 40 = .ok (.getfield 26, 3) := by decide +kernel
theorem dX6_byWho_43 : decode cX6_byWho 43 = .ok (.bipush 12, 2) := by decide +kernel
theorem dX6_byWho_45 : decode cX6_byWho 45 = .ok (.iload_n 1, 1) := by decide +kernel
theorem dX6_byWho_46 : decode cX6_byWho 46 = .ok (.imul, 1) := by decide +kernel
theorem dX6_byWho_47 : decode cX6_byWho 47 = .ok (.iload_n 2, 1) := by decide +kernel
theorem dX6_byWho_48 : decode cX6_byWho 48 = .ok (.iadd, 1) := by decide +kernel
theorem dX6_byWho_49 : decode cX6_byWho 49 = .ok (.iaload, 1) := by decide +kernel
theorem dX6_byWho_50 : decode cX6_byWho 50 = .ok (.ishl, 1) := by decide +kernel
theorem dX6_byWho_51 : decode cX6_byWho 51 = .ok (.ireturn, 1) := by decide +kernel
set_option maxRecDepth 20000 in
theorem ggX6_ownOf_X6_there : GoodIn wsX6_ownOf wsX6_there := goodIn_r _ [10, 11, 47, 48, 49, 50, 51, 52, 53, 54, 55, 56, 57, 58, 59, 60, 61, 62, 63, 64, 65, 66, 67] (by decide +kernel) (by decide +kernel)
set_option maxRecDepth 20000 in
theorem gX6_ownOf_X6_there : GoodIn wsX6_ownOf (wsV RX6 92 RX6 yX6_there wsX6_there) := goodIn_app (goodIn_of _ (by decide +kernel)) ggX6_ownOf_X6_there
set_option maxRecDepth 20000 in
theorem ggX6_ownOf_X6_isItem : GoodIn wsX6_ownOf wsX6_isItem := goodIn_r _ [15, 2, 16, 17, 18, 9, 19, 47, 48, 49, 50, 51, 52, 53, 54, 55, 56, 57, 58, 59, 60, 61, 62, 63, 64, 65, 66, 67] (by decide +kernel) (by decide +kernel)
set_option maxRecDepth 20000 in
theorem gX6_ownOf_X6_isItem : GoodIn wsX6_ownOf (wsV RX6 122 RX6 yX6_isItem wsX6_isItem) := goodIn_app (goodIn_of _ (by decide +kernel)) ggX6_ownOf_X6_isItem
set_option maxRecDepth 20000 in
theorem ggX6_ownOf_X6_has : GoodIn wsX6_ownOf wsX6_has := goodIn_r _ [22] (by decide +kernel) (by decide +kernel)
set_option maxRecDepth 20000 in
theorem gX6_ownOf_X6_has : GoodIn wsX6_ownOf (va_wsS RX6 85 yX6_has wsX6_has) := goodIn_app (goodIn_of _ (by decide +kernel)) ggX6_ownOf_X6_has
set_option maxRecDepth 20000 in
theorem ggX6_ownOf_X6_counts : GoodIn wsX6_ownOf wsX6_counts := goodIn_r _ [26, 12, 13, 14, 9, 15, 2, 16, 17, 18, 19, 27, 28, 29, 30, 31, 32, 33, 34, 47, 48, 49, 50, 51, 52, 53, 54, 55, 56, 57, 58, 59, 60, 61, 62, 63, 64, 65, 66, 67] (by decide +kernel) (by decide +kernel)
set_option maxRecDepth 20000 in
theorem gX6_ownOf_X6_counts : GoodIn wsX6_ownOf (wsV RX6 128 RX6 yX6_counts wsX6_counts) := goodIn_app (goodIn_of _ (by decide +kernel)) ggX6_ownOf_X6_counts
set_option maxRecDepth 20000 in
theorem ggX6_ownOf_X6_whoOf : GoodIn wsX6_ownOf wsX6_whoOf := goodIn_r _ [30, 31, 32, 33, 9, 34, 2, 16, 17, 18, 19, 47, 48, 49, 50, 51, 52, 53, 54, 55, 56, 57, 58, 59, 60, 61, 62, 63, 64, 65, 66, 67] (by decide +kernel) (by decide +kernel)
set_option maxRecDepth 20000 in
theorem gX6_ownOf_X6_whoOf : GoodIn wsX6_ownOf (wsV RX6 125 RX6 yX6_whoOf wsX6_whoOf) := goodIn_app (goodIn_of _ (by decide +kernel)) ggX6_ownOf_X6_whoOf
set_option maxRecDepth 20000 in
theorem ggX6_ownOf_X6_byWho : GoodIn wsX6_ownOf wsX6_byWho := goodIn_r _ [38, 16, 3, 39, 40, 41, 9, 42, 11, 47, 48, 49, 50, 51, 52, 53, 54, 55, 56, 57, 58, 59, 60, 61, 62, 63, 64, 65, 66, 67] (by decide +kernel) (by decide +kernel)
set_option maxRecDepth 20000 in
theorem gX6_ownOf_X6_byWho : GoodIn wsX6_ownOf (wsV RX6 140 RX6 yX6_byWho wsX6_byWho) := goodIn_app (goodIn_of _ (by decide +kernel)) ggX6_ownOf_X6_byWho
set_option maxRecDepth 20000 in
theorem ggX6_ownOf_X6_manyCounting : GoodIn wsX6_ownOf wsX6_manyCounting := goodIn_r _ [46, 2, 23, 24, 25, 9, 26, 12, 13, 14, 15, 16, 17, 18, 19, 27, 28, 29, 30, 31, 32, 33, 34, 47, 48, 49, 50, 51, 52, 53, 54, 55, 56, 57, 58, 59, 60, 61, 62, 63, 64, 65, 66, 67] (by decide +kernel) (by decide +kernel)
set_option maxRecDepth 20000 in
theorem gX6_ownOf_X6_manyCounting : GoodIn wsX6_ownOf (wsV RX6 134 RX6 yX6_manyCounting wsX6_manyCounting) := goodIn_app (goodIn_of _ (by decide +kernel)) ggX6_ownOf_X6_manyCounting
theorem dX6_ownOf_0 : decode cX6_ownOf 0 = .ok (.aload_n 0, 1) := by decide +kernel
theorem dX6_ownOf_1 : decode cX6_ownOf 1 = .ok (.getfield 33, 3) := by decide +kernel
theorem dX6_ownOf_4 : decode cX6_ownOf 4 = .ok (.iload_n 1, 1) := by decide +kernel
theorem dX6_ownOf_5 : decode cX6_ownOf 5 = .ok (.iaload, 1) := by decide +kernel
theorem dX6_ownOf_6 : decode cX6_ownOf 6 = .ok (.aload_n 0, 1) := by decide +kernel
theorem dX6_ownOf_7 : decode cX6_ownOf 7 = .ok (.invokevirtual 92, 3) := by decide +kernel
theorem dX6_ownOf_10 : decode cX6_ownOf 10 = .ok (.iand, 1) := by decide +kernel
theorem dX6_ownOf_11 : decode cX6_ownOf 11 = .ok (.istore_n 2, 1) := by decide +kernel
theorem dX6_ownOf_12 : decode cX6_ownOf 12 = .ok (.iconst 0, 1) := by decide +kernel
theorem dX6_ownOf_13 : decode cX6_ownOf 13 = .ok (.istore_n 3, 1) := by decide +kernel
theorem dX6_ownOf_14 : decode cX6_ownOf 14 = .ok (.iload_n 3, 1) := by decide +kernel
theorem dX6_ownOf_15 : decode cX6_ownOf 15 = .ok (.aload_n 0, 1) := by decide +kernel
theorem dX6_ownOf_16 : decode cX6_ownOf 16 = .ok (.getfield 20, 3) := by decide +kernel
theorem dX6_ownOf_19 : decode cX6_ownOf 19 = .ok (.iload_n 1, 1) := by decide +kernel
theorem dX6_ownOf_20 : decode cX6_ownOf 20 = .ok (.iaload, 1) := by decide +kernel
theorem dX6_ownOf_21 : decode cX6_ownOf 21 = .ok (.if_icmp .ge 122, 3) := by decide +kernel
theorem dX6_ownOf_24 : decode cX6_ownOf 24 = .ok (.aload_n 0, 1) := by decide +kernel
theorem dX6_ownOf_25 : decode cX6_ownOf 25 = .ok (.iload_n 1, 1) := by decide +kernel
theorem dX6_ownOf_26 : decode cX6_ownOf 26 = .ok (.iload_n 3, 1) := by decide +kernel
theorem dX6_ownOf_27 : decode cX6_ownOf 27 = .ok (.iconst 0, 1) := by decide +kernel
theorem dX6_ownOf_28 : decode cX6_ownOf 28 = .ok (.invokevirtual 122, 3) := by decide +kernel
theorem dX6_ownOf_31 : decode cX6_ownOf 31 = .ok (.ifCond .eq 23, 3) := by decide +kernel
theorem dX6_ownOf_34 : decode cX6_ownOf 34 = .ok (.aload_n 0, 1) := by decide +kernel
theorem dX6_ownOf_35 : decode cX6_ownOf 35 = .ok (.getfield 26, 3) := by decide +kernel
theorem dX6_ownOf_38 : decode cX6_ownOf 38 = .ok (.bipush 12, 2) := by decide +kernel
theorem dX6_ownOf_40 : decode cX6_ownOf 40 = .ok (.iload_n 1, 1) := by decide +kernel
theorem dX6_ownOf_41 : decode cX6_ownOf 41 = .ok (.imul, 1) := by decide +kernel
theorem dX6_ownOf_42 : decode cX6_ownOf 42 = .ok (.iload_n 3, 1) := by decide +kernel
theorem dX6_ownOf_43 : decode cX6_ownOf 43 = .ok (.iadd, 1) := by decide +kernel
theorem dX6_ownOf_44 : decode cX6_ownOf 44 = .ok (.iaload, 1) := by decide +kernel
theorem dX6_ownOf_45 : decode cX6_ownOf 45 = .ok (.bipush (-9), 2) := by decide +kernel
theorem dX6_ownOf_47 : decode cX6_ownOf 47 = .ok (.if_icmp .eq 7, 3) := by decide +kernel
theorem dX6_ownOf_50 : decode cX6_ownOf 50 = .ok (.iconst 1, 1) := by decide +kernel
theorem dX6_ownOf_51 : decode cX6_ownOf 51 = .ok (.goto 4, 3) := by decide +kernel
theorem dX6_ownOf_54 : decode cX6_ownOf 54 = .ok (.iconst 0, 1) := by decide +kernel
theorem dX6_ownOf_55 : decode cX6_ownOf 55 = .ok (.istore 4, 2) := by decide +kernel
theorem dX6_ownOf_57 : decode cX6_ownOf 57 = .ok (.iload_n 2, 1) := by decide +kernel
theorem dX6_ownOf_58 : decode cX6_ownOf 58 = .ok (.iload 4, 2) := by decide +kernel
theorem dX6_ownOf_60 : decode cX6_ownOf 60 = .ok (.ifCond .eq 32, 3) := by decide +kernel
theorem dX6_ownOf_63 : decode cX6_ownOf 63 = .ok (.aload_n 0, 1) := by decide +kernel
theorem dX6_ownOf_64 : decode cX6_ownOf 64 = .ok (.getfield 13, 3) := by decide +kernel
theorem dX6_ownOf_67 : decode cX6_ownOf 67 = .ok (.iconst 0, 1) := by decide +kernel
theorem dX6_ownOf_68 : decode cX6_ownOf 68 = .ok (.invokestatic 85, 3) := by decide +kernel
theorem dX6_ownOf_71 : decode cX6_ownOf 71 = .ok (.ifCond .eq 21, 3) := by decide +kernel
theorem dX6_ownOf_74 : decode cX6_ownOf 74 = .ok (.iconst 1, 1) := by decide +kernel
theorem dX6_ownOf_75 : decode cX6_ownOf 75 = .ok (.aload_n 0, 1) := by decide +kernel
theorem dX6_ownOf_76 : decode cX6_ownOf 76 = .ok (.getfield 26, 3) := by decide +kernel
theorem dX6_ownOf_79 : decode cX6_ownOf 79 = .ok (.bipush 12, 2) := by decide +kernel
theorem dX6_ownOf_81 : decode cX6_ownOf 81 = .ok (.iload_n 1, 1) := by decide +kernel
theorem dX6_ownOf_82 : decode cX6_ownOf 82 = .ok (.imul, 1) := by decide +kernel
theorem dX6_ownOf_83 : decode cX6_ownOf 83 = .ok (.iload_n 3, 1) := by decide +kernel
theorem dX6_ownOf_84 : decode cX6_ownOf 84 = .ok (.iadd, 1) := by decide +kernel
theorem dX6_ownOf_85 : decode cX6_ownOf 85 = .ok (.iaload, 1) := by decide +kernel
theorem dX6_ownOf_86 : decode cX6_ownOf 86 = .ok (.ishl, 1) := by decide +kernel
theorem dX6_ownOf_87 : decode cX6_ownOf 87 = .ok (.iconst (-1), 1) := by decide +kernel
theorem dX6_ownOf_88 : decode cX6_ownOf 88 = .ok (.ixor, 1) := by decide +kernel
theorem dX6_ownOf_89 : decode cX6_ownOf 89 = .ok (.goto 6, 3) := by decide +kernel
theorem dX6_ownOf_92 : decode cX6_ownOf 92 = .ok (.sipush 255, 3) := by decide +kernel
theorem dX6_ownOf_95 : decode cX6_ownOf 95 = .ok (.iand, 1) := by decide +kernel
theorem dX6_ownOf_96 : decode cX6_ownOf 96 = .ok (.istore_n 2, 1) := by decide +kernel
theorem dX6_ownOf_97 : decode cX6_ownOf 97 = .ok (.iload_n 2, 1) := by decide +kernel
theorem dX6_ownOf_98 : decode cX6_ownOf 98 = .ok (.aload_n 0, 1) := by decide +kernel
theorem dX6_ownOf_99 : decode cX6_ownOf 99 = .ok (.iload_n 1, 1) := by decide +kernel
theorem dX6_ownOf_100 : decode cX6_ownOf 100 = .ok (.iload_n 3, 1) := by decide +kernel
theorem dX6_ownOf_101 : decode cX6_ownOf 101 = .ok (.invokevirtual 128, 3) := by decide +kernel
theorem dX6_ownOf_104 : decode cX6_ownOf 104 = .ok (.ifCond .eq 28, 3) := by decide +kernel
theorem dX6_ownOf_107 : decode cX6_ownOf 107 = .ok (.aload_n 0, 1) := by decide +kernel
theorem dX6_ownOf_108 : decode cX6_ownOf 108 = .ok (.getfield 13, 3) := by decide +kernel
theorem dX6_ownOf_111 : decode cX6_ownOf 111 = .ok (.iconst 1, 1) := by decide +kernel
theorem dX6_ownOf_112 : decode cX6_ownOf 112 = .ok (.invokestatic 85, 3) := by decide +kernel
theorem dX6_ownOf_115 : decode cX6_ownOf 115 = .ok (.ifCond .eq 17, 3) := by decide +kernel
theorem dX6_ownOf_118 : decode cX6_ownOf 118 = .ok (.aload_n 0, 1) := by decide +kernel
theorem dX6_ownOf_119 : decode cX6_ownOf 119 = .ok (.iload_n 1, 1) := by decide +kernel
theorem dX6_ownOf_120 : decode cX6_ownOf 120 = .ok (.aload_n 0, 1) := by decide +kernel
theorem dX6_ownOf_121 : decode cX6_ownOf 121 = .ok (.iload_n 1, 1) := by decide +kernel
theorem dX6_ownOf_122 : decode cX6_ownOf 122 = .ok (.iload_n 3, 1) := by decide +kernel
theorem dX6_ownOf_123 : decode cX6_ownOf 123 = .ok (.invokevirtual 125, 3) := by decide +kernel
theorem dX6_ownOf_126 : decode cX6_ownOf 126 = .ok (.invokevirtual 140, 3) := by decide +kernel
theorem dX6_ownOf_129 : decode cX6_ownOf 129 = .ok (.goto 6, 3) := by decide +kernel
theorem dX6_ownOf_132 : decode cX6_ownOf 132 = .ok (.sipush 255, 3) := by decide +kernel
theorem dX6_ownOf_135 : decode cX6_ownOf 135 = .ok (.iand, 1) := by decide +kernel
theorem dX6_ownOf_136 : decode cX6_ownOf 136 = .ok (.istore_n 2, 1) := by decide +kernel
theorem dX6_ownOf_137 : decode cX6_ownOf 137 = .ok (.iinc 3 1, 3) := by decide +kernel
theorem dX6_ownOf_140 : decode cX6_ownOf 140 = .ok (.goto (-126), 3) := by decide +kernel
theorem dX6_ownOf_143 : decode cX6_ownOf 143 = .ok (.aload_n 0, 1) := by decide +kernel
theorem dX6_ownOf_144 : decode cX6_ownOf 144 = .ok (.getfield 13, 3) := by decide +kernel
theorem dX6_ownOf_147 : decode cX6_ownOf 147 = .ok (.iconst 2, 1) := by decide +kernel
theorem dX6_ownOf_148 : decode cX6_ownOf 148 = .ok (.invokestatic 85, 3) := by decide +kernel
theorem dX6_ownOf_151 : decode cX6_ownOf 151 = .ok (.ifCond .eq 45, 3) := by decide +kernel
theorem dX6_ownOf_154 : decode cX6_ownOf 154 = .ok (.aload_n 0, 1) := by decide +kernel
theorem dX6_ownOf_155 : decode cX6_ownOf 155 = .ok (.iload_n 1, 1) := by decide +kernel
theorem dX6_ownOf_156 : decode cX6_ownOf 156 = .ok (.invokevirtual 134, 3) := by decide +kernel
theorem dX6_ownOf_159 : decode cX6_ownOf 159 = .ok (.ifCond .ne 37, 3) := by decide +kernel
theorem dX6_ownOf_162 : decode cX6_ownOf 162 = .ok (.aload_n 0, 1) := by decide +kernel
theorem dX6_ownOf_163 : decode cX6_ownOf 163 = .ok (.iload_n 1, 1) := by decide +kernel
theorem dX6_ownOf_164 : decode cX6_ownOf 164 = .ok (.iconst 0, 1) := by decide +kernel
theorem dX6_ownOf_165 : decode cX6_ownOf 165 = .ok (.iconst 5, 1) := by decide +kernel
theorem dX6_ownOf_166 : decode cX6_ownOf 166 = .ok (.invokevirtual 122, 3) := by decide +kernel
theorem dX6_ownOf_169 : decode cX6_ownOf 169 = .ok (.ifCond .eq 27, 3) := by decide +kernel
theorem dX6_ownOf_172 : decode cX6_ownOf 172 = .ok (.aload_n 0, 1) := by decide +kernel
theorem dX6_ownOf_173 : decode cX6_ownOf 173 = .ok (.iload_n 1, 1) := by decide +kernel
theorem dX6_ownOf_174 : decode cX6_ownOf 174 = .ok (.iconst 1, 1) := by decide +kernel
theorem dX6_ownOf_175 : decode cX6_ownOf 175 = .ok (.iconst 2, 1) := by decide +kernel
theorem dX6_ownOf_176 : decode cX6_ownOf 176 = .ok (.invokevirtual 122, 3) := by decide +kernel
theorem dX6_ownOf_179 : decode cX6_ownOf 179 = .ok (.ifCond .eq 17, 3) := by decide +kernel
theorem dX6_ownOf_182 : decode cX6_ownOf 182 = .ok (.iload_n 2, 1) := by decide +kernel
theorem dX6_ownOf_183 : decode cX6_ownOf 183 = .ok (.iconst 1, 1) := by decide +kernel
theorem dX6_ownOf_184 : decode cX6_ownOf 184 = .ok (.aload_n 0, 1) := by decide +kernel
theorem dX6_ownOf_185 : decode cX6_ownOf 185 = .ok (.getfield 26, 3) := by decide +kernel
theorem dX6_ownOf_188 : decode cX6_ownOf 188 = .ok (.bipush 12, 2) := by decide +kernel
theorem dX6_ownOf_190 : decode cX6_ownOf 190 = .ok (.iload_n 1, 1) := by decide +kernel
theorem dX6_ownOf_191 : decode cX6_ownOf 191 = .ok (.imul, 1) := by decide +kernel
theorem dX6_ownOf_192 : decode cX6_ownOf 192 = .ok (.iaload, 1) := by decide +kernel
theorem dX6_ownOf_193 : decode cX6_ownOf 193 = .ok (.ishl, 1) := by decide +kernel
theorem dX6_ownOf_194 : decode cX6_ownOf 194 = .ok (.iand, 1) := by decide +kernel
theorem dX6_ownOf_195 : decode cX6_ownOf 195 = .ok (.istore_n 2, 1) := by decide +kernel
theorem dX6_ownOf_196 : decode cX6_ownOf 196 = .ok (.aload_n 0, 1) := by decide +kernel
theorem dX6_ownOf_197 : decode cX6_ownOf 197 = .ok (.getfield 36, 3) := by decide +kernel
theorem dX6_ownOf_200 : decode cX6_ownOf 200 = .ok (.iload_n 1, 1) := by decide +kernel
theorem dX6_ownOf_201 : decode cX6_ownOf 201 = .ok (.iaload, 1) := by decide +kernel
theorem dX6_ownOf_202 : decode cX6_ownOf 202 = .ok (.bipush (-9), 2) := by decide +kernel
theorem dX6_ownOf_204 : decode cX6_ownOf 204 = .ok (.if_icmp .ne 7, 3) := by decide +kernel
theorem dX6_ownOf_207 : decode cX6_ownOf 207 = .ok (.iload_n 2, 1) := by decide +kernel
theorem dX6_ownOf_208 : decode cX6_ownOf 208 = .ok (.goto 11, 3) := by decide +kernel
theorem dX6_ownOf_211 : decode cX6_ownOf 211 = .ok (.iload_n 2, 1) := by decide +kernel
theorem dX6_ownOf_212 : decode cX6_ownOf 212 = .ok (.aload_n 0, 1) := by decide +kernel
theorem dX6_ownOf_213 : decode cX6_ownOf 213 = .ok (.getfield 36, 3) := by decide +kernel
theorem dX6_ownOf_216 : decode cX6_ownOf 216 = .ok (.iload_n 1, 1) := by decide +kernel
theorem dX6_ownOf_217 : decode cX6_ownOf 217 = .ok (.iaload, 1) := by decide +kernel
theorem dX6_ownOf_218 : decode cX6_ownOf 218 = .ok (.iand, 1) := by decide +kernel
theorem dX6_ownOf_219 : decode cX6_ownOf 219 = .ok (.ireturn, 1) := by decide +kernel
set_option maxRecDepth 20000 in
theorem ggX6_linkAt_X6_speaks : GoodIn wsX6_linkAt wsX6_speaks := goodIn_r _ [8, 9, 10, 11, 7, 12, 13, 14, 18, 19, 20, 21, 22, 23, 24, 25, 26, 27, 28, 29, 30, 31, 32, 33, 34, 35, 36, 37, 38] (by decide +kernel) (by decide +kernel)
set_option maxRecDepth 20000 in
theorem gX6_linkAt_X6_speaks : GoodIn wsX6_linkAt (wsV RX6 78 RX6 yX6_speaks wsX6_speaks) := goodIn_app (goodIn_of _ (by decide +kernel)) ggX6_linkAt_X6_speaks
set_option maxRecDepth 20000 in
theorem ggX6_linkAt_X6_has : GoodIn wsX6_linkAt wsX6_has := goodIn_r _ [17] (by decide +kernel) (by decide +kernel)
set_option maxRecDepth 20000 in
theorem gX6_linkAt_X6_has : GoodIn wsX6_linkAt (va_wsS RX6 85 yX6_has wsX6_has) := goodIn_app (goodIn_of _ (by decide +kernel)) ggX6_linkAt_X6_has
theorem dX6_linkAt_0 : decode cX6_linkAt 0 = .ok (.iload_n 1, 1) := by decide +kernel
theorem dX6_linkAt_1 : decode cX6_linkAt 1 = .ok (.iconst 1, 1) := by decide +kernel
theorem dX6_linkAt_2 : decode cX6_linkAt 2 = .ok (.if_icmp .lt 29, 3) := by decide +kernel
theorem dX6_linkAt_5 : decode cX6_linkAt 5 = .ok (.iload_n 1, 1) := by decide +kernel
theorem dX6_linkAt_6 : decode cX6_linkAt 6 = .ok (.aload_n 0, 1) := by decide +kernel
theorem dX6_linkAt_7 : decode cX6_linkAt 7 = .ok (.getfield 68, 3) := by decide +kernel
theorem dX6_linkAt_10 : decode cX6_linkAt 10 = .ok (.if_icmp .ge 21, 3) := by decide +kernel
theorem dX6_linkAt_13 : decode cX6_linkAt 13 = .ok (.aload_n 0, 1) := by decide +kernel
theorem dX6_linkAt_14 : decode cX6_linkAt 14 = .ok (.iload_n 1, 1) := by decide +kernel
theorem dX6_linkAt_15 : decode cX6_linkAt 15 = .ok (.invokevirtual 78, 3) := by decide +kernel
theorem dX6_linkAt_18 : decode cX6_linkAt 18 = .ok (.ifCond .eq 13, 3) := by decide +kernel
theorem dX6_linkAt_21 : decode cX6_linkAt 21 = .ok (.aload_n 0, 1) := by decide +kernel
theorem dX6_linkAt_22 : decode cX6_linkAt 22 = .ok (.iload_n 1, 1) := by decide +kernel
theorem dX6_linkAt_23 : decode cX6_linkAt 23 = .ok (.iconst 1, 1) := by decide +kernel
theorem dX6_linkAt_24 : decode cX6_linkAt 24 = .ok (.isub, 1) := by decide +kernel
theorem dX6_linkAt_25 : decode cX6_linkAt 25 = .ok (.invokevirtual 78, 3) := by decide +kernel
theorem dX6_linkAt_28 : decode cX6_linkAt 28 = .ok (.ifCond .ne 5, 3) := by decide +kernel
theorem dX6_linkAt_31 : decode cX6_linkAt 31 = .ok (.iconst 0, 1) := by decide +kernel
theorem dX6_linkAt_32 : decode cX6_linkAt 32 = .ok (.ireturn, 1) := by decide +kernel
theorem dX6_linkAt_33 : decode cX6_linkAt 33 = .ok (.aload_n 0, 1) := by decide +kernel
theorem dX6_linkAt_34 : decode cX6_linkAt 34 = .ok (.getfield 29, 3) := by decide +kernel
theorem dX6_linkAt_37 : decode cX6_linkAt 37 = .ok (.iload_n 1, 1) := by decide +kernel
theorem dX6_linkAt_38 : decode cX6_linkAt 38 = .ok (.baload, 1) := by decide +kernel
theorem dX6_linkAt_39 : decode cX6_linkAt 39 = .ok (.ifCond .eq 7, 3) := by decide +kernel
theorem dX6_linkAt_42 : decode cX6_linkAt 42 = .ok (.iconst 1, 1) := by decide +kernel
theorem dX6_linkAt_43 : decode cX6_linkAt 43 = .ok (.goto 19, 3) := by decide +kernel
theorem dX6_linkAt_46 : decode cX6_linkAt 46 = .ok (.aload_n 0, 1) := by decide +kernel
theorem dX6_linkAt_47 : decode cX6_linkAt 47 = .ok (.getfield 13, 3) := by decide +kernel
theorem dX6_linkAt_50 : decode cX6_linkAt 50 = .ok (.iconst 3, 1) := by decide +kernel
theorem dX6_linkAt_51 : decode cX6_linkAt 51 = .ok (.invokestatic 85, 3) := by decide +kernel
theorem dX6_linkAt_54 : decode cX6_linkAt 54 = .ok (.ifCond .eq 7, 3) := by decide +kernel
theorem dX6_linkAt_57 : decode cX6_linkAt 57 = .ok (.iconst 2, 1) := by decide +kernel
theorem dX6_linkAt_58 : decode cX6_linkAt 58 = .ok (.goto 4, 3) := by decide +kernel
theorem dX6_linkAt_61 : decode cX6_linkAt 61 = .ok (.iconst 0, 1) := by decide +kernel
theorem dX6_linkAt_62 : decode cX6_linkAt 62 = .ok (.ireturn, 1) := by decide +kernel
set_option maxRecDepth 20000 in
theorem ggX6_link_X6_isParagraph : GoodIn wsX6_link wsX6_isParagraph := goodIn_r _ [5, 6, 7, 8, 4, 9, 29, 30, 31, 32, 33, 34, 35, 36, 37, 38, 39, 40, 41, 42, 43, 44, 45, 46, 47, 48, 49] (by decide +kernel) (by decide +kernel)
set_option maxRecDepth 20000 in
theorem gX6_link_X6_isParagraph : GoodIn wsX6_link (wsV RX6 131 RX6 yX6_isParagraph wsX6_isParagraph) := goodIn_app (goodIn_of _ (by decide +kernel)) ggX6_link_X6_isParagraph
set_option maxRecDepth 20000 in
theorem ggX6_link_X6_linkAt : GoodIn wsX6_link wsX6_linkAt := goodIn_r _ [13, 6, 14, 15, 16, 17, 18, 4, 19, 20, 21, 22, 23, 24, 25, 26, 27, 28, 29, 30, 31, 32, 33, 34, 35, 36, 37, 38, 39, 40, 41, 42, 43, 44, 45, 46, 47, 48, 49] (by decide +kernel) (by decide +kernel)
set_option maxRecDepth 20000 in
theorem gX6_link_X6_linkAt : GoodIn wsX6_link (wsV RX6 143 RX6 yX6_linkAt wsX6_linkAt) := goodIn_app (goodIn_of _ (by decide +kernel)) ggX6_link_X6_linkAt
theorem dX6_link_0 : decode cX6_link 0 = .ok (.aload_n 0, 1) := by decide +kernel
theorem dX6_link_1 : decode cX6_link 1 = .ok (.iload_n 1, 1) := by decide +kernel
theorem dX6_link_2 : decode cX6_link 2 = .ok (.invokevirtual 131, 3) := by decide +kernel
theorem dX6_link_5 : decode cX6_link 5 = .ok (.ifCond .eq 11, 3) := by decide +kernel
theorem dX6_link_8 : decode cX6_link 8 = .ok (.aload_n 0, 1) := by decide +kernel
theorem dX6_link_9 : decode cX6_link 9 = .ok (.iload_n 1, 1) := by decide +kernel
theorem dX6_link_10 : decode cX6_link 10 = .ok (.invokevirtual 143, 3) := by decide +kernel
theorem dX6_link_13 : decode cX6_link 13 = .ok (.goto 4, 3) := by decide +kernel
theorem dX6_link_16 : decode cX6_link 16 = .ok (.iconst (-1), 1) := by decide +kernel
theorem dX6_link_17 : decode cX6_link 17 = .ok (.ireturn, 1) := by decide +kernel
set_option maxRecDepth 20000 in
theorem ggX6_findOwn_X6_speaks : GoodIn wsX6_findOwn wsX6_speaks := goodIn_r _ [7, 8, 9, 10, 6, 11, 12, 13, 61, 62, 63, 64, 65, 66, 67, 68, 69, 70, 71, 72, 73, 74, 75, 76, 77, 78, 79, 80, 81] (by decide +kernel) (by decide +kernel)
set_option maxRecDepth 20000 in
theorem gX6_findOwn_X6_speaks : GoodIn wsX6_findOwn (wsV RX6 78 RX6 yX6_speaks wsX6_speaks) := goodIn_app (goodIn_of _ (by decide +kernel)) ggX6_findOwn_X6_speaks
set_option maxRecDepth 20000 in
theorem ggX6_findOwn_X6_ownOf : GoodIn wsX6_findOwn wsX6_ownOf := goodIn_r _ [17, 18, 12, 19, 20, 21, 22, 23, 24, 6, 25, 26, 27, 28, 29, 30, 13, 31, 32, 33, 34, 35, 36, 37, 38, 39, 40, 41, 42, 43, 44, 45, 46, 47, 48, 49, 50, 51, 52, 53, 54, 55, 56, 57, 58, 59, 60, 61, 62, 63, 64, 65, 66, 67, 68, 69, 70, 71, 72, 73, 74, 75, 76, 77, 78, 79, 80, 81] (by decide +kernel) (by decide +kernel)
set_option maxRecDepth 20000 in
theorem gX6_findOwn_X6_ownOf : GoodIn wsX6_findOwn (wsV RX6 81 RX6 yX6_ownOf wsX6_ownOf) := goodIn_app (goodIn_of _ (by decide +kernel)) ggX6_findOwn_X6_ownOf
theorem dX6_findOwn_0 : decode cX6_findOwn 0 = .ok (.iconst 0, 1) := by decide +kernel
theorem dX6_findOwn_1 : decode cX6_findOwn 1 = .ok (.istore_n 1, 1) := by decide +kernel
theorem dX6_findOwn_2 : decode cX6_findOwn 2 = .ok (.iload_n 1, 1) := by decide +kernel
theorem dX6_findOwn_3 : decode cX6_findOwn 3 = .ok (.aload_n 0, 1) := by decide +kernel
theorem dX6_findOwn_4 : decode cX6_findOwn 4 = .ok (.getfield 68, 3) := by decide +kernel
theorem dX6_findOwn_7 : decode cX6_findOwn 7 = .ok (.if_icmp .ge 32, 3) := by decide +kernel
theorem dX6_findOwn_10 : decode cX6_findOwn 10 = .ok (.aload_n 0, 1) := by decide +kernel
theorem dX6_findOwn_11 : decode cX6_findOwn 11 = .ok (.getfield 39, 3) := by decide +kernel
theorem dX6_findOwn_14 : decode cX6_findOwn 14 = .ok (.iload_n 1, 1) := by decide +kernel
theorem dX6_findOwn_15 : decode cX6_findOwn 15 = .ok (.aload_n 0, 1) := by decide +kernel
theorem dX6_findOwn_16 : decode cX6_findOwn 16 = .ok (.iload_n 1, 1) := by decide +kernel
theorem dX6_findOwn_17 : decode cX6_findOwn 17 = .ok (.invokevirtual 78, 3) := by decide +kernel
theorem dX6_findOwn_20 : decode cX6_findOwn 20 = .ok (.ifCond .eq 11, 3) := by decide +kernel
theorem dX6_findOwn_23 : decode cX6_findOwn 23 = .ok (.aload_n 0, 1) := by decide +kernel
theorem dX6_findOwn_24 : decode cX6_findOwn 24 = .ok (.iload_n 1, 1) := by decide +kernel
theorem dX6_findOwn_25 : decode cX6_findOwn 25 = .ok (.invokevirtual 81, 3) := by decide +kernel
theorem dX6_findOwn_28 : decode cX6_findOwn 28 = .ok (.goto 4, 3) := by decide +kernel
theorem dX6_findOwn_31 : decode cX6_findOwn 31 = .ok (.iconst 0, 1) := by decide +kernel
theorem dX6_findOwn_32 : decode cX6_findOwn 32 = .ok (.iastore, 1) := by decide +kernel
theorem dX6_findOwn_33 : decode cX6_findOwn 33 = .ok (.iinc 1 1, 3) := by decide +kernel
theorem dX6_findOwn_36 : decode cX6_findOwn 36 = .ok (.goto (-34), 3) := by decide +kernel
theorem dX6_findOwn_39 : decode cX6_findOwn 39 = .ok (.return_, 1) := by decide +kernel
set_option maxRecDepth 20000 in
theorem ggX6_by_X6_size : GoodIn wsX6_by wsX6_size := goodIn_r _ [4] (by decide +kernel) (by decide +kernel)
set_option maxRecDepth 20000 in
theorem gX6_by_X6_size : GoodIn wsX6_by (va_wsS RX6 146 yX6_size wsX6_size) := goodIn_app (goodIn_of _ (by decide +kernel)) ggX6_by_X6_size
theorem dX6_by_0 : decode cX6_by 0 = .ok (.iload_n 2, 1) := by decide +kernel
theorem dX6_by_1 : decode cX6_by 1 = .ok (.iconst 1, 1) := by decide +kernel
theorem dX6_by_2 : decode cX6_by 2 = .ok (.if_icmp .ne 7, 3) := by decide +kernel
theorem dX6_by_5 : decode cX6_by 5 = .ok (.iload_n 1, 1) := by decide +kernel
theorem dX6_by_6 : decode cX6_by 6 = .ok (.iload_n 3, 1) := by decide +kernel
theorem dX6_by_7 : decode cX6_by 7 = .ok (.iand, 1) := by decide +kernel
theorem dX6_by_8 : decode cX6_by 8 = .ok (.ireturn, 1) := by decide +kernel
theorem dX6_by_9 : decode cX6_by 9 = .ok (.iload_n 2, 1) := by decide +kernel
theorem dX6_by_10 : decode cX6_by 10 = .ok (.iconst 2, 1) := by decide +kernel
theorem dX6_by_11 : decode cX6_by 11 = .ok (.if_icmp .ne 19, 3) := by decide +kernel
theorem dX6_by_14 : decode cX6_by 14 = .ok (.iload_n 3, 1) := by decide +kernel
theorem dX6_by_15 : decode cX6_by 15 = .ok (.invokestatic 146, 3) := by decide +kernel
theorem dX6_by_18 : decode cX6_by 18 = .ok (.iconst 1, 1) := by decide +kernel
theorem dX6_by_19 : decode cX6_by 19 = .ok (.if_icmp .ne 11, 3) := by decide +kernel
theorem dX6_by_22 : decode cX6_by 22 = .ok (.iload_n 1, 1) := by decide +kernel
theorem dX6_by_23 : decode cX6_by 23 = .ok (.iload_n 3, 1) := by decide +kernel
theorem dX6_by_24 : decode cX6_by 24 = .ok (.iconst (-1), 1) := by decide +kernel
theorem dX6_by_25 : decode cX6_by 25 = .ok (.ixor, 1) := by decide +kernel
theorem dX6_by_26 : decode cX6_by 26 = .ok (.iand, 1) := by decide +kernel
theorem dX6_by_27 : decode cX6_by 27 = .ok (.goto 4, 3) := by decide +kernel
theorem dX6_by_30 : decode cX6_by 30 = .ok (.iload_n 1, 1) := by decide +kernel
theorem dX6_by_31 : decode cX6_by 31 = .ok (.ireturn, 1) := by decide +kernel
set_option maxRecDepth 20000 in
theorem ggX6_narrows_X6_linkAt : GoodIn wsX6_narrows wsX6_linkAt := goodIn_r _ [8, 1, 9, 10, 11, 12, 13, 7, 14, 15, 16, 17, 18, 19, 20, 21, 22, 23, 31, 32, 33, 34, 35, 36, 37, 38, 39, 40, 41, 42, 43, 44, 45, 46, 47, 48, 49, 50, 51] (by decide +kernel) (by decide +kernel)
set_option maxRecDepth 20000 in
theorem gX6_narrows_X6_linkAt : GoodIn wsX6_narrows (wsV RX6 143 RX6 yX6_linkAt wsX6_linkAt) := goodIn_app (goodIn_of _ (by decide +kernel)) ggX6_narrows_X6_linkAt
set_option maxRecDepth 20000 in
theorem ggX6_narrows_X6_by : GoodIn wsX6_narrows wsX6_by := goodIn_r _ [27, 28, 29, 7, 30] (by decide +kernel) (by decide +kernel)
set_option maxRecDepth 20000 in
theorem gX6_narrows_X6_by : GoodIn wsX6_narrows (wsV RX6 149 RX6 yX6_by wsX6_by) := goodIn_app (goodIn_of _ (by decide +kernel)) ggX6_narrows_X6_by
theorem dX6_narrows_0 : decode cX6_narrows 0 = .ok (.iconst 0, 1) := by decide +kernel
theorem dX6_narrows_1 : decode cX6_narrows 1 = .ok (.istore_n 1, 1) := by decide +kernel
theorem dX6_narrows_2 : decode cX6_narrows 2 = .ok (.iconst 0, 1) := by decide +kernel
theorem dX6_narrows_3 : decode cX6_narrows 3 = .ok (.istore_n 2, 1) := by decide +kernel
theorem dX6_narrows_4 : decode cX6_narrows 4 = .ok (.iload_n 2, 1) := by decide +kernel
theorem dX6_narrows_5 : decode cX6_narrows 5 = .ok (.aload_n 0, 1) := by decide +kernel
theorem dX6_narrows_6 : decode cX6_narrows 6 = .ok (.getfield 68, 3) := by decide +kernel
theorem dX6_narrows_9 : decode cX6_narrows 9 = .ok (.if_icmp .ge 116, 3) := by decide +kernel
theorem dX6_narrows_12 : decode cX6_narrows 12 = .ok (.aload_n 0, 1) := by decide +kernel
theorem dX6_narrows_13 : decode cX6_narrows 13 = .ok (.getfield 45, 3) := by decide +kernel
theorem dX6_narrows_16 : decode cX6_narrows 16 = .ok (.iload_n 2, 1) := by decide +kernel
theorem dX6_narrows_17 : decode cX6_narrows 17 = .ok (.aload_n 0, 1) := by decide +kernel
theorem dX6_narrows_18 : decode cX6_narrows 18 = .ok (.aload_n 0, 1) := by decide +kernel
theorem dX6_narrows_19 : decode cX6_narrows 19 = .ok (.getfield 42, 3) := by decide +kernel
theorem dX6_narrows_22 : decode cX6_narrows 22 = .ok (.iload_n 2, 1) := by decide +kernel
theorem dX6_narrows_23 : decode cX6_narrows 23 = .ok (.iaload, 1) := by decide +kernel
theorem dX6_narrows_24 : decode cX6_narrows 24 = .ok (.aload_n 0, 1) := by decide +kernel
theorem dX6_narrows_25 : decode cX6_narrows 25 = .ok (.iload_n 2, 1) := by decide +kernel
theorem dX6_narrows_26 : decode cX6_narrows 26 = .ok (.invokevirtual 143, 3) := by decide +kernel
theorem dX6_narrows_29 : decode cX6_narrows 29 = .ok (.iload_n 2, 1) := by decide +kernel
theorem dX6_narrows_30 : decode cX6_narrows 30 = .ok (.ifCond .le 14, 3) := by decide +kernel
theorem dX6_narrows_33 : decode cX6_narrows 33 = .ok (.aload_n 0, 1) := by decide +kernel
theorem dX6_narrows_34 : decode cX6_narrows 34 = .ok (.getfield 42, 3) := by decide +kernel
theorem dX6_narrows_37 : decode cX6_narrows 37 = .ok (.iload_n 2, 1) := by decide +kernel
theorem dX6_narrows_38 : decode cX6_narrows 38 = .ok (.iconst 1, 1) := by decide +kernel
theorem dX6_narrows_39 : decode cX6_narrows 39 = .ok (.isub, 1) := by decide +kernel
theorem dX6_narrows_40 : decode cX6_narrows 40 = .ok (.iaload, 1) := by decide +kernel
theorem dX6_narrows_41 : decode cX6_narrows 41 = .ok (.goto 4, 3) := by decide +kernel
theorem dX6_narrows_44 : decode cX6_narrows 44 = .ok (.iconst 0, 1) := by decide +kernel
theorem dX6_narrows_45 : decode cX6_narrows 45 = .ok (.invokevirtual 149, 3) := by decide +kernel
theorem dX6_narrows_48 : decode cX6_narrows 48 = .ok (.iastore, 1) := by decide +kernel
theorem dX6_narrows_49 : decode cX6_narrows 49 = .ok (.aload_n 0, 1) := by decide +kernel
theorem dX6_narrows_50 : decode cX6_narrows 50 = .ok (.getfield 45, 3) := by decide +kernel
theorem dX6_narrows_53 : decode cX6_narrows 53 = .ok (.iload_n 2, 1) := by decide +kernel
theorem dX6_narrows_54 : decode cX6_narrows 54 = .ok (.aload_n 0, 1) := by decide +kernel
theorem dX6_narrows_55 : decode cX6_narrows 55 = .ok (.aload_n 0, 1) := by decide +kernel
theorem dX6_narrows_56 : decode cX6_narrows 56 = .ok (.getfield 45, 3) := by decide +kernel
theorem dX6_narrows_59 : decode cX6_narrows 59 = .ok (.iload_n 2, 1) := by decide +kernel
theorem dX6_narrows_60 : decode cX6_narrows 60 = .ok (.iaload, 1) := by decide +kernel
theorem dX6_narrows_61 : decode cX6_narrows 61 = .ok (.aload_n 0, 1) := by decide +kernel
theorem dX6_narrows_62 : decode cX6_narrows 62 = .ok (.iload_n 2, 1) := by decide +kernel
theorem dX6_narrows_63 : decode cX6_narrows 63 = .ok (.iconst 1, 1) := by decide +kernel
theorem dX6_narrows_64 : decode cX6_narrows 64 = .ok (.iadd, 1) := by decide +kernel
theorem dX6_narrows_65 : decode cX6_narrows 65 = .ok (.invokevirtual 143, 3) := by decide +kernel
theorem dX6_narrows_68 : decode cX6_narrows 68 = .ok (.iload_n 2, 1) := by decide +kernel
theorem dX6_narrows_69 : decode cX6_narrows 69 = .ok (.iconst 1, 1) := by decide +kernel
theorem dX6_narrows_70 : decode cX6_narrows 70 = .ok (.iadd, 1) := by decide +kernel
theorem dX6_narrows_71 : decode cX6_narrows 71 = .ok (.aload_n 0, 1) := by decide +kernel
theorem dX6_narrows_72 : decode cX6_narrows 72 = .ok (.getfield 68, 3) := by decide +kernel
theorem dX6_narrows_75 : decode cX6_narrows 75 = .ok (.if_icmp .ge 14, 3) := by decide +kernel
theorem dX6_narrows_78 : decode cX6_narrows 78 = .ok (.aload_n 0, 1) := by decide +kernel
theorem dX6_narrows_79 : decode cX6_narrows 79 = .ok (.getfield 42, 3) := by decide +kernel
theorem dX6_narrows_82 : decode cX6_narrows 82 = .ok (.iload_n 2, 1) := by decide +kernel
theorem dX6_narrows_83 : decode cX6_narrows 83 = .ok (.iconst 1, 1) := by decide +kernel
theorem dX6_narrows_84 : decode cX6_narrows 84 = .ok (.iadd, 1) := by decide +kernel
theorem dX6_narrows_85 : decode cX6_narrows 85 = .ok (.iaload, 1) := by decide +kernel
theorem dX6_narrows_86 : decode cX6_narrows 86 = .ok (.goto 4, 3) := by decide +kernel
theorem dX6_narrows_89 : decode cX6_narrows 89 = .ok (.iconst 0, 1) := by decide +kernel
theorem dX6_narrows_90 : decode cX6_narrows 90 = .ok (.invokevirtual 149, 3) := by decide +kernel
theorem dX6_narrows_93 : decode cX6_narrows 93 = .ok (.iastore, 1) := by decide +kernel
theorem dX6_narrows_94 : decode cX6_narrows 94 = .ok (.iload_n 1, 1) := by decide +kernel
theorem dX6_narrows_95 : decode cX6_narrows 95 = .ok (.ifCond .ne 18, 3) := by decide +kernel
theorem dX6_narrows_98 : decode cX6_narrows 98 = .ok (.aload_n 0, 1) := by decide +kernel
theorem dX6_narrows_99 : decode cX6_narrows 99 = .ok (.getfield 45, 3) := by decide +kernel
theorem dX6_narrows_102 : decode cX6_narrows 102 = .ok (.iload_n 2, 1) := by decide +kernel
theorem dX6_narrows_103 : decode cX6_narrows 103 = .ok (.iaload, 1) := by decide +kernel
theorem dX6_narrows_104 : decode cX6_narrows 104 = .ok (.aload_n 0, 1) := by decide +kernel
theorem dX6_narrows_105 : decode cX6_narrows 105 = .ok (.getfield 42, 3) := by decide +kernel
theorem dX6_narrows_108 : decode cX6_narrows 108 = .ok (.iload_n 2, 1) := by decide +kernel
theorem dX6_narrows_109 : decode cX6_narrows 109 = .ok (.iaload, 1) := by decide +kernel
theorem dX6_narrows_110 : decode cX6_narrows 110 = .ok (.if_icmp .eq 7, 3) := by decide +kernel
theorem dX6_narrows_113 : decode cX6_narrows 113 = .ok (.iconst 1, 1) := by decide +kernel
theorem dX6_narrows_114 : decode cX6_narrows 114 = .ok (.goto 4, 3) := by decide +kernel
theorem dX6_narrows_117 : decode cX6_narrows 117 = .ok (.iconst 0, 1) := by decide +kernel
theorem dX6_narrows_118 : decode cX6_narrows 118 = .ok (.istore_n 1, 1) := by decide +kernel
theorem dX6_narrows_119 : decode cX6_narrows 119 = .ok (.iinc 2 1, 3) := by decide +kernel
theorem dX6_narrows_122 : decode cX6_narrows 122 = .ok (.goto (-118), 3) := by decide +kernel
theorem dX6_narrows_125 : decode cX6_narrows 125 = .ok (.iconst 0, 1) := by decide +kernel
theorem dX6_narrows_126 : decode cX6_narrows 126 = .ok (.istore_n 2, 1) := by decide +kernel
theorem dX6_narrows_127 : decode cX6_narrows 127 = .ok (.iload_n 2, 1) := by decide +kernel
theorem dX6_narrows_128 : decode cX6_narrows 128 = .ok (.aload_n 0, 1) := by decide +kernel
theorem dX6_narrows_129 : decode cX6_narrows 129 = .ok (.getfield 68, 3) := by decide +kernel
theorem dX6_narrows_132 : decode cX6_narrows 132 = .ok (.if_icmp .ge 21, 3) := by decide +kernel
theorem dX6_narrows_135 : decode cX6_narrows 135 = .ok (.aload_n 0, 1) := by decide +kernel
theorem dX6_narrows_136 : decode cX6_narrows 136 = .ok (.getfield 42, 3) := by decide +kernel
theorem dX6_narrows_139 : decode cX6_narrows 139 = .ok (.iload_n 2, 1) := by decide +kernel
theorem dX6_narrows_140 : decode cX6_narrows 140 = .ok (.aload_n 0, 1) := by decide +kernel
theorem dX6_narrows_141 : decode cX6_narrows 141 = .ok (.getfield 45, 3) := by decide +kernel
theorem dX6_narrows_144 : decode cX6_narrows 144 = .ok (.iload_n 2, 1) := by decide +kernel
theorem dX6_narrows_145 : decode cX6_narrows 145 = .ok (.iaload, 1) := by decide +kernel
theorem dX6_narrows_146 : decode cX6_narrows 146 = .ok (.iastore, 1) := by decide +kernel
theorem dX6_narrows_147 : decode cX6_narrows 147 = .ok (.iinc 2 1, 3) := by decide +kernel
theorem dX6_narrows_150 : decode cX6_narrows 150 = .ok (.goto (-23), 3) := by decide +kernel
theorem dX6_narrows_153 : decode cX6_narrows 153 = .ok (.iload_n 1, 1) := by decide +kernel
theorem dX6_narrows_154 : decode cX6_narrows 154 = .ok (.ireturn, 1) := by decide +kernel
set_option maxRecDepth 20000 in
theorem ggX6_findNarrowed_X6_findOwn : GoodIn wsX6_findNarrowed wsX6_findOwn := goodIn_r _ [8, 1, 3, 9, 10, 11, 7, 12, 13, 14, 15, 16, 17, 18, 19, 20, 21, 22, 23, 24, 25, 26, 27, 28, 29, 30, 31, 32, 33, 34, 35, 36, 37, 38, 39, 40, 41, 42, 43, 44, 45, 46, 47, 48, 49, 50, 51, 52, 53, 54, 55, 56, 57, 58, 59, 60, 61, 62, 63, 64, 65, 83, 84, 85, 86, 87, 88, 89, 90, 91, 92, 93, 94, 95, 96, 97, 98, 99, 100, 101, 102, 103] (by decide +kernel) (by decide +kernel)
set_option maxRecDepth 20000 in
theorem gX6_findNarrowed_X6_findOwn : GoodIn wsX6_findNarrowed (wsV RX6 153 RX6 yX6_findOwn wsX6_findOwn) := goodIn_app (goodIn_of _ (by decide +kernel)) ggX6_findNarrowed_X6_findOwn
set_option maxRecDepth 20000 in
theorem ggX6_findNarrowed_X6_narrows : GoodIn wsX6_findNarrowed wsX6_narrows := goodIn_r _ [69, 1, 70, 2, 71, 72, 73, 7, 74, 75, 25, 9, 10, 11, 12, 13, 14, 15, 16, 17, 18, 39, 40, 41, 76, 77, 78, 79, 80, 81, 82, 83, 84, 85, 86, 87, 88, 89, 90, 91, 92, 93, 94, 95, 96, 97, 98, 99, 100, 101, 102, 103] (by decide +kernel) (by decide +kernel)
set_option maxRecDepth 20000 in
theorem gX6_findNarrowed_X6_narrows : GoodIn wsX6_findNarrowed (wsV RX6 156 RX6 yX6_narrows wsX6_narrows) := goodIn_app (goodIn_of _ (by decide +kernel)) ggX6_findNarrowed_X6_narrows
theorem dX6_findNarrowed_0 : decode cX6_findNarrowed 0 = .ok (.aload_n 0, 1) := by decide +kernel
theorem dX6_findNarrowed_1 : decode cX6_findNarrowed 1 = .ok (.invokevirtual 153, 3) := by decide +kernel
theorem dX6_findNarrowed_4 : decode cX6_findNarrowed 4 = .ok (.iconst 0, 1) := by decide +kernel
theorem dX6_findNarrowed_5 : decode cX6_findNarrowed 5 = .ok (.istore_n 1, 1) := by decide +kernel
theorem dX6_findNarrowed_6 : decode cX6_findNarrowed 6 = .ok (.iload_n 1, 1) := by decide +kernel
theorem dX6_findNarrowed_7 : decode cX6_findNarrowed 7 = .ok (.aload_n 0, 1) := by decide +kernel
theorem dX6_findNarrowed_8 : decode cX6_findNarrowed 8 = .ok (.getfield 68, 3) := by decide +kernel
theorem dX6_findNarrowed_11 : decode cX6_findNarrowed 11 = .ok (.if_icmp .ge 21, 3) := by decide +kernel
theorem dX6_findNarrowed_14 : decode cX6_findNarrowed 14 = .ok (.aload_n 0, 1) := by decide +kernel
theorem dX6_findNarrowed_15 : decode cX6_findNarrowed 15 = .ok (.getfield 42, 3) := by decide +kernel
theorem dX6_findNarrowed_18 : decode cX6_findNarrowed 18 = .ok (.iload_n 1, 1) := by decide +kernel
theorem dX6_findNarrowed_19 : decode cX6_findNarrowed 19 = .ok (.aload_n 0, 1) := by decide +kernel
theorem dX6_findNarrowed_20 : decode cX6_findNarrowed 20 = .ok (.getfield 39, 3) := by decide +kernel
theorem dX6_findNarrowed_23 : decode cX6_findNarrowed 23 = .ok (.iload_n 1, 1) := by decide +kernel
theorem dX6_findNarrowed_24 : decode cX6_findNarrowed 24 = .ok (.iaload, 1) := by decide +kernel
theorem dX6_findNarrowed_25 : decode cX6_findNarrowed 25 = .ok (.iastore, 1) := by decide +kernel
theorem dX6_findNarrowed_26 : decode cX6_findNarrowed 26 = .ok (.iinc 1 1, 3) := by decide +kernel
theorem dX6_findNarrowed_29 : decode cX6_findNarrowed 29 = .ok (.goto (-23), 3) := by decide +kernel
theorem dX6_findNarrowed_32 : decode cX6_findNarrowed 32 = .ok (.iconst 1, 1) := by decide +kernel
theorem dX6_findNarrowed_33 : decode cX6_findNarrowed 33 = .ok (.istore_n 1, 1) := by decide +kernel
theorem dX6_findNarrowed_34 : decode cX6_findNarrowed 34 = .ok (.iload_n 1, 1) := by decide +kernel
theorem dX6_findNarrowed_35 : decode cX6_findNarrowed 35 = .ok (.ifCond .eq 11, 3) := by decide +kernel
theorem dX6_findNarrowed_38 : decode cX6_findNarrowed 38 = .ok (.aload_n 0, 1) := by decide +kernel
theorem dX6_findNarrowed_39 : decode cX6_findNarrowed 39 = .ok (.invokevirtual 156, 3) := by decide +kernel
theorem dX6_findNarrowed_42 : decode cX6_findNarrowed 42 = .ok (.istore_n 1, 1) := by decide +kernel
theorem dX6_findNarrowed_43 : decode cX6_findNarrowed 43 = .ok (.goto (-9), 3) := by decide +kernel
theorem dX6_findNarrowed_46 : decode cX6_findNarrowed 46 = .ok (.return_, 1) := by decide +kernel
set_option maxRecDepth 20000 in
theorem ggX6_set_X6_isParagraph : GoodIn wsX6_set wsX6_isParagraph := goodIn_r _ [8, 9, 10, 11, 7, 12, 121, 122, 123, 124, 125, 126, 127, 128, 129, 130, 131, 132, 133, 134, 135, 136, 137, 138, 139, 140, 141] (by decide +kernel) (by decide +kernel)
set_option maxRecDepth 20000 in
theorem gX6_set_X6_isParagraph : GoodIn wsX6_set (wsV RX6 131 RX6 yX6_isParagraph wsX6_isParagraph) := goodIn_app (goodIn_of _ (by decide +kernel)) ggX6_set_X6_isParagraph
set_option maxRecDepth 20000 in
theorem ggX6_set_X6_within : GoodIn wsX6_set wsX6_within := goodIn_r _ [12] (by decide +kernel) (by decide +kernel)
set_option maxRecDepth 20000 in
theorem gX6_set_X6_within : GoodIn wsX6_set (va_wsS RX6 64 yX6_within wsX6_within) := goodIn_app (goodIn_of _ (by decide +kernel)) ggX6_set_X6_within
set_option maxRecDepth 20000 in
theorem ggX6_set_X6_speaks : GoodIn wsX6_set wsX6_speaks := goodIn_r _ [16, 17, 18, 19, 7, 20, 21, 22, 121, 122, 123, 124, 125, 126, 127, 128, 129, 130, 131, 132, 133, 134, 135, 136, 137, 138, 139, 140, 141] (by decide +kernel) (by decide +kernel)
set_option maxRecDepth 20000 in
theorem gX6_set_X6_speaks : GoodIn wsX6_set (wsV RX6 78 RX6 yX6_speaks wsX6_speaks) := goodIn_app (goodIn_of _ (by decide +kernel)) ggX6_set_X6_speaks
set_option maxRecDepth 20000 in
theorem ggX6_set_X6_findNarrowed : GoodIn wsX6_set wsX6_findNarrowed := goodIn_r _ [26, 9, 2, 1, 27, 28, 29, 7, 30, 13, 14, 15, 16, 17, 18, 19, 20, 21, 22, 31, 32, 33, 34, 35, 36, 37, 38, 39, 40, 41, 42, 43, 44, 45, 46, 47, 10, 11, 12, 48, 49, 50, 51, 52, 53, 54, 55, 56, 57, 58, 59, 60, 61, 62, 63, 64, 65, 66, 67, 68, 69, 70, 71, 72, 73, 74, 75, 76, 77, 78, 79, 80, 81, 82, 83, 84, 85, 86, 87, 88, 89, 90, 91, 121, 122, 123, 124, 125, 126, 127, 128, 129, 130, 131, 132, 133, 134, 135, 136, 137, 138, 139, 140, 141] (by decide +kernel) (by decide +kernel)
set_option maxRecDepth 20000 in
theorem gX6_set_X6_findNarrowed : GoodIn wsX6_set (wsV RX6 159 RX6 yX6_findNarrowed wsX6_findNarrowed) := goodIn_app (goodIn_of _ (by decide +kernel)) ggX6_set_X6_findNarrowed
set_option maxRecDepth 20000 in
theorem ggX6_set_X6_findSure : GoodIn wsX6_set wsX6_findSure := goodIn_r _ [95, 9, 3, 96, 97, 98, 7, 99, 27, 28, 29, 30, 1, 13, 14, 15, 16, 17, 18, 19, 20, 21, 22, 31, 32, 33, 34, 35, 36, 37, 38, 39, 40, 41, 42, 43, 44, 45, 46, 47, 10, 11, 12, 48, 49, 50, 51, 52, 53, 54, 55, 56, 57, 58, 59, 60, 61, 62, 63, 64, 65, 66, 67, 68, 69, 70, 71, 72, 73, 74, 100, 101, 102, 103, 104, 80, 81, 82, 83, 84, 105, 106, 107, 108, 109, 110, 111, 112, 113, 114, 115, 116, 117, 118, 119, 120, 121, 122, 123, 124, 125, 126, 127, 128, 129, 130, 131, 132, 133, 134, 135, 136, 137, 138, 139, 140, 141] (by decide +kernel) (by decide +kernel)
set_option maxRecDepth 20000 in
theorem gX6_set_X6_findSure : GoodIn wsX6_set (wsV RX6 162 RX6 yX6_findSure wsX6_findSure) := goodIn_app (goodIn_of _ (by decide +kernel)) ggX6_set_X6_findSure
theorem dX6_set_0 : decode cX6_set 0 = .ok (.aload_n 0, 1) := by decide +kernel
theorem dX6_set_1 : decode cX6_set 1 = .ok (.iload_n 1, 1) := by decide +kernel
theorem dX6_set_2 : decode cX6_set 2 = .ok (.invokevirtual 131, 3) := by decide +kernel
theorem dX6_set_5 : decode cX6_set 5 = .ok (.ifCond .ne 5, 3) := by decide +kernel
theorem dX6_set_8 : decode cX6_set 8 = .ok (.iconst (-1), 1) := by decide +kernel
theorem dX6_set_9 : decode cX6_set 9 = .ok (.ireturn, 1) := by decide +kernel
theorem dX6_set_10 : decode cX6_set 10 = .ok (.iload_n 2, 1) := by decide +kernel
theorem dX6_set_11 : decode cX6_set 11 = .ok (.iconst 0, 1) := by decide +kernel
theorem dX6_set_12 : decode cX6_set 12 = .ok (.iconst 2, 1) := by decide +kernel
theorem dX6_set_13 : decode cX6_set 13 = .ok (.invokestatic 64, 3) := by decide +kernel
theorem dX6_set_16 : decode cX6_set 16 = .ok (.ifCond .ne 6, 3) := by decide +kernel
theorem dX6_set_19 : decode cX6_set 19 = .ok (.bipush (-2), 2) := by decide +kernel
theorem dX6_set_21 : decode cX6_set 21 = .ok (.ireturn, 1) := by decide +kernel
theorem dX6_set_22 : decode cX6_set 22 = .ok (.aload_n 0, 1) := by decide +kernel
theorem dX6_set_23 : decode cX6_set 23 = .ok (.iload_n 1, 1) := by decide +kernel
theorem dX6_set_24 : decode cX6_set 24 = .ok (.invokevirtual 78, 3) := by decide +kernel
theorem dX6_set_27 : decode cX6_set 27 = .ok (.ifCond .ne 6, 3) := by decide +kernel
