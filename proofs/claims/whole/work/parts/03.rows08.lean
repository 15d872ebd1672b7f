theorem dX6_set_30 : decode cX6_set 30 = .ok (.bipush (-9), 2) := by decide +kernel
theorem dX6_set_32 : decode cX6_set 32 = .ok (.ireturn, 1) := by decide +kernel
theorem dX6_set_33 : decode cX6_set 33 = .ok (.aload_n 0, 1) := by decide +kernel
theorem dX6_set_34 : decode cX6_set 34 = .ok (.invokevirtual 159, 3) := by decide +kernel
theorem dX6_set_37 : decode cX6_set 37 = .ok (.aload_n 0, 1) := by decide +kernel
theorem dX6_set_38 : decode cX6_set 38 = .ok (.invokevirtual 162, 3) := by decide +kernel
theorem dX6_set_41 : decode cX6_set 41 = .ok (.iload_n 2, 1) := by decide +kernel
theorem dX6_set_42 : decode cX6_set 42 = .ok (.ifCond .ne 12, 3) := by decide +kernel
theorem dX6_set_45 : decode cX6_set 45 = .ok (.aload_n 0, 1) := by decide +kernel
theorem dX6_set_46 : decode cX6_set 46 = .ok (.getfield 39, 3) := by decide +kernel
theorem dX6_set_49 : decode cX6_set 49 = .ok (.iload_n 1, 1) := by decide +kernel
theorem dX6_set_50 : decode cX6_set 50 = .ok (.iaload, 1) := by decide +kernel
theorem dX6_set_51 : decode cX6_set 51 = .ok (.goto 23, 3) := by decide +kernel
theorem dX6_set_54 : decode cX6_set 54 = .ok (.iload_n 2, 1) := by decide +kernel
theorem dX6_set_55 : decode cX6_set 55 = .ok (.iconst 1, 1) := by decide +kernel
theorem dX6_set_56 : decode cX6_set 56 = .ok (.if_icmp .ne 12, 3) := by decide +kernel
theorem dX6_set_59 : decode cX6_set 59 = .ok (.aload_n 0, 1) := by decide +kernel
theorem dX6_set_60 : decode cX6_set 60 = .ok (.getfield 42, 3) := by decide +kernel
theorem dX6_set_63 : decode cX6_set 63 = .ok (.iload_n 1, 1) := by decide +kernel
theorem dX6_set_64 : decode cX6_set 64 = .ok (.iaload, 1) := by decide +kernel
theorem dX6_set_65 : decode cX6_set 65 = .ok (.goto 9, 3) := by decide +kernel
theorem dX6_set_68 : decode cX6_set 68 = .ok (.aload_n 0, 1) := by decide +kernel
theorem dX6_set_69 : decode cX6_set 69 = .ok (.getfield 58, 3) := by decide +kernel
theorem dX6_set_72 : decode cX6_set 72 = .ok (.iload_n 1, 1) := by decide +kernel
theorem dX6_set_73 : decode cX6_set 73 = .ok (.iaload, 1) := by decide +kernel
theorem dX6_set_74 : decode cX6_set 74 = .ok (.ireturn, 1) := by decide +kernel
set_option maxRecDepth 20000 in
theorem ggX6_hint_X6_isParagraph : GoodIn wsX6_hint wsX6_isParagraph := goodIn_r _ [9, 1, 10, 11, 8, 12, 92, 93, 94, 95, 96, 97, 98, 99, 100, 101, 102, 103, 104, 105, 106, 107, 108, 109, 110, 111, 112] (by decide +kernel) (by decide +kernel)
set_option maxRecDepth 20000 in
theorem gX6_hint_X6_isParagraph : GoodIn wsX6_hint (wsV RX6 131 RX6 yX6_isParagraph wsX6_isParagraph) := goodIn_app (goodIn_of _ (by decide +kernel)) ggX6_hint_X6_isParagraph
set_option maxRecDepth 20000 in
theorem ggX6_hint_X6_within : GoodIn wsX6_hint wsX6_within := goodIn_r _ [12] (by decide +kernel) (by decide +kernel)
set_option maxRecDepth 20000 in
theorem gX6_hint_X6_within : GoodIn wsX6_hint (va_wsS RX6 64 yX6_within wsX6_within) := goodIn_app (goodIn_of _ (by decide +kernel)) ggX6_hint_X6_within
set_option maxRecDepth 20000 in
theorem ggX6_hint_X6_speaks : GoodIn wsX6_hint wsX6_speaks := goodIn_r _ [16, 17, 18, 19, 8, 20, 21, 22, 92, 93, 94, 95, 96, 97, 98, 99, 100, 101, 102, 103, 104, 105, 106, 107, 108, 109, 110, 111, 112] (by decide +kernel) (by decide +kernel)
set_option maxRecDepth 20000 in
theorem gX6_hint_X6_speaks : GoodIn wsX6_hint (wsV RX6 78 RX6 yX6_speaks wsX6_speaks) := goodIn_app (goodIn_of _ (by decide +kernel)) ggX6_hint_X6_speaks
set_option maxRecDepth 20000 in
theorem ggX6_hint_X6_findNarrowed : GoodIn wsX6_hint wsX6_findNarrowed := goodIn_r _ [26, 1, 3, 27, 28, 29, 30, 8, 31, 13, 14, 15, 16, 17, 18, 19, 20, 21, 22, 32, 33, 34, 35, 36, 37, 38, 4, 39, 40, 41, 42, 43, 44, 45, 46, 47, 10, 11, 12, 48, 49, 50, 51, 52, 53, 54, 55, 56, 57, 58, 59, 60, 61, 62, 63, 64, 65, 66, 67, 68, 69, 70, 71, 72, 73, 74, 75, 76, 77, 78, 79, 80, 81, 82, 83, 84, 85, 86, 87, 88, 89, 90, 91, 92, 93, 94, 95, 96, 97, 98, 99, 100, 101, 102, 103, 104, 105, 106, 107, 108, 109, 110, 111, 112] (by decide +kernel) (by decide +kernel)
set_option maxRecDepth 20000 in
theorem gX6_hint_X6_findNarrowed : GoodIn wsX6_hint (wsV RX6 159 RX6 yX6_findNarrowed wsX6_findNarrowed) := goodIn_app (goodIn_of _ (by decide +kernel)) ggX6_hint_X6_findNarrowed
theorem dX6_hint_0 : decode cX6_hint 0 = .ok (.aload_n 0, 1) := by decide +kernel
theorem dX6_hint_1 : decode cX6_hint 1 = .ok (.iload_n 1, 1) := by decide +kernel
theorem dX6_hint_2 : decode cX6_hint 2 = .ok (.invokevirtual 131, 3) := by decide +kernel
theorem dX6_hint_5 : decode cX6_hint 5 = .ok (.ifCond .ne 5, 3) := by decide +kernel
theorem dX6_hint_8 : decode cX6_hint 8 = .ok (.iconst (-1), 1) := by decide +kernel
theorem dX6_hint_9 : decode cX6_hint 9 = .ok (.ireturn, 1) := by decide +kernel
theorem dX6_hint_10 : decode cX6_hint 10 = .ok (.iload_n 2, 1) := by decide +kernel
theorem dX6_hint_11 : decode cX6_hint 11 = .ok (.bipush (-9), 2) := by decide +kernel
theorem dX6_hint_13 : decode cX6_hint 13 = .ok (.if_icmp .eq 17, 3) := by decide +kernel
theorem dX6_hint_16 : decode cX6_hint 16 = .ok (.iload_n 2, 1) := by decide +kernel
theorem dX6_hint_17 : decode cX6_hint 17 = .ok (.iconst 1, 1) := by decide +kernel
theorem dX6_hint_18 : decode cX6_hint 18 = .ok (.sipush 255, 3) := by decide +kernel
theorem dX6_hint_21 : decode cX6_hint 21 = .ok (.invokestatic 64, 3) := by decide +kernel
theorem dX6_hint_24 : decode cX6_hint 24 = .ok (.ifCond .ne 6, 3) := by decide +kernel
theorem dX6_hint_27 : decode cX6_hint 27 = .ok (.bipush (-2), 2) := by decide +kernel
theorem dX6_hint_29 : decode cX6_hint 29 = .ok (.ireturn, 1) := by decide +kernel
theorem dX6_hint_30 : decode cX6_hint 30 = .ok (.aload_n 0, 1) := by decide +kernel
theorem dX6_hint_31 : decode cX6_hint 31 = .ok (.iload_n 1, 1) := by decide +kernel
theorem dX6_hint_32 : decode cX6_hint 32 = .ok (.invokevirtual 78, 3) := by decide +kernel
theorem dX6_hint_35 : decode cX6_hint 35 = .ok (.ifCond .ne 6, 3) := by decide +kernel
theorem dX6_hint_38 : decode cX6_hint 38 = .ok (.bipush (-3), 2) := by decide +kernel
theorem dX6_hint_40 : decode cX6_hint 40 = .ok (.ireturn, 1) := by decide +kernel
theorem dX6_hint_41 : decode cX6_hint 41 = .ok (.aload_n 0, 1) := by decide +kernel
theorem dX6_hint_42 : decode cX6_hint 42 = .ok (.invokevirtual 159, 3) := by decide +kernel
theorem dX6_hint_45 : decode cX6_hint 45 = .ok (.iconst 0, 1) := by decide +kernel
theorem dX6_hint_46 : decode cX6_hint 46 = .ok (.istore_n 3, 1) := by decide +kernel
theorem dX6_hint_47 : decode cX6_hint 47 = .ok (.iload_n 3, 1) := by decide +kernel
theorem dX6_hint_48 : decode cX6_hint 48 = .ok (.aload_n 0, 1) := by decide +kernel
theorem dX6_hint_49 : decode cX6_hint 49 = .ok (.getfield 68, 3) := by decide +kernel
theorem dX6_hint_52 : decode cX6_hint 52 = .ok (.if_icmp .ge 21, 3) := by decide +kernel
theorem dX6_hint_55 : decode cX6_hint 55 = .ok (.aload_n 0, 1) := by decide +kernel
theorem dX6_hint_56 : decode cX6_hint 56 = .ok (.getfield 48, 3) := by decide +kernel
theorem dX6_hint_59 : decode cX6_hint 59 = .ok (.iload_n 3, 1) := by decide +kernel
theorem dX6_hint_60 : decode cX6_hint 60 = .ok (.aload_n 0, 1) := by decide +kernel
theorem dX6_hint_61 : decode cX6_hint 61 = .ok (.getfield 42, 3) := by decide +kernel
theorem dX6_hint_64 : decode cX6_hint 64 = .ok (.iload_n 3, 1) := by decide +kernel
theorem dX6_hint_65 : decode cX6_hint 65 = .ok (.iaload, 1) := by decide +kernel
theorem dX6_hint_66 : decode cX6_hint 66 = .ok (.iastore, 1) := by decide +kernel
theorem dX6_hint_67 : decode cX6_hint 67 = .ok (.iinc 3 1, 3) := by decide +kernel
theorem dX6_hint_70 : decode cX6_hint 70 = .ok (.goto (-23), 3) := by decide +kernel
theorem dX6_hint_73 : decode cX6_hint 73 = .ok (.aload_n 0, 1) := by decide +kernel
theorem dX6_hint_74 : decode cX6_hint 74 = .ok (.getfield 36, 3) := by decide +kernel
theorem dX6_hint_77 : decode cX6_hint 77 = .ok (.iload_n 1, 1) := by decide +kernel
theorem dX6_hint_78 : decode cX6_hint 78 = .ok (.iload_n 2, 1) := by decide +kernel
theorem dX6_hint_79 : decode cX6_hint 79 = .ok (.iastore, 1) := by decide +kernel
theorem dX6_hint_80 : decode cX6_hint 80 = .ok (.aload_n 0, 1) := by decide +kernel
theorem dX6_hint_81 : decode cX6_hint 81 = .ok (.invokevirtual 159, 3) := by decide +kernel
theorem dX6_hint_84 : decode cX6_hint 84 = .ok (.iconst 0, 1) := by decide +kernel
theorem dX6_hint_85 : decode cX6_hint 85 = .ok (.istore_n 3, 1) := by decide +kernel
theorem dX6_hint_86 : decode cX6_hint 86 = .ok (.iconst 0, 1) := by decide +kernel
theorem dX6_hint_87 : decode cX6_hint 87 = .ok (.istore 4, 2) := by decide +kernel
theorem dX6_hint_89 : decode cX6_hint 89 = .ok (.iload 4, 2) := by decide +kernel
theorem dX6_hint_91 : decode cX6_hint 91 = .ok (.aload_n 0, 1) := by decide +kernel
theorem dX6_hint_92 : decode cX6_hint 92 = .ok (.getfield 68, 3) := by decide +kernel
theorem dX6_hint_95 : decode cX6_hint 95 = .ok (.if_icmp .ge 34, 3) := by decide +kernel
theorem dX6_hint_98 : decode cX6_hint 98 = .ok (.iload_n 3, 1) := by decide +kernel
theorem dX6_hint_99 : decode cX6_hint 99 = .ok (.aload_n 0, 1) := by decide +kernel
theorem dX6_hint_100 : decode cX6_hint 100 = .ok (.getfield 42, 3) := by decide +kernel
theorem dX6_hint_103 : decode cX6_hint 103 = .ok (.iload 4, 2) := by decide +kernel
theorem dX6_hint_105 : decode cX6_hint 105 = .ok (.iaload, 1) := by decide +kernel
theorem dX6_hint_106 : decode cX6_hint 106 = .ok (.aload_n 0, 1) := by decide +kernel
theorem dX6_hint_107 : decode cX6_hint 107 = .ok (.getfield 48, 3) := by decide +kernel
theorem dX6_hint_110 : decode cX6_hint 110 = .ok (.iload 4, 2) := by decide +kernel
theorem dX6_hint_112 : decode cX6_hint 112 = .ok (.iaload, 1) := by decide +kernel
theorem dX6_hint_113 : decode cX6_hint 113 = .ok (.if_icmp .eq 7, 3) := by decide +kernel
theorem dX6_hint_116 : decode cX6_hint 116 = .ok (.iconst 1, 1) := by decide +kernel
theorem dX6_hint_117 : decode cX6_hint 117 = .ok (.goto 4, 3) := by decide +kernel
theorem dX6_hint_120 : decode cX6_hint 120 = .ok (.iconst 0, 1) := by decide +kernel
theorem dX6_hint_121 : decode cX6_hint 121 = .ok (.iadd, 1) := by decide +kernel
theorem dX6_hint_122 : decode cX6_hint 122 = .ok (.istore_n 3, 1) := by decide +kernel
theorem dX6_hint_123 : decode cX6_hint 123 = .ok (.iinc 4 1, 3) := by decide +kernel
theorem dX6_hint_126 : decode cX6_hint 126 = .ok (.goto (-37), 3) := by decide +kernel
theorem dX6_hint_129 : decode cX6_hint 129 = .ok (.iload_n 3, 1) := by decide +kernel
theorem dX6_hint_130 : decode cX6_hint 130 = .ok (.ireturn, 1) := by decide +kernel
set_option maxRecDepth 20000 in
theorem ggX6_isAllowed_X6_speaks : GoodIn wsX6_isAllowed wsX6_speaks := goodIn_r _ [6, 7, 8, 9, 5, 10, 11, 12, 16, 17, 18, 19, 20, 21, 22, 23, 24, 25, 26, 27, 28, 29, 30, 31, 32, 33, 34, 35, 36] (by decide +kernel) (by decide +kernel)
set_option maxRecDepth 20000 in
theorem gX6_isAllowed_X6_speaks : GoodIn wsX6_isAllowed (wsV RX6 78 RX6 yX6_speaks wsX6_speaks) := goodIn_app (goodIn_of _ (by decide +kernel)) ggX6_isAllowed_X6_speaks
set_option maxRecDepth 20000 in
theorem ggX6_isAllowed_X6_has : GoodIn wsX6_isAllowed wsX6_has := goodIn_r _ [15] (by decide +kernel) (by decide +kernel)
set_option maxRecDepth 20000 in
theorem gX6_isAllowed_X6_has : GoodIn wsX6_isAllowed (va_wsS RX6 85 yX6_has wsX6_has) := goodIn_app (goodIn_of _ (by decide +kernel)) ggX6_isAllowed_X6_has
theorem dX6_isAllowed_0 : decode cX6_isAllowed 0 = .ok (.aload_n 0, 1) := by decide +kernel
theorem dX6_isAllowed_1 : decode cX6_isAllowed 1 = .ok (.iload_n 2, 1) := by decide +kernel
theorem dX6_isAllowed_2 : decode cX6_isAllowed 2 = .ok (.invokevirtual 78, 3) := by decide +kernel
theorem dX6_isAllowed_5 : decode cX6_isAllowed 5 = .ok (.ifCond .ne 15, 3) := by decide +kernel
theorem dX6_isAllowed_8 : decode cX6_isAllowed 8 = .ok (.iload_n 1, 1) := by decide +kernel
theorem dX6_isAllowed_9 : decode cX6_isAllowed 9 = .ok (.ifCond .ne 7, 3) := by decide +kernel
theorem dX6_isAllowed_12 : decode cX6_isAllowed 12 = .ok (.iconst 1, 1) := by decide +kernel
theorem dX6_isAllowed_13 : decode cX6_isAllowed 13 = .ok (.goto 17, 3) := by decide +kernel
theorem dX6_isAllowed_16 : decode cX6_isAllowed 16 = .ok (.iconst 0, 1) := by decide +kernel
theorem dX6_isAllowed_17 : decode cX6_isAllowed 17 = .ok (.goto 13, 3) := by decide +kernel
theorem dX6_isAllowed_20 : decode cX6_isAllowed 20 = .ok (.aload_n 0, 1) := by decide +kernel
theorem dX6_isAllowed_21 : decode cX6_isAllowed 21 = .ok (.getfield 39, 3) := by decide +kernel
theorem dX6_isAllowed_24 : decode cX6_isAllowed 24 = .ok (.iload_n 2, 1) := by decide +kernel
theorem dX6_isAllowed_25 : decode cX6_isAllowed 25 = .ok (.iaload, 1) := by decide +kernel
theorem dX6_isAllowed_26 : decode cX6_isAllowed 26 = .ok (.iload_n 1, 1) := by decide +kernel
theorem dX6_isAllowed_27 : decode cX6_isAllowed 27 = .ok (.invokestatic 85, 3) := by decide +kernel
theorem dX6_isAllowed_30 : decode cX6_isAllowed 30 = .ok (.ireturn, 1) := by decide +kernel
theorem dX6_may_0 : decode cX6_may 0 = .ok (.iload_n 0, 1) := by decide +kernel
theorem dX6_may_1 : decode cX6_may 1 = .ok (.ifCond .eq 26, 3) := by decide +kernel
theorem dX6_may_4 : decode cX6_may 4 = .ok (.iload_n 0, 1) := by decide +kernel
theorem dX6_may_5 : decode cX6_may 5 = .ok (.iconst 1, 1) := by decide +kernel
theorem dX6_may_6 : decode cX6_may 6 = .ok (.if_icmp .ne 7, 3) := by decide +kernel
theorem dX6_may_9 : decode cX6_may 9 = .ok (.iconst 1, 1) := by decide +kernel
theorem dX6_may_10 : decode cX6_may 10 = .ok (.goto 4, 3) := by decide +kernel
theorem dX6_may_13 : decode cX6_may 13 = .ok (.iconst 0, 1) := by decide +kernel
theorem dX6_may_14 : decode cX6_may 14 = .ok (.iload_n 1, 1) := by decide +kernel
theorem dX6_may_15 : decode cX6_may 15 = .ok (.iload_n 2, 1) := by decide +kernel
theorem dX6_may_16 : decode cX6_may 16 = .ok (.if_icmp .ne 7, 3) := by decide +kernel
theorem dX6_may_19 : decode cX6_may 19 = .ok (.iconst 1, 1) := by decide +kernel
theorem dX6_may_20 : decode cX6_may 20 = .ok (.goto 4, 3) := by decide +kernel
theorem dX6_may_23 : decode cX6_may 23 = .ok (.iconst 0, 1) := by decide +kernel
theorem dX6_may_24 : decode cX6_may 24 = .ok (.if_icmp .ne 7, 3) := by decide +kernel
theorem dX6_may_27 : decode cX6_may 27 = .ok (.iconst 1, 1) := by decide +kernel
theorem dX6_may_28 : decode cX6_may 28 = .ok (.goto 4, 3) := by decide +kernel
theorem dX6_may_31 : decode cX6_may 31 = .ok (.iconst 0, 1) := by decide +kernel
theorem dX6_may_32 : decode cX6_may 32 = .ok (.ireturn, 1) := by decide +kernel
set_option maxRecDepth 20000 in
theorem ggX6_countUp_X6_linkAt : GoodIn wsX6_countUp wsX6_linkAt := goodIn_r _ [6, 7, 8, 9, 10, 11, 12, 5, 13, 14, 15, 16, 17, 18, 19, 20, 21, 22, 31, 32, 33, 34, 35, 36, 37, 38, 39, 40, 41, 42, 43, 44, 45, 46, 47, 48, 49, 50, 51] (by decide +kernel) (by decide +kernel)
set_option maxRecDepth 20000 in
theorem gX6_countUp_X6_linkAt : GoodIn wsX6_countUp (wsV RX6 143 RX6 yX6_linkAt wsX6_linkAt) := goodIn_app (goodIn_of _ (by decide +kernel)) ggX6_countUp_X6_linkAt
set_option maxRecDepth 20000 in
theorem ggX6_countUp_X6_may : GoodIn wsX6_countUp wsX6_may := goodIn_r _ [25] (by decide +kernel) (by decide +kernel)
set_option maxRecDepth 20000 in
theorem gX6_countUp_X6_may : GoodIn wsX6_countUp (va_wsS RX6 165 yX6_may wsX6_may) := goodIn_app (goodIn_of _ (by decide +kernel)) ggX6_countUp_X6_may
set_option maxRecDepth 20000 in
theorem ggX6_countUp_X6_isAllowed : GoodIn wsX6_countUp wsX6_isAllowed := goodIn_r _ [29, 30, 10, 11, 12, 5, 13, 14, 15, 16, 17, 18, 19, 20, 21, 22, 31, 32, 33, 34, 35, 36, 37, 38, 39, 40, 41, 42, 43, 44, 45, 46, 47, 48, 49, 50, 51] (by decide +kernel) (by decide +kernel)
set_option maxRecDepth 20000 in
theorem gX6_countUp_X6_isAllowed : GoodIn wsX6_countUp (wsV RX6 168 RX6 yX6_isAllowed wsX6_isAllowed) := goodIn_app (goodIn_of _ (by decide +kernel)) ggX6_countUp_X6_isAllowed
theorem dX6_countUp_0 : decode cX6_countUp 0 = .ok (.lconst 1, 1) := by decide +kernel
theorem dX6_countUp_1 : decode cX6_countUp 1 = .ok (.lstore_n 3, 1) := by decide +kernel
theorem dX6_countUp_2 : decode cX6_countUp 2 = .ok (.iload_n 1, 1) := by decide +kernel
theorem dX6_countUp_3 : decode cX6_countUp 3 = .ok (.istore 5, 2) := by decide +kernel
theorem dX6_countUp_5 : decode cX6_countUp 5 = .ok (.iload 5, 2) := by decide +kernel
theorem dX6_countUp_7 : decode cX6_countUp 7 = .ok (.iload_n 2, 1) := by decide +kernel
theorem dX6_countUp_8 : decode cX6_countUp 8 = .ok (.if_icmp .gt 148, 3) := by decide +kernel
theorem dX6_countUp_11 : decode cX6_countUp 11 = .ok (.lconst 0, 1) := by decide +kernel
theorem dX6_countUp_12 : decode cX6_countUp 12 = .ok (.lstore_n 3, 1) := by decide +kernel
theorem dX6_countUp_13 : decode cX6_countUp 13 = .ok (.iconst 0, 1) := by decide +kernel
theorem dX6_countUp_14 : decode cX6_countUp 14 = .ok (.istore 6, 2) := by decide +kernel
theorem dX6_countUp_16 : decode cX6_countUp 16 = .ok (.iload 6, 2) := by decide +kernel
theorem dX6_countUp_18 : decode cX6_countUp 18 = .ok (.bipush 8, 2) := by decide +kernel
theorem dX6_countUp_20 : decode cX6_countUp 20 = .ok (.if_icmp .ge 130, 3) := by decide +kernel
theorem dX6_countUp_23 : decode cX6_countUp 23 = .ok (.iload 5, 2) := by decide +kernel
theorem dX6_countUp_25 : decode cX6_countUp 25 = .ok (.iload_n 1, 1) := by decide +kernel
theorem dX6_countUp_26 : decode cX6_countUp 26 = .ok (.if_icmp .ne 7, 3) := by decide +kernel
theorem dX6_countUp_29 : decode cX6_countUp 29 = .ok (.lconst 1, 1) := by decide +kernel
theorem dX6_countUp_30 : decode cX6_countUp 30 = .ok (.goto 4, 3) := by decide +kernel
theorem dX6_countUp_33 : decode cX6_countUp 33 = .ok (.lconst 0, 1) := by decide +kernel
theorem dX6_countUp_34 : decode cX6_countUp 34 = .ok (.lstore 7, 2) := by decide +kernel
theorem dX6_countUp_36 : decode cX6_countUp 36 = .ok (.iconst 0, 1) := by decide +kernel
theorem dX6_countUp_37 : decode cX6_countUp 37 = .ok (.istore 9, 2) := by decide +kernel
theorem dX6_countUp_39 : decode cX6_countUp 39 = .ok (.iload 9, 2) := by decide +kernel
theorem dX6_countUp_41 : decode cX6_countUp 41 = .ok (.bipush 8, 2) := by decide +kernel
theorem dX6_countUp_43 : decode cX6_countUp 43 = .ok (.if_icmp .ge 55, 3) := by decide +kernel
theorem dX6_countUp_46 : decode cX6_countUp 46 = .ok (.iload 5, 2) := by decide +kernel
theorem dX6_countUp_48 : decode cX6_countUp 48 = .ok (.iload_n 1, 1) := by decide +kernel
theorem dX6_countUp_49 : decode cX6_countUp 49 = .ok (.if_icmp .le 49, 3) := by decide +kernel
theorem dX6_countUp_52 : decode cX6_countUp 52 = .ok (.lload 7, 2) := by decide +kernel
theorem dX6_countUp_54 : decode cX6_countUp 54 = .ok (.aload_n 0, 1) := by decide +kernel
theorem dX6_countUp_55 : decode cX6_countUp 55 = .ok (.iload 5, 2) := by decide +kernel
theorem dX6_countUp_57 : decode cX6_countUp 57 = .ok (.invokevirtual 143, 3) := by decide +kernel
theorem dX6_countUp_60 : decode cX6_countUp 60 = .ok (.iload 6, 2) := by decide +kernel
theorem dX6_countUp_62 : decode cX6_countUp 62 = .ok (.iload 9, 2) := by decide +kernel
theorem dX6_countUp_64 : decode cX6_countUp 64 = .ok (.invokestatic 165, 3) := by decide +kernel
theorem dX6_countUp_67 : decode cX6_countUp 67 = .ok (.ifCond .eq 21, 3) := by decide +kernel
theorem dX6_countUp_70 : decode cX6_countUp 70 = .ok (.aload_n 0, 1) := by decide +kernel
theorem dX6_countUp_71 : decode cX6_countUp 71 = .ok (.getfield 51, 3) := by decide +kernel
theorem dX6_countUp_74 : decode cX6_countUp 74 = .ok (.bipush 8, 2) := by decide +kernel
theorem dX6_countUp_76 : decode cX6_countUp 76 = .ok (.iload 5, 2) := by decide +kernel
theorem dX6_countUp_78 : decode cX6_countUp 78 = .ok (.iconst 1, 1) := by decide +kernel
theorem dX6_countUp_79 : decode cX6_countUp 79 = .ok (.isub, 1) := by decide +kernel
theorem dX6_countUp_80 : decode cX6_countUp 80 = .ok (.imul, 1) := by decide +kernel
theorem dX6_countUp_81 : decode cX6_countUp 81 = .ok (.iload 9, 2) := by decide +kernel
theorem dX6_countUp_83 : decode cX6_countUp 83 = .ok (.iadd, 1) := by decide +kernel
theorem dX6_countUp_84 : decode cX6_countUp 84 = .ok (.laload, 1) := by decide +kernel
theorem dX6_countUp_85 : decode cX6_countUp 85 = .ok (.goto 4, 3) := by decide +kernel
theorem dX6_countUp_88 : decode cX6_countUp 88 = .ok (.lconst 0, 1) := by decide +kernel
theorem dX6_countUp_89 : decode cX6_countUp 89 = .ok (.ladd, 1) := by decide +kernel
theorem dX6_countUp_90 : decode cX6_countUp 90 = .ok (.lstore 7, 2) := by decide +kernel
theorem dX6_countUp_92 : decode cX6_countUp 92 = .ok (.iinc 9 1, 3) := by decide +kernel
theorem dX6_countUp_95 : decode cX6_countUp 95 = .ok (.goto (-56), 3) := by decide +kernel
theorem dX6_countUp_98 : decode cX6_countUp 98 = .ok (.aload_n 0, 1) := by decide +kernel
theorem dX6_countUp_99 : decode cX6_countUp 99 = .ok (.getfield 51, 3) := by decide +kernel
theorem dX6_countUp_102 : decode cX6_countUp 102 = .ok (.bipush 8, 2) := by decide +kernel
theorem dX6_countUp_104 : decode cX6_countUp 104 = .ok (.iload 5, 2) := by decide +kernel
theorem dX6_countUp_106 : decode cX6_countUp 106 = .ok (.imul, 1) := by decide +kernel
theorem dX6_countUp_107 : decode cX6_countUp 107 = .ok (.iload 6, 2) := by decide +kernel
theorem dX6_countUp_109 : decode cX6_countUp 109 = .ok (.iadd, 1) := by decide +kernel
theorem dX6_countUp_110 : decode cX6_countUp 110 = .ok (.aload_n 0, 1) := by decide +kernel
theorem dX6_countUp_111 : decode cX6_countUp 111 = .ok (.iload 6, 2) := by decide +kernel
theorem dX6_countUp_113 : decode cX6_countUp 113 = .ok (.iload 5, 2) := by decide +kernel
theorem dX6_countUp_115 : decode cX6_countUp 115 = .ok (.invokevirtual 168, 3) := by decide +kernel
theorem dX6_countUp_118 : decode cX6_countUp 118 = .ok (.ifCond .eq 8, 3) := by decide +kernel
theorem dX6_countUp_121 : decode cX6_countUp 121 = .ok (.lload 7, 2) := by decide +kernel
theorem dX6_countUp_123 : decode cX6_countUp 123 = .ok (.goto 4, 3) := by decide +kernel
theorem dX6_countUp_126 : decode cX6_countUp 126 = .ok (.lconst 0, 1) := by decide +kernel
theorem dX6_countUp_127 : decode cX6_countUp 127 = .ok (.lastore, 1) := by decide +kernel
theorem dX6_countUp_128 : decode cX6_countUp 128 = .ok (.lload_n 3, 1) := by decide +kernel
theorem dX6_countUp_129 : decode cX6_countUp 129 = .ok (.aload_n 0, 1) := by decide +kernel
theorem dX6_countUp_130 : decode cX6_countUp 130 = .ok (.getfield 51, 3) := by decide +kernel
theorem dX6_countUp_133 : decode cX6_countUp 133 = .ok (.bipush 8, 2) := by decide +kernel
theorem dX6_countUp_135 : decode cX6_countUp 135 = .ok (.iload 5, 2) := by decide +kernel
theorem dX6_countUp_137 : decode cX6_countUp 137 = .ok (.imul, 1) := by decide +kernel
theorem dX6_countUp_138 : decode cX6_countUp 138 = .ok (.iload 6, 2) := by decide +kernel
theorem dX6_countUp_140 : decode cX6_countUp 140 = .ok (.iadd, 1) := by decide +kernel
theorem dX6_countUp_141 : decode cX6_countUp 141 = .ok (.laload, 1) := by decide +kernel
theorem dX6_countUp_142 : decode cX6_countUp 142 = .ok (.ladd, 1) := by decide +kernel
theorem dX6_countUp_143 : decode cX6_countUp 143 = .ok (.lstore_n 3, 1) := by decide +kernel
theorem dX6_countUp_144 : decode cX6_countUp 144 = .ok (.iinc 6 1, 3) := by decide +kernel
theorem dX6_countUp_147 : decode cX6_countUp 147 = .ok (.goto (-131), 3) := by decide +kernel
theorem dX6_countUp_150 : decode cX6_countUp 150 = .ok (.iinc 5 1, 3) := by decide +kernel
theorem dX6_countUp_153 : decode cX6_countUp 153 = .ok (.goto (-148), 3) := by decide +kernel
theorem dX6_countUp_156 : decode cX6_countUp 156 = .ok (.lload_n 3, 1) := by decide +kernel
theorem dX6_countUp_157 : decode cX6_countUp 157 = .ok (.lreturn, 1) := by decide +kernel
set_option maxRecDepth 20000 in
theorem ggX6_countDown_X6_linkAt : GoodIn wsX6_countDown wsX6_linkAt := goodIn_r _ [7, 1, 8, 9, 10, 11, 12, 6, 13, 14, 15, 16, 17, 18, 19, 20, 21, 22, 31, 32, 33, 34, 35, 36, 37, 38, 39, 40, 41, 42, 43, 44, 45, 46, 47, 48, 49, 50, 51] (by decide +kernel) (by decide +kernel)
set_option maxRecDepth 20000 in
theorem gX6_countDown_X6_linkAt : GoodIn wsX6_countDown (wsV RX6 143 RX6 yX6_linkAt wsX6_linkAt) := goodIn_app (goodIn_of _ (by decide +kernel)) ggX6_countDown_X6_linkAt
set_option maxRecDepth 20000 in
theorem ggX6_countDown_X6_may : GoodIn wsX6_countDown wsX6_may := goodIn_r _ [25] (by decide +kernel) (by decide +kernel)
set_option maxRecDepth 20000 in
theorem gX6_countDown_X6_may : GoodIn wsX6_countDown (va_wsS RX6 165 yX6_may wsX6_may) := goodIn_app (goodIn_of _ (by decide +kernel)) ggX6_countDown_X6_may
set_option maxRecDepth 20000 in
theorem ggX6_countDown_X6_isAllowed : GoodIn wsX6_countDown wsX6_isAllowed := goodIn_r _ [29, 30, 10, 11, 12, 6, 13, 14, 15, 16, 17, 18, 19, 20, 21, 22, 31, 32, 33, 34, 35, 36, 37, 38, 39, 40, 41, 42, 43, 44, 45, 46, 47, 48, 49, 50, 51] (by decide +kernel) (by decide +kernel)
set_option maxRecDepth 20000 in
theorem gX6_countDown_X6_isAllowed : GoodIn wsX6_countDown (wsV RX6 168 RX6 yX6_isAllowed wsX6_isAllowed) := goodIn_app (goodIn_of _ (by decide +kernel)) ggX6_countDown_X6_isAllowed
theorem dX6_countDown_0 : decode cX6_countDown 0 = .ok (.aload_n 0, 1) := by decide +kernel
theorem dX6_countDown_1 : decode cX6_countDown 1 = .ok (.getfield 68, 3) := by decide +kernel
theorem dX6_countDown_4 : decode cX6_countDown 4 = .ok (.iconst 1, 1) := by decide +kernel
theorem dX6_countDown_5 : decode cX6_countDown 5 = .ok (.isub, 1) := by decide +kernel
theorem dX6_countDown_6 : decode cX6_countDown 6 = .ok (.istore_n 1, 1) := by decide +kernel
theorem dX6_countDown_7 : decode cX6_countDown 7 = .ok (.iload_n 1, 1) := by decide +kernel
theorem dX6_countDown_8 : decode cX6_countDown 8 = .ok (.ifCond .lt 127, 3) := by decide +kernel
theorem dX6_countDown_11 : decode cX6_countDown 11 = .ok (.iconst 0, 1) := by decide +kernel
theorem dX6_countDown_12 : decode cX6_countDown 12 = .ok (.istore_n 2, 1) := by decide +kernel
theorem dX6_countDown_13 : decode cX6_countDown 13 = .ok (.iload_n 2, 1) := by decide +kernel
theorem dX6_countDown_14 : decode cX6_countDown 14 = .ok (.bipush 8, 2) := by decide +kernel
theorem dX6_countDown_16 : decode cX6_countDown 16 = .ok (.if_icmp .ge 113, 3) := by decide +kernel
theorem dX6_countDown_19 : decode cX6_countDown 19 = .ok (.iload_n 1, 1) := by decide +kernel
theorem dX6_countDown_20 : decode cX6_countDown 20 = .ok (.aload_n 0, 1) := by decide +kernel
theorem dX6_countDown_21 : decode cX6_countDown 21 = .ok (.getfield 68, 3) := by decide +kernel
theorem dX6_countDown_24 : decode cX6_countDown 24 = .ok (.iconst 1, 1) := by decide +kernel
theorem dX6_countDown_25 : decode cX6_countDown 25 = .ok (.isub, 1) := by decide +kernel
theorem dX6_countDown_26 : decode cX6_countDown 26 = .ok (.if_icmp .ne 7, 3) := by decide +kernel
theorem dX6_countDown_29 : decode cX6_countDown 29 = .ok (.lconst 1, 1) := by decide +kernel
theorem dX6_countDown_30 : decode cX6_countDown 30 = .ok (.goto 4, 3) := by decide +kernel
theorem dX6_countDown_33 : decode cX6_countDown 33 = .ok (.lconst 0, 1) := by decide +kernel
theorem dX6_countDown_34 : decode cX6_countDown 34 = .ok (.lstore_n 3, 1) := by decide +kernel
theorem dX6_countDown_35 : decode cX6_countDown 35 = .ok (.iconst 0, 1) := by decide +kernel
theorem dX6_countDown_36 : decode cX6_countDown 36 = .ok (.istore 5, 2) := by decide +kernel
theorem dX6_countDown_38 : decode cX6_countDown 38 = .ok (.iload 5, 2) := by decide +kernel
theorem dX6_countDown_40 : decode cX6_countDown 40 = .ok (.bipush 8, 2) := by decide +kernel
theorem dX6_countDown_42 : decode cX6_countDown 42 = .ok (.if_icmp .ge 56, 3) := by decide +kernel
theorem dX6_countDown_45 : decode cX6_countDown 45 = .ok (.iload_n 1, 1) := by decide +kernel
theorem dX6_countDown_46 : decode cX6_countDown 46 = .ok (.aload_n 0, 1) := by decide +kernel
theorem dX6_countDown_47 : decode cX6_countDown 47 = .ok (.getfield 68, 3) := by decide +kernel
theorem dX6_countDown_50 : decode cX6_countDown 50 = .ok (.iconst 1, 1) := by decide +kernel
theorem dX6_countDown_51 : decode cX6_countDown 51 = .ok (.isub, 1) := by decide +kernel
theorem dX6_countDown_52 : decode cX6_countDown 52 = .ok (.if_icmp .ge 46, 3) := by decide +kernel
theorem dX6_countDown_55 : decode cX6_countDown 55 = .ok (.lload_n 3, 1) := by decide +kernel
theorem dX6_countDown_56 : decode cX6_countDown 56 = .ok (.aload_n 0, 1) := by decide +kernel
theorem dX6_countDown_57 : decode cX6_countDown 57 = .ok (.iload_n 1, 1) := by decide +kernel
theorem dX6_countDown_58 : decode cX6_countDown 58 = .ok (.iconst 1, 1) := by decide +kernel
theorem dX6_countDown_59 : decode cX6_countDown 59 = .ok (.iadd, 1) := by decide +kernel
theorem dX6_countDown_60 : decode cX6_countDown 60 = .ok (.invokevirtual 143, 3) := by decide +kernel
theorem dX6_countDown_63 : decode cX6_countDown 63 = .ok (.iload_n 2, 1) := by decide +kernel
theorem dX6_countDown_64 : decode cX6_countDown 64 = .ok (.iload 5, 2) := by decide +kernel
theorem dX6_countDown_66 : decode cX6_countDown 66 = .ok (.invokestatic 165, 3) := by decide +kernel
theorem dX6_countDown_69 : decode cX6_countDown 69 = .ok (.ifCond .eq 20, 3) := by decide +kernel
theorem dX6_countDown_72 : decode cX6_countDown 72 = .ok (.aload_n 0, 1) := by decide +kernel
theorem dX6_countDown_73 : decode cX6_countDown 73 = .ok (.getfield 55, 3) := by decide +kernel
theorem dX6_countDown_76 : decode cX6_countDown 76 = .ok (.bipush 8, 2) := by decide +kernel
theorem dX6_countDown_78 : decode cX6_countDown 78 = .ok (.iload_n 1, 1) := by decide +kernel
theorem dX6_countDown_79 : decode cX6_countDown 79 = .ok (.iconst 1, 1) := by decide +kernel
theorem dX6_countDown_80 : decode cX6_countDown 80 = .ok (.iadd, 1) := by decide +kernel
theorem dX6_countDown_81 : decode cX6_countDown 81 = .ok (.imul, 1) := by decide +kernel
theorem dX6_countDown_82 : decode cX6_countDown 82 = .ok (.iload 5, 2) := by decide +kernel
theorem dX6_countDown_84 : decode cX6_countDown 84 = .ok (.iadd, 1) := by decide +kernel
theorem dX6_countDown_85 : decode cX6_countDown 85 = .ok (.laload, 1) := by decide +kernel
theorem dX6_countDown_86 : decode cX6_countDown 86 = .ok (.goto 4, 3) := by decide +kernel
theorem dX6_countDown_89 : decode cX6_countDown 89 = .ok (.lconst 0, 1) := by decide +kernel
theorem dX6_countDown_90 : decode cX6_countDown 90 = .ok (.ladd, 1) := by decide +kernel
theorem dX6_countDown_91 : decode cX6_countDown 91 = .ok (.lstore_n 3, 1) := by decide +kernel
theorem dX6_countDown_92 : decode cX6_countDown 92 = .ok (.iinc 5 1, 3) := by decide +kernel
theorem dX6_countDown_95 : decode cX6_countDown 95 = .ok (.goto (-57), 3) := by decide +kernel
theorem dX6_countDown_98 : decode cX6_countDown 98 = .ok (.aload_n 0, 1) := by decide +kernel
theorem dX6_countDown_99 : decode cX6_countDown 99 = .ok (.getfield 55, 3) := by decide +kernel
theorem dX6_countDown_102 : decode cX6_countDown 102 = .ok (.bipush 8, 2) := by decide +kernel
theorem dX6_countDown_104 : decode cX6_countDown 104 = .ok (.iload_n 1, 1) := by decide +kernel
theorem dX6_countDown_105 : decode cX6_countDown 105 = .ok (.imul, 1) := by decide +kernel
theorem dX6_countDown_106 : decode cX6_countDown 106 = .ok (.iload_n 2, 1) := by decide +kernel
theorem dX6_countDown_107 : decode cX6_countDown 107 = .ok (.iadd, 1) := by decide +kernel
theorem dX6_countDown_108 : decode cX6_countDown 108 = .ok (.aload_n 0, 1) := by decide +kernel
theorem dX6_countDown_109 : decode cX6_countDown 109 = .ok (.iload_n 2, 1) := by decide +kernel
theorem dX6_countDown_110 : decode cX6_countDown 110 = .ok (.iload_n 1, 1) := by decide +kernel
theorem dX6_countDown_111 : decode cX6_countDown 111 = .ok (.invokevirtual 168, 3) := by decide +kernel
theorem dX6_countDown_114 : decode cX6_countDown 114 = .ok (.ifCond .eq 7, 3) := by decide +kernel
theorem dX6_countDown_117 : decode cX6_countDown 117 = .ok (.lload_n 3, 1) := by decide +kernel
theorem dX6_countDown_118 : decode cX6_countDown 118 = .ok (.goto 4, 3) := by decide +kernel
theorem dX6_countDown_121 : decode cX6_countDown 121 = .ok (.lconst 0, 1) := by decide +kernel
theorem dX6_countDown_122 : decode cX6_countDown 122 = .ok (.lastore, 1) := by decide +kernel
theorem dX6_countDown_123 : decode cX6_countDown 123 = .ok (.iinc 2 1, 3) := by decide +kernel
theorem dX6_countDown_126 : decode cX6_countDown 126 = .ok (.goto (-113), 3) := by decide +kernel
theorem dX6_countDown_129 : decode cX6_countDown 129 = .ok (.iinc 1 (-1), 3) := by decide +kernel
theorem dX6_countDown_132 : decode cX6_countDown 132 = .ok (.goto (-125), 3) := by decide +kernel
theorem dX6_countDown_135 : decode cX6_countDown 135 = .ok (.return_, 1) := by decide +kernel
set_option maxRecDepth 20000 in
theorem ggX6_findWays_X6_findOwn : GoodIn wsX6_findWays wsX6_findOwn := goodIn_r _ [6, 1, 7, 8, 9, 10, 5, 11, 12, 13, 14, 15, 16, 17, 18, 19, 20, 21, 22, 23, 24, 25, 26, 27, 28, 29, 30, 31, 32, 33, 34, 35, 36, 37, 38, 39, 40, 41, 42, 43, 44, 45, 46, 47, 48, 49, 50, 51, 52, 53, 54, 55, 56, 57, 58, 59, 60, 61, 62, 63, 64, 87, 88, 89, 90, 91, 92, 93, 94, 95, 96, 97, 98, 99, 100, 101, 102, 103, 104, 105, 106, 107] (by decide +kernel) (by decide +kernel)
set_option maxRecDepth 20000 in
theorem gX6_findWays_X6_findOwn : GoodIn wsX6_findWays (wsV RX6 153 RX6 yX6_findOwn wsX6_findOwn) := goodIn_app (goodIn_of _ (by decide +kernel)) ggX6_findWays_X6_findOwn
set_option maxRecDepth 20000 in
theorem ggX6_findWays_X6_countDown : GoodIn wsX6_findWays wsX6_countDown := goodIn_r _ [68, 1, 69, 70, 71, 72, 5, 73, 74, 24, 8, 9, 10, 11, 12, 13, 14, 15, 16, 17, 38, 39, 40, 75, 76, 77, 78, 79, 80, 81, 7, 87, 88, 89, 90, 91, 92, 93, 94, 95, 96, 97, 98, 99, 100, 101, 102, 103, 104, 105, 106, 107] (by decide +kernel) (by decide +kernel)
set_option maxRecDepth 20000 in
theorem gX6_findWays_X6_countDown : GoodIn wsX6_findWays (wsV RX6 171 RX6 yX6_countDown wsX6_countDown) := goodIn_app (goodIn_of _ (by decide +kernel)) ggX6_findWays_X6_countDown
set_option maxRecDepth 20000 in
theorem ggX6_findWays_X6_countUp : GoodIn wsX6_findWays wsX6_countUp := goodIn_r _ [85, 86, 70, 71, 72, 5, 73, 1, 74, 24, 8, 9, 10, 11, 12, 13, 14, 15, 16, 17, 38, 39, 40, 75, 76, 77, 78, 79, 80, 81, 7, 87, 88, 89, 90, 91, 92, 93, 94, 95, 96, 97, 98, 99, 100, 101, 102, 103, 104, 105, 106, 107] (by decide +kernel) (by decide +kernel)
set_option maxRecDepth 20000 in
theorem gX6_findWays_X6_countUp : GoodIn wsX6_findWays (wsV RX6 174 RX6 yX6_countUp wsX6_countUp) := goodIn_app (goodIn_of _ (by decide +kernel)) ggX6_findWays_X6_countUp
theorem dX6_findWays_0 : decode cX6_findWays 0 = .ok (.aload_n 0, 1) := by decide +kernel
theorem dX6_findWays_1 : decode cX6_findWays 1 = .ok (.invokevirtual 153, 3) := by decide +kernel
theorem dX6_findWays_4 : decode cX6_findWays 4 = .ok (.aload_n 0, 1) := by decide +kernel
theorem dX6_findWays_5 : decode cX6_findWays 5 = .ok (.invokevirtual 171, 3) := by decide +kernel
theorem dX6_findWays_8 : decode cX6_findWays 8 = .ok (.aload_n 0, 1) := by decide +kernel
theorem dX6_findWays_9 : decode cX6_findWays 9 = .ok (.iconst 0, 1) := by decide +kernel
theorem dX6_findWays_10 : decode cX6_findWays 10 = .ok (.aload_n 0, 1) := by decide +kernel
theorem dX6_findWays_11 : decode cX6_findWays 11 = .ok (.getfield 68, 3) := by decide +kernel
theorem dX6_findWays_14 : decode cX6_findWays 14 = .ok (.iconst 1, 1) := by decide +kernel
theorem dX6_findWays_15 : decode cX6_findWays 15 = .ok (.isub, 1) := by decide +kernel
theorem dX6_findWays_16 : decode cX6_findWays 16 = .ok (.invokevirtual 174, 3) := by decide +kernel
theorem dX6_findWays_19 : decode cX6_findWays 19 = .ok (.lreturn, 1) := by decide +kernel
set_option maxRecDepth 20000 in
theorem ggX6_waysWith_X6_linkAt : GoodIn wsX6_waysWith wsX6_linkAt := goodIn_r _ [8, 1, 9, 10, 11, 12, 13, 7, 14, 15, 16, 17, 18, 19, 20, 21, 22, 23, 27, 28, 29, 30, 31, 32, 33, 34, 35, 36, 37, 38, 39, 40, 41, 42, 43, 44, 45, 46, 47] (by decide +kernel) (by decide +kernel)
set_option maxRecDepth 20000 in
theorem gX6_waysWith_X6_linkAt : GoodIn wsX6_waysWith (wsV RX6 143 RX6 yX6_linkAt wsX6_linkAt) := goodIn_app (goodIn_of _ (by decide +kernel)) ggX6_waysWith_X6_linkAt
set_option maxRecDepth 20000 in
theorem ggX6_waysWith_X6_may : GoodIn wsX6_waysWith wsX6_may := goodIn_r _ [26] (by decide +kernel) (by decide +kernel)
set_option maxRecDepth 20000 in
theorem gX6_waysWith_X6_may : GoodIn wsX6_waysWith (va_wsS RX6 165 yX6_may wsX6_may) := goodIn_app (goodIn_of _ (by decide +kernel)) ggX6_waysWith_X6_may
theorem dX6_waysWith_0 : decode cX6_waysWith 0 = .ok (.lconst 1, 1) := by decide +kernel
theorem dX6_waysWith_1 : decode cX6_waysWith 1 = .ok (.lstore_n 3, 1) := by decide +kernel
theorem dX6_waysWith_2 : decode cX6_waysWith 2 = .ok (.iload_n 1, 1) := by decide +kernel
theorem dX6_waysWith_3 : decode cX6_waysWith 3 = .ok (.iconst 1, 1) := by decide +kernel
theorem dX6_waysWith_4 : decode cX6_waysWith 4 = .ok (.iadd, 1) := by decide +kernel
theorem dX6_waysWith_5 : decode cX6_waysWith 5 = .ok (.aload_n 0, 1) := by decide +kernel
theorem dX6_waysWith_6 : decode cX6_waysWith 6 = .ok (.getfield 68, 3) := by decide +kernel
theorem dX6_waysWith_9 : decode cX6_waysWith 9 = .ok (.if_icmp .ge 58, 3) := by decide +kernel
theorem dX6_waysWith_12 : decode cX6_waysWith 12 = .ok (.lconst 0, 1) := by decide +kernel
theorem dX6_waysWith_13 : decode cX6_waysWith 13 = .ok (.lstore_n 3, 1) := by decide +kernel
theorem dX6_waysWith_14 : decode cX6_waysWith 14 = .ok (.iconst 0, 1) := by decide +kernel
theorem dX6_waysWith_15 : decode cX6_waysWith 15 = .ok (.istore 5, 2) := by decide +kernel
theorem dX6_waysWith_17 : decode cX6_waysWith 17 = .ok (.iload 5, 2) := by decide +kernel
theorem dX6_waysWith_19 : decode cX6_waysWith 19 = .ok (.bipush 8, 2) := by decide +kernel
theorem dX6_waysWith_21 : decode cX6_waysWith 21 = .ok (.if_icmp .ge 46, 3) := by decide +kernel
theorem dX6_waysWith_24 : decode cX6_waysWith 24 = .ok (.lload_n 3, 1) := by decide +kernel
theorem dX6_waysWith_25 : decode cX6_waysWith 25 = .ok (.aload_n 0, 1) := by decide +kernel
theorem dX6_waysWith_26 : decode cX6_waysWith 26 = .ok (.iload_n 1, 1) := by decide +kernel
theorem dX6_waysWith_27 : decode cX6_waysWith 27 = .ok (.iconst 1, 1) := by decide +kernel
theorem dX6_waysWith_28 : decode cX6_waysWith 28 = .ok (.iadd, 1) := by decide +kernel
theorem dX6_waysWith_29 : decode cX6_waysWith 29 = .ok (.invokevirtual 143, 3) := by decide +kernel
theorem dX6_waysWith_32 : decode cX6_waysWith 32 = .ok (.iload_n 2, 1) := by decide +kernel
theorem dX6_waysWith_33 : decode cX6_waysWith 33 = .ok (.iload 5, 2) := by decide +kernel
theorem dX6_waysWith_35 : decode cX6_waysWith 35 = .ok (.invokestatic 165, 3) := by decide +kernel
theorem dX6_waysWith_38 : decode cX6_waysWith 38 = .ok (.ifCond .eq 20, 3) := by decide +kernel
theorem dX6_waysWith_41 : decode cX6_waysWith 41 = .ok (.aload_n 0, 1) := by decide +kernel
theorem dX6_waysWith_42 : decode cX6_waysWith 42 = .ok (.getfield 55, 3) := by decide +kernel
theorem dX6_waysWith_45 : decode cX6_waysWith 45 = .ok (.bipush 8, 2) := by decide +kernel
theorem dX6_waysWith_47 : decode cX6_waysWith 47 = .ok (.iload_n 1, 1) := by decide +kernel
theorem dX6_waysWith_48 : decode cX6_waysWith 48 = .ok (.iconst 1, 1) := by decide +kernel
theorem dX6_waysWith_49 : decode cX6_waysWith 49 = .ok (.iadd, 1) := by decide +kernel
theorem dX6_waysWith_50 : decode cX6_waysWith 50 = .ok (.imul, 1) := by decide +kernel
theorem dX6_waysWith_51 : decode cX6_waysWith 51 = .ok (.iload 5, 2) := by decide +kernel
theorem dX6_waysWith_53 : decode cX6_waysWith 53 = .ok (.iadd, 1) := by decide +kernel
theorem dX6_waysWith_54 : decode cX6_waysWith 54 = .ok (.laload, 1) := by decide +kernel
theorem dX6_waysWith_55 : decode cX6_waysWith 55 = .ok (.goto 4, 3) := by decide +kernel
theorem dX6_waysWith_58 : decode cX6_waysWith 58 = .ok (.lconst 0, 1) := by decide +kernel
theorem dX6_waysWith_59 : decode cX6_waysWith 59 = .ok (.ladd, 1) := by decide +kernel
theorem dX6_waysWith_60 : decode cX6_waysWith 60 = .ok (.lstore_n 3, 1) := by decide +kernel
theorem dX6_waysWith_61 : decode cX6_waysWith 61 = .ok (.iinc 5 1, 3) := by decide +kernel
theorem dX6_waysWith_64 : decode cX6_waysWith 64 = .ok (.goto (-47), 3) := by decide +kernel
theorem dX6_waysWith_67 : decode cX6_waysWith 67 = .ok (.aload_n 0, 1) := by decide +kernel
theorem dX6_waysWith_68 : decode cX6_waysWith 68 = .ok (.getfield 51, 3) := by decide +kernel
theorem dX6_waysWith_71 : decode cX6_waysWith 71 = .ok (.bipush 8, 2) := by decide +kernel
theorem dX6_waysWith_73 : decode cX6_waysWith 73 = .ok (.iload_n 1, 1) := by decide +kernel
theorem dX6_waysWith_74 : decode cX6_waysWith 74 = .ok (.imul, 1) := by decide +kernel
theorem dX6_waysWith_75 : decode cX6_waysWith 75 = .ok (.iload_n 2, 1) := by decide +kernel
theorem dX6_waysWith_76 : decode cX6_waysWith 76 = .ok (.iadd, 1) := by decide +kernel
theorem dX6_waysWith_77 : decode cX6_waysWith 77 = .ok (.laload, 1) := by decide +kernel
theorem dX6_waysWith_78 : decode cX6_waysWith 78 = .ok (.lload_n 3, 1) := by decide +kernel
theorem dX6_waysWith_79 : decode cX6_waysWith 79 = .ok (.lmul, 1) := by decide +kernel
theorem dX6_waysWith_80 : decode cX6_waysWith 80 = .ok (.lreturn, 1) := by decide +kernel
set_option maxRecDepth 20000 in
theorem ggX6_ways_X6_findWays : GoodIn wsX6_ways wsX6_findWays := goodIn_r _ [5, 6, 7, 8, 9, 4, 10, 11, 12, 13, 14, 15, 16, 17, 18, 19, 20, 21, 22, 23, 24, 25, 26, 27, 28, 29, 30, 31, 32, 33, 34, 35, 36, 37, 38, 39, 40, 41, 42, 43, 44, 45, 46, 47, 48, 49, 50, 51, 52, 53, 54, 55, 56, 57, 58, 59, 60, 61, 62, 63, 64, 65, 66, 67, 68, 69, 70, 71, 72, 73, 74, 75, 76, 77, 78, 79, 80, 81, 82, 83, 84, 85, 86, 87, 88, 89, 90, 91, 92, 93, 94, 95, 96, 97, 98, 99, 100, 101, 102, 103, 104, 105, 106, 107, 108, 109, 110, 111] (by decide +kernel) (by decide +kernel)
set_option maxRecDepth 20000 in
theorem gX6_ways_X6_findWays : GoodIn wsX6_ways (wsV RX6 178 RX6 yX6_findWays wsX6_findWays) := goodIn_app (goodIn_of _ (by decide +kernel)) ggX6_ways_X6_findWays
theorem dX6_ways_0 : decode cX6_ways 0 = .ok (.aload_n 0, 1) := by decide +kernel
theorem dX6_ways_1 : decode cX6_ways 1 = .ok (.invokevirtual 178, 3) := by decide +kernel
theorem dX6_ways_4 : decode cX6_ways 4 = .ok (.lreturn, 1) := by decide +kernel
set_option maxRecDepth 20000 in
theorem ggX6_would_X6_isParagraph : GoodIn wsX6_would wsX6_isParagraph := goodIn_r _ [6, 7, 8, 9, 5, 10, 104, 105, 106, 107, 108, 109, 110, 111, 112, 113, 114, 115, 116, 117, 118, 119, 120, 121, 122, 123, 124] (by decide +kernel) (by decide +kernel)
set_option maxRecDepth 20000 in
theorem gX6_would_X6_isParagraph : GoodIn wsX6_would (wsV RX6 131 RX6 yX6_isParagraph wsX6_isParagraph) := goodIn_app (goodIn_of _ (by decide +kernel)) ggX6_would_X6_isParagraph
set_option maxRecDepth 20000 in
theorem ggX6_would_X6_isThere : GoodIn wsX6_would wsX6_isThere := goodIn_r _ [14, 15, 8, 9, 5, 10, 104, 105, 106, 107, 108, 109, 110, 111, 112, 113, 114, 115, 116, 117, 118, 119, 120, 121, 122, 123, 124] (by decide +kernel) (by decide +kernel)
set_option maxRecDepth 20000 in
theorem gX6_would_X6_isThere : GoodIn wsX6_would (wsV RX6 71 RX6 yX6_isThere wsX6_isThere) := goodIn_app (goodIn_of _ (by decide +kernel)) ggX6_would_X6_isThere
set_option maxRecDepth 20000 in
theorem ggX6_would_X6_findWays : GoodIn wsX6_would wsX6_findWays := goodIn_r _ [19, 7, 20, 21, 22, 5, 23, 24, 25, 26, 27, 28, 29, 30, 31, 32, 33, 34, 35, 36, 37, 38, 39, 40, 41, 42, 43, 44, 45, 46, 15, 47, 48, 49, 50, 8, 9, 10, 51, 52, 53, 54, 55, 56, 57, 58, 59, 60, 61, 62, 63, 64, 65, 66, 67, 68, 69, 70, 71, 72, 73, 74, 75, 76, 77, 78, 79, 80, 81, 82, 83, 84, 85, 86, 87, 88, 89, 90, 91, 92, 93, 94, 95, 96, 97, 98, 99, 104, 105, 106, 107, 108, 109, 110, 111, 112, 113, 114, 115, 116, 117, 118, 119, 120, 121, 122, 123, 124] (by decide +kernel) (by decide +kernel)
set_option maxRecDepth 20000 in
theorem gX6_would_X6_findWays : GoodIn wsX6_would (wsV RX6 178 RX6 yX6_findWays wsX6_findWays) := goodIn_app (goodIn_of _ (by decide +kernel)) ggX6_would_X6_findWays
set_option maxRecDepth 20000 in
theorem ggX6_would_X6_speaks : GoodIn wsX6_would wsX6_speaks := goodIn_r _ [28, 29, 30, 31, 5, 32, 33, 34, 104, 105, 106, 107, 108, 109, 110, 111, 112, 113, 114, 115, 116, 117, 118, 119, 120, 121, 122, 123, 124] (by decide +kernel) (by decide +kernel)
set_option maxRecDepth 20000 in
theorem gX6_would_X6_speaks : GoodIn wsX6_would (wsV RX6 78 RX6 yX6_speaks wsX6_speaks) := goodIn_app (goodIn_of _ (by decide +kernel)) ggX6_would_X6_speaks
set_option maxRecDepth 20000 in
theorem ggX6_would_X6_waysWith : GoodIn wsX6_would wsX6_waysWith := goodIn_r _ [103, 7, 82, 99, 83, 84, 85, 5, 86, 87, 41, 25, 26, 27, 28, 29, 30, 31, 32, 33, 34, 51, 52, 53, 88, 89, 90, 104, 105, 106, 107, 108, 109, 110, 111, 112, 113, 114, 115, 116, 117, 118, 119, 120, 121, 122, 123, 124] (by decide +kernel) (by decide +kernel)
set_option maxRecDepth 20000 in
theorem gX6_would_X6_waysWith : GoodIn wsX6_would (wsV RX6 184 RX6 yX6_waysWith wsX6_waysWith) := goodIn_app (goodIn_of _ (by decide +kernel)) ggX6_would_X6_waysWith
theorem dX6_would_0 : decode cX6_would 0 = .ok (.aload_n 0, 1) := by decide +kernel
theorem dX6_would_1 : decode cX6_would 1 = .ok (.iload_n 1, 1) := by decide +kernel
theorem dX6_would_2 : decode cX6_would 2 = .ok (.invokevirtual 131, 3) := by decide +kernel
theorem dX6_would_5 : decode cX6_would 5 = .ok (.ifCond .eq 11, 3) := by decide +kernel
theorem dX6_would_8 : decode cX6_would 8 = .ok (.aload_n 0, 1) := by decide +kernel
theorem dX6_would_9 : decode cX6_would 9 = .ok (.iload_n 2, 1) := by decide +kernel
theorem dX6_would_10 : decode cX6_would 10 = .ok (.invokevirtual 71, 3) := by decide +kernel
theorem dX6_would_13 : decode cX6_would 13 = .ok (.ifCond .ne 7, 3) := by decide +kernel
theorem dX6_would_16 : decode cX6_would 16 = .ok (.ldc2_w 182, 3) := by decide +kernel
theorem dX6_would_19 : decode cX6_would 19 = .ok (.lreturn, 1) := by decide +kernel
theorem dX6_would_20 : decode cX6_would 20 = .ok (.aload_n 0, 1) := by decide +kernel
theorem dX6_would_21 : decode cX6_would 21 = .ok (.invokevirtual 178, 3) := by decide +kernel
theorem dX6_would_24 : decode cX6_would 24 = .ok (.pop2, 1) := by decide +kernel
theorem dX6_would_25 : decode cX6_would 25 = .ok (.aload_n 0, 1) := by decide +kernel
theorem dX6_would_26 : decode cX6_would 26 = .ok (.iload_n 1, 1) := by decide +kernel
theorem dX6_would_27 : decode cX6_would 27 = .ok (.invokevirtual 78, 3) := by decide +kernel
theorem dX6_would_30 : decode cX6_would 30 = .ok (.ifCond .eq 12, 3) := by decide +kernel
theorem dX6_would_33 : decode cX6_would 33 = .ok (.aload_n 0, 1) := by decide +kernel
theorem dX6_would_34 : decode cX6_would 34 = .ok (.iload_n 1, 1) := by decide +kernel
theorem dX6_would_35 : decode cX6_would 35 = .ok (.iload_n 2, 1) := by decide +kernel
theorem dX6_would_36 : decode cX6_would 36 = .ok (.invokevirtual 184, 3) := by decide +kernel
theorem dX6_would_39 : decode cX6_would 39 = .ok (.goto 4, 3) := by decide +kernel
theorem dX6_would_42 : decode cX6_would 42 = .ok (.lconst 0, 1) := by decide +kernel
theorem dX6_would_43 : decode cX6_would 43 = .ok (.lreturn, 1) := by decide +kernel
set_option maxRecDepth 20000 in
theorem ggX6_findSure_X6_findWays : GoodIn wsX6_findSure wsX6_findWays := goodIn_r _ [7, 1, 8, 9, 10, 6, 11, 12, 13, 14, 15, 16, 17, 18, 19, 20, 21, 22, 23, 24, 25, 26, 27, 28, 29, 30, 31, 32, 33, 34, 35, 36, 37, 38, 39, 40, 41, 42, 43, 44, 45, 46, 47, 48, 49, 50, 51, 52, 53, 54, 55, 56, 57, 58, 59, 60, 61, 62, 63, 64, 65, 66, 67, 68, 69, 70, 71, 72, 73, 74, 75, 76, 77, 78, 79, 80, 81, 82, 83, 84, 85, 86, 87, 88, 89, 90, 91, 96, 97, 98, 99, 100, 101, 102, 103, 104, 105, 106, 107, 108, 109, 110, 111, 112, 113, 114, 115, 116] (by decide +kernel) (by decide +kernel)
set_option maxRecDepth 20000 in
theorem gX6_findSure_X6_findWays : GoodIn wsX6_findSure (wsV RX6 178 RX6 yX6_findWays wsX6_findWays) := goodIn_app (goodIn_of _ (by decide +kernel)) ggX6_findSure_X6_findWays
set_option maxRecDepth 20000 in
theorem ggX6_findSure_X6_speaks : GoodIn wsX6_findSure wsX6_speaks := goodIn_r _ [16, 17, 18, 19, 6, 20, 21, 22, 96, 97, 98, 99, 100, 101, 102, 103, 104, 105, 106, 107, 108, 109, 110, 111, 112, 113, 114, 115, 116] (by decide +kernel) (by decide +kernel)
set_option maxRecDepth 20000 in
theorem gX6_findSure_X6_speaks : GoodIn wsX6_findSure (wsV RX6 78 RX6 yX6_speaks wsX6_speaks) := goodIn_app (goodIn_of _ (by decide +kernel)) ggX6_findSure_X6_speaks
set_option maxRecDepth 20000 in
theorem ggX6_findSure_X6_waysWith : GoodIn wsX6_findSure wsX6_waysWith := goodIn_r _ [95, 1, 74, 91, 75, 76, 77, 6, 78, 79, 29, 13, 14, 15, 16, 17, 18, 19, 20, 21, 22, 43, 44, 45, 80, 81, 82, 96, 97, 98, 99, 100, 101, 102, 103, 104, 105, 106, 107, 108, 109, 110, 111, 112, 113, 114, 115, 116] (by decide +kernel) (by decide +kernel)
set_option maxRecDepth 20000 in
theorem gX6_findSure_X6_waysWith : GoodIn wsX6_findSure (wsV RX6 184 RX6 yX6_waysWith wsX6_waysWith) := goodIn_app (goodIn_of _ (by decide +kernel)) ggX6_findSure_X6_waysWith
theorem dX6_findSure_0 : decode cX6_findSure 0 = .ok (.aload_n 0, 1) := by decide +kernel
theorem dX6_findSure_1 : decode cX6_findSure 1 = .ok (.invokevirtual 178, 3) := by decide +kernel
theorem dX6_findSure_4 : decode cX6_findSure 4 = .ok (.pop2, 1) := by decide +kernel
theorem dX6_findSure_5 : decode cX6_findSure 5 = .ok (.iconst 0, 1) := by decide +kernel
theorem dX6_findSure_6 : decode cX6_findSure 6 = .ok (.istore_n 1, 1) := by decide +kernel
theorem dX6_findSure_7 : decode cX6_findSure 7 = .ok (.iload_n 1, 1) := by decide +kernel
theorem dX6_findSure_8 : decode cX6_findSure 8 = .ok (.aload_n 0, 1) := by decide +kernel
theorem dX6_findSure_9 : decode cX6_findSure 9 = .ok (.getfield 68, 3) := by decide +kernel
theorem dX6_findSure_12 : decode cX6_findSure 12 = .ok (.if_icmp .ge 65, 3) := by decide +kernel
theorem dX6_findSure_15 : decode cX6_findSure 15 = .ok (.aload_n 0, 1) := by decide +kernel
theorem dX6_findSure_16 : decode cX6_findSure 16 = .ok (.getfield 58, 3) := by decide +kernel
theorem dX6_findSure_19 : decode cX6_findSure 19 = .ok (.iload_n 1, 1) := by decide +kernel
theorem dX6_findSure_20 : decode cX6_findSure 20 = .ok (.iconst 0, 1) := by decide +kernel
theorem dX6_findSure_21 : decode cX6_findSure 21 = .ok (.iastore, 1) := by decide +kernel
theorem dX6_findSure_22 : decode cX6_findSure 22 = .ok (.iconst 0, 1) := by decide +kernel
theorem dX6_findSure_23 : decode cX6_findSure 23 = .ok (.istore_n 2, 1) := by decide +kernel
theorem dX6_findSure_24 : decode cX6_findSure 24 = .ok (.iload_n 2, 1) := by decide +kernel
theorem dX6_findSure_25 : decode cX6_findSure 25 = .ok (.bipush 8, 2) := by decide +kernel
theorem dX6_findSure_27 : decode cX6_findSure 27 = .ok (.if_icmp .ge 44, 3) := by decide +kernel
theorem dX6_findSure_30 : decode cX6_findSure 30 = .ok (.aload_n 0, 1) := by decide +kernel
theorem dX6_findSure_31 : decode cX6_findSure 31 = .ok (.getfield 58, 3) := by decide +kernel
theorem dX6_findSure_34 : decode cX6_findSure 34 = .ok (.iload_n 1, 1) := by decide +kernel
theorem dX6_findSure_35 : decode cX6_findSure 35 = .ok (.dup2, 1) := by decide +kernel
theorem dX6_findSure_36 : decode cX6_findSure 36 = .ok (.iaload, 1) := by decide +kernel
theorem dX6_findSure_37 : decode cX6_findSure 37 = .ok (.aload_n 0, 1) := by decide +kernel
theorem dX6_findSure_38 : decode cX6_findSure 38 = .ok (.iload_n 1, 1) := by decide +kernel
theorem dX6_findSure_39 : decode cX6_findSure 39 = .ok (.invokevirtual 78, 3) := by decide +kernel
theorem dX6_findSure_42 : decode cX6_findSure 42 = .ok (.ifCond .eq 20, 3) := by decide +kernel
theorem dX6_findSure_45 : decode cX6_findSure 45 = .ok (.aload_n 0, 1) := by decide +kernel
theorem dX6_findSure_46 : decode cX6_findSure 46 = .ok (.iload_n 1, 1) := by decide +kernel
theorem dX6_findSure_47 : decode cX6_findSure 47 = .ok (.iload_n 2, 1) := by decide +kernel
theorem dX6_findSure_48 : decode cX6_findSure 48 = .ok (.invokevirtual 184, 3) := by decide +kernel
theorem dX6_findSure_51 : decode cX6_findSure 51 = .ok (.lconst 0, 1) := by decide +kernel
theorem dX6_findSure_52 : decode cX6_findSure 52 = .ok (.lcmp, 1) := by decide +kernel
theorem dX6_findSure_53 : decode cX6_findSure 53 = .ok (.ifCond .le 9, 3) := by decide +kernel
theorem dX6_findSure_56 : decode cX6_findSure 56 = .ok (.iconst 1, 1) := by decide +kernel
theorem dX6_findSure_57 : decode cX6_findSure 57 = .ok (.iload_n 2, 1) := by decide +kernel
theorem dX6_findSure_58 : decode cX6_findSure 58 = .ok (.ishl, 1) := by decide +kernel
theorem dX6_findSure_59 : decode cX6_findSure 59 = .ok (.goto 4, 3) := by decide +kernel
theorem dX6_findSure_62 : decode cX6_findSure 62 = .ok (.iconst 0, 1) := by decide +kernel
theorem dX6_findSure_63 : decode cX6_findSure 63 = .ok (.ior, 1) := by decide +kernel
theorem dX6_findSure_64 : decode cX6_findSure 64 = .ok (.iastore, 1) := by decide +kernel
theorem dX6_findSure_65 : decode cX6_findSure 65 = .ok (.iinc 2 1, 3) := by decide +kernel
theorem dX6_findSure_68 : decode cX6_findSure 68 = .ok (.goto (-44), 3) := by decide +kernel
theorem dX6_findSure_71 : decode cX6_findSure 71 = .ok (.iinc 1 1, 3) := by decide +kernel
theorem dX6_findSure_74 : decode cX6_findSure 74 = .ok (.goto (-67), 3) := by decide +kernel
theorem dX6_findSure_77 : decode cX6_findSure 77 = .ok (.return_, 1) := by decide +kernel
set_option maxRecDepth 20000 in
theorem ggX6_conflict_X6_within : GoodIn wsX6_conflict wsX6_within := goodIn_r _ [4] (by decide +kernel) (by decide +kernel)
set_option maxRecDepth 20000 in
theorem gX6_conflict_X6_within : GoodIn wsX6_conflict (va_wsS RX6 64 yX6_within wsX6_within) := goodIn_app (goodIn_of _ (by decide +kernel)) ggX6_conflict_X6_within
set_option maxRecDepth 20000 in
theorem ggX6_conflict_X6_findWays : GoodIn wsX6_conflict wsX6_findWays := goodIn_r _ [8, 9, 10, 11, 12, 3, 13, 14, 15, 16, 17, 18, 19, 20, 21, 22, 23, 24, 25, 26, 27, 28, 29, 30, 31, 32, 33, 34, 35, 36, 37, 38, 39, 40, 41, 1, 2, 4, 42, 43, 44, 45, 46, 47, 48, 49, 50, 51, 52, 53, 54, 55, 56, 57, 58, 59, 60, 61, 62, 63, 64, 65, 66, 67, 68, 69, 70, 71, 72, 73, 74, 75, 76, 77, 78, 79, 80, 81, 82, 83, 84, 85, 86, 87, 88, 89, 90, 91, 92, 93, 94, 95, 96, 97, 98, 99, 100, 101, 102, 103, 104, 105, 106, 107, 108, 109, 110, 111] (by decide +kernel) (by decide +kernel)
set_option maxRecDepth 20000 in
theorem gX6_conflict_X6_findWays : GoodIn wsX6_conflict (wsV RX6 178 RX6 yX6_findWays wsX6_findWays) := goodIn_app (goodIn_of _ (by decide +kernel)) ggX6_conflict_X6_findWays
set_option maxRecDepth 20000 in
theorem ggX6_conflict_X6_countUp : GoodIn wsX6_conflict wsX6_countUp := goodIn_r _ [89, 90, 74, 75, 76, 3, 77, 9, 78, 31, 15, 16, 17, 18, 19, 20, 21, 22, 23, 24, 42, 43, 44, 79, 80, 81, 82, 83, 84, 85, 14, 91, 92, 93, 94, 95, 96, 97, 98, 99, 100, 101, 102, 103, 104, 105, 106, 107, 108, 109, 110, 111] (by decide +kernel) (by decide +kernel)
set_option maxRecDepth 20000 in
theorem gX6_conflict_X6_countUp : GoodIn wsX6_conflict (wsV RX6 174 RX6 yX6_countUp wsX6_countUp) := goodIn_app (goodIn_of _ (by decide +kernel)) ggX6_conflict_X6_countUp
theorem dX6_conflict_0 : decode cX6_conflict 0 = .ok (.iload_n 1, 1) := by decide +kernel
theorem dX6_conflict_1 : decode cX6_conflict 1 = .ok (.iconst 0, 1) := by decide +kernel
theorem dX6_conflict_2 : decode cX6_conflict 2 = .ok (.iconst 1, 1) := by decide +kernel
theorem dX6_conflict_3 : decode cX6_conflict 3 = .ok (.invokestatic 64, 3) := by decide +kernel
theorem dX6_conflict_6 : decode cX6_conflict 6 = .ok (.ifCond .ne 6, 3) := by decide +kernel
theorem dX6_conflict_9 : decode cX6_conflict 9 = .ok (.bipush (-2), 2) := by decide +kernel
theorem dX6_conflict_11 : decode cX6_conflict 11 = .ok (.ireturn, 1) := by decide +kernel
theorem dX6_conflict_12 : decode cX6_conflict 12 = .ok (.aload_n 0, 1) := by decide +kernel
theorem dX6_conflict_13 : decode cX6_conflict 13 = .ok (.invokevirtual 178, 3) := by decide +kernel
theorem dX6_conflict_16 : decode cX6_conflict 16 = .ok (.lconst 0, 1) := by decide +kernel
theorem dX6_conflict_17 : decode cX6_conflict 17 = .ok (.lcmp, 1) := by decide +kernel
theorem dX6_conflict_18 : decode cX6_conflict 18 = .ok (.ifCond .le 6, 3) := by decide +kernel
theorem dX6_conflict_21 : decode cX6_conflict 21 = .ok (.bipush (-9), 2) := by decide +kernel
theorem dX6_conflict_23 : decode cX6_conflict 23 = .ok (.ireturn, 1) := by decide +kernel
theorem dX6_conflict_24 : decode cX6_conflict 24 = .ok (.iconst 0, 1) := by decide +kernel
theorem dX6_conflict_25 : decode cX6_conflict 25 = .ok (.istore_n 2, 1) := by decide +kernel
theorem dX6_conflict_26 : decode cX6_conflict 26 = .ok (.aload_n 0, 1) := by decide +kernel
theorem dX6_conflict_27 : decode cX6_conflict 27 = .ok (.iconst 0, 1) := by decide +kernel
theorem dX6_conflict_28 : decode cX6_conflict 28 = .ok (.iload_n 2, 1) := by decide +kernel
theorem dX6_conflict_29 : decode cX6_conflict 29 = .ok (.invokevirtual 174, 3) := by decide +kernel
theorem dX6_conflict_32 : decode cX6_conflict 32 = .ok (.lconst 0, 1) := by decide +kernel
theorem dX6_conflict_33 : decode cX6_conflict 33 = .ok (.lcmp, 1) := by decide +kernel
theorem dX6_conflict_34 : decode cX6_conflict 34 = .ok (.ifCond .le 9, 3) := by decide +kernel
theorem dX6_conflict_37 : decode cX6_conflict 37 = .ok (.iinc 2 1, 3) := by decide +kernel
theorem dX6_conflict_40 : decode cX6_conflict 40 = .ok (.goto (-14), 3) := by decide +kernel
theorem dX6_conflict_43 : decode cX6_conflict 43 = .ok (.iload_n 2, 1) := by decide +kernel
theorem dX6_conflict_44 : decode cX6_conflict 44 = .ok (.istore_n 3, 1) := by decide +kernel
theorem dX6_conflict_45 : decode cX6_conflict 45 = .ok (.aload_n 0, 1) := by decide +kernel
theorem dX6_conflict_46 : decode cX6_conflict 46 = .ok (.iload_n 3, 1) := by decide +kernel
theorem dX6_conflict_47 : decode cX6_conflict 47 = .ok (.iload_n 2, 1) := by decide +kernel
theorem dX6_conflict_48 : decode cX6_conflict 48 = .ok (.invokevirtual 174, 3) := by decide +kernel
theorem dX6_conflict_51 : decode cX6_conflict 51 = .ok (.lconst 0, 1) := by decide +kernel
theorem dX6_conflict_52 : decode cX6_conflict 52 = .ok (.lcmp, 1) := by decide +kernel
theorem dX6_conflict_53 : decode cX6_conflict 53 = .ok (.ifCond .le 9, 3) := by decide +kernel
theorem dX6_conflict_56 : decode cX6_conflict 56 = .ok (.iinc 3 (-1), 3) := by decide +kernel
theorem dX6_conflict_59 : decode cX6_conflict 59 = .ok (.goto (-14), 3) := by decide +kernel
theorem dX6_conflict_62 : decode cX6_conflict 62 = .ok (.iload_n 1, 1) := by decide +kernel
theorem dX6_conflict_63 : decode cX6_conflict 63 = .ok (.ifCond .ne 7, 3) := by decide +kernel
theorem dX6_conflict_66 : decode cX6_conflict 66 = .ok (.iload_n 3, 1) := by decide +kernel
theorem dX6_conflict_67 : decode cX6_conflict 67 = .ok (.goto 4, 3) := by decide +kernel
theorem dX6_conflict_70 : decode cX6_conflict 70 = .ok (.iload_n 2, 1) := by decide +kernel
theorem dX6_conflict_71 : decode cX6_conflict 71 = .ok (.ireturn, 1) := by decide +kernel
set_option maxRecDepth 20000 in
theorem ggX6_asked_X6_findSure : GoodIn wsX6_asked wsX6_findSure := goodIn_r _ [7, 1, 2, 8, 9, 10, 6, 11, 12, 13, 14, 15, 16, 17, 18, 19, 20, 21, 22, 23, 24, 25, 26, 27, 28, 29, 30, 31, 32, 33, 34, 35, 36, 37, 38, 39, 40, 41, 42, 43, 44, 45, 46, 47, 48, 49, 50, 51, 52, 53, 54, 55, 56, 57, 58, 59, 60, 61, 62, 63, 64, 65, 66, 67, 68, 69, 70, 71, 72, 73, 74, 75, 76, 77, 78, 79, 80, 81, 82, 83, 84, 85, 86, 87, 88, 89, 90, 91, 92, 93, 94, 95, 96, 97, 98, 99, 103, 104, 105, 106, 107, 108, 109, 110, 111, 112, 113, 114, 115, 116, 117, 118, 119, 120, 121, 122, 123] (by decide +kernel) (by decide +kernel)
set_option maxRecDepth 20000 in
theorem gX6_asked_X6_findSure : GoodIn wsX6_asked (wsV RX6 162 RX6 yX6_findSure wsX6_findSure) := goodIn_app (goodIn_of _ (by decide +kernel)) ggX6_asked_X6_findSure
set_option maxRecDepth 20000 in
theorem ggX6_asked_X6_has : GoodIn wsX6_asked wsX6_has := goodIn_r _ [49] (by decide +kernel) (by decide +kernel)
set_option maxRecDepth 20000 in
theorem gX6_asked_X6_has : GoodIn wsX6_asked (va_wsS RX6 85 yX6_has wsX6_has) := goodIn_app (goodIn_of _ (by decide +kernel)) ggX6_asked_X6_has
set_option maxRecDepth 20000 in
theorem ggX6_asked_X6_waysWith : GoodIn wsX6_asked wsX6_waysWith := goodIn_r _ [99, 1, 78, 95, 79, 80, 81, 6, 82, 83, 33, 17, 18, 19, 20, 21, 22, 23, 24, 25, 26, 47, 48, 49, 84, 85, 86, 103, 104, 105, 106, 107, 108, 109, 110, 111, 112, 113, 114, 115, 116, 117, 118, 119, 120, 121, 122, 123] (by decide +kernel) (by decide +kernel)
set_option maxRecDepth 20000 in
theorem gX6_asked_X6_waysWith : GoodIn wsX6_asked (wsV RX6 184 RX6 yX6_waysWith wsX6_waysWith) := goodIn_app (goodIn_of _ (by decide +kernel)) ggX6_asked_X6_waysWith
set_option maxRecDepth 20000 in
theorem ggX6_asked_X6_size : GoodIn wsX6_asked wsX6_size := goodIn_r _ [102] (by decide +kernel) (by decide +kernel)
set_option maxRecDepth 20000 in
theorem gX6_asked_X6_size : GoodIn wsX6_asked (va_wsS RX6 146 yX6_size wsX6_size) := goodIn_app (goodIn_of _ (by decide +kernel)) ggX6_asked_X6_size
theorem dX6_asked_0 : decode cX6_asked 0 = .ok (.aload_n 0, 1) := by decide +kernel
theorem dX6_asked_1 : decode cX6_asked 1 = .ok (.invokevirtual 162, 3) := by decide +kernel
theorem dX6_asked_4 : decode cX6_asked 4 = .ok (.bipush (-9), 2) := by decide +kernel
theorem dX6_asked_6 : decode cX6_asked 6 = .ok (.istore_n 1, 1) := by decide +kernel
theorem dX6_asked_7 : decode cX6_asked 7 = .ok (.lconst 0, 1) := by decide +kernel
theorem dX6_asked_8 : decode cX6_asked 8 = .ok (.lstore_n 2, 1) := by decide +kernel
theorem dX6_asked_9 : decode cX6_asked 9 = .ok (.iconst 0, 1) := by decide +kernel
theorem dX6_asked_10 : decode cX6_asked 10 = .ok (.istore 4, 2) := by decide +kernel
theorem dX6_asked_12 : decode cX6_asked 12 = .ok (.iload 4, 2) := by decide +kernel
theorem dX6_asked_14 : decode cX6_asked 14 = .ok (.aload_n 0, 1) := by decide +kernel
theorem dX6_asked_15 : decode cX6_asked 15 = .ok (.getfield 68, 3) := by decide +kernel
theorem dX6_asked_18 : decode cX6_asked 18 = .ok (.if_icmp .ge 117, 3) := by decide +kernel
theorem dX6_asked_21 : decode cX6_asked 21 = .ok (.lconst 0, 1) := by decide +kernel
theorem dX6_asked_22 : decode cX6_asked 22 = .ok (.lstore 5, 2) := by decide +kernel
theorem dX6_asked_24 : decode cX6_asked 24 = .ok (.iconst 0, 1) := by decide +kernel
theorem dX6_asked_25 : decode cX6_asked 25 = .ok (.istore 7, 2) := by decide +kernel
theorem dX6_asked_27 : decode cX6_asked 27 = .ok (.iload 7, 2) := by decide +kernel
theorem dX6_asked_29 : decode cX6_asked 29 = .ok (.bipush 8, 2) := by decide +kernel
theorem dX6_asked_31 : decode cX6_asked 31 = .ok (.if_icmp .ge 65, 3) := by decide +kernel
theorem dX6_asked_34 : decode cX6_asked 34 = .ok (.aload_n 0, 1) := by decide +kernel
theorem dX6_asked_35 : decode cX6_asked 35 = .ok (.getfield 58, 3) := by decide +kernel
theorem dX6_asked_38 : decode cX6_asked 38 = .ok (.iload 4, 2) := by decide +kernel
theorem dX6_asked_40 : decode cX6_asked 40 = .ok (.iaload, 1) := by decide +kernel
theorem dX6_asked_41 : decode cX6_asked 41 = .ok (.iload 7, 2) := by decide +kernel
theorem dX6_asked_43 : decode cX6_asked 43 = .ok (.invokestatic 85, 3) := by decide +kernel
theorem dX6_asked_46 : decode cX6_asked 46 = .ok (.ifCond .eq 21, 3) := by decide +kernel
theorem dX6_asked_49 : decode cX6_asked 49 = .ok (.aload_n 0, 1) := by decide +kernel
theorem dX6_asked_50 : decode cX6_asked 50 = .ok (.iload 4, 2) := by decide +kernel
theorem dX6_asked_52 : decode cX6_asked 52 = .ok (.iload 7, 2) := by decide +kernel
theorem dX6_asked_54 : decode cX6_asked 54 = .ok (.invokevirtual 184, 3) := by decide +kernel
theorem dX6_asked_57 : decode cX6_asked 57 = .ok (.lload 5, 2) := by decide +kernel
theorem dX6_asked_59 : decode cX6_asked 59 = .ok (.lcmp, 1) := by decide +kernel
theorem dX6_asked_60 : decode cX6_asked 60 = .ok (.ifCond .le 7, 3) := by decide +kernel
theorem dX6_asked_63 : decode cX6_asked 63 = .ok (.iconst 1, 1) := by decide +kernel
theorem dX6_asked_64 : decode cX6_asked 64 = .ok (.goto 4, 3) := by decide +kernel
theorem dX6_asked_67 : decode cX6_asked 67 = .ok (.iconst 0, 1) := by decide +kernel
theorem dX6_asked_68 : decode cX6_asked 68 = .ok (.istore 8, 2) := by decide +kernel
theorem dX6_asked_70 : decode cX6_asked 70 = .ok (.iload 8, 2) := by decide +kernel
theorem dX6_asked_72 : decode cX6_asked 72 = .ok (.ifCond .eq 14, 3) := by decide +kernel
theorem dX6_asked_75 : decode cX6_asked 75 = .ok (.aload_n 0, 1) := by decide +kernel
theorem dX6_asked_76 : decode cX6_asked 76 = .ok (.iload 4, 2) := by decide +kernel
theorem dX6_asked_78 : decode cX6_asked 78 = .ok (.iload 7, 2) := by decide +kernel
theorem dX6_asked_80 : decode cX6_asked 80 = .ok (.invokevirtual 184, 3) := by decide +kernel
theorem dX6_asked_83 : decode cX6_asked 83 = .ok (.goto 5, 3) := by decide +kernel
theorem dX6_asked_86 : decode cX6_asked 86 = .ok (.lload 5, 2) := by decide +kernel
theorem dX6_asked_88 : decode cX6_asked 88 = .ok (.lstore 5, 2) := by decide +kernel
theorem dX6_asked_90 : decode cX6_asked 90 = .ok (.iinc 7 1, 3) := by decide +kernel
theorem dX6_asked_93 : decode cX6_asked 93 = .ok (.goto (-66), 3) := by decide +kernel
theorem dX6_asked_96 : decode cX6_asked 96 = .ok (.aload_n 0, 1) := by decide +kernel
theorem dX6_asked_97 : decode cX6_asked 97 = .ok (.getfield 58, 3) := by decide +kernel
theorem dX6_asked_100 : decode cX6_asked 100 = .ok (.iload 4, 2) := by decide +kernel
theorem dX6_asked_102 : decode cX6_asked 102 = .ok (.iaload, 1) := by decide +kernel
theorem dX6_asked_103 : decode cX6_asked 103 = .ok (.invokestatic 146, 3) := by decide +kernel
theorem dX6_asked_106 : decode cX6_asked 106 = .ok (.iconst 1, 1) := by decide +kernel
theorem dX6_asked_107 : decode cX6_asked 107 = .ok (.if_icmp .le 22, 3) := by decide +kernel
theorem dX6_asked_110 : decode cX6_asked 110 = .ok (.iload_n 1, 1) := by decide +kernel
theorem dX6_asked_111 : decode cX6_asked 111 = .ok (.bipush (-9), 2) := by decide +kernel
theorem dX6_asked_113 : decode cX6_asked 113 = .ok (.if_icmp .eq 10, 3) := by decide +kernel
theorem dX6_asked_116 : decode cX6_asked 116 = .ok (.lload 5, 2) := by decide +kernel
theorem dX6_asked_118 : decode cX6_asked 118 = .ok (.lload_n 2, 1) := by decide +kernel
theorem dX6_asked_119 : decode cX6_asked 119 = .ok (.lcmp, 1) := by decide +kernel
theorem dX6_asked_120 : decode cX6_asked 120 = .ok (.ifCond .ge 9, 3) := by decide +kernel
theorem dX6_asked_123 : decode cX6_asked 123 = .ok (.iload 4, 2) := by decide +kernel
theorem dX6_asked_125 : decode cX6_asked 125 = .ok (.istore_n 1, 1) := by decide +kernel
theorem dX6_asked_126 : decode cX6_asked 126 = .ok (.lload 5, 2) := by decide +kernel
theorem dX6_asked_128 : decode cX6_asked 128 = .ok (.lstore_n 2, 1) := by decide +kernel
theorem dX6_asked_129 : decode cX6_asked 129 = .ok (.iinc 4 1, 3) := by decide +kernel
theorem dX6_asked_132 : decode cX6_asked 132 = .ok (.goto (-120), 3) := by decide +kernel
theorem dX6_asked_135 : decode cX6_asked 135 = .ok (.iload_n 1, 1) := by decide +kernel
theorem dX6_asked_136 : decode cX6_asked 136 = .ok (.ireturn, 1) := by decide +kernel
set_option maxRecDepth 20000 in
theorem ggX6_beginsRun_X6_speaks : GoodIn wsX6_beginsRun wsX6_speaks := goodIn_r _ [5, 6, 7, 8, 4, 9, 10, 11, 12, 13, 14, 15, 16, 17, 18, 19, 20, 21, 22, 23, 24, 25, 26, 27, 28, 29, 30, 31, 32] (by decide +kernel) (by decide +kernel)
set_option maxRecDepth 20000 in
theorem gX6_beginsRun_X6_speaks : GoodIn wsX6_beginsRun (wsV RX6 78 RX6 yX6_speaks wsX6_speaks) := goodIn_app (goodIn_of _ (by decide +kernel)) ggX6_beginsRun_X6_speaks
theorem dX6_beginsRun_0 : decode cX6_beginsRun 0 = .ok (.aload_n 0, 1) := by decide +kernel
theorem dX6_beginsRun_1 : decode cX6_beginsRun 1 = .ok (.iload_n 1, 1) := by decide +kernel
theorem dX6_beginsRun_2 : decode cX6_beginsRun 2 = .ok (.invokevirtual 78, 3) := by decide +kernel
theorem dX6_beginsRun_5 : decode cX6_beginsRun 5 = .ok (.ifCond .eq 21, 3) := by decide +kernel
theorem dX6_beginsRun_8 : decode cX6_beginsRun 8 = .ok (.iload_n 1, 1) := by decide +kernel
theorem dX6_beginsRun_9 : decode cX6_beginsRun 9 = .ok (.ifCond .eq 13, 3) := by decide +kernel
theorem dX6_beginsRun_12 : decode cX6_beginsRun 12 = .ok (.aload_n 0, 1) := by decide +kernel
theorem dX6_beginsRun_13 : decode cX6_beginsRun 13 = .ok (.iload_n 1, 1) := by decide +kernel
theorem dX6_beginsRun_14 : decode cX6_beginsRun 14 = .ok (.iconst 1, 1) := by decide +kernel
theorem dX6_beginsRun_15 : decode cX6_beginsRun 15 = .ok (.isub, 1) := by decide +kernel
theorem dX6_beginsRun_16 : decode cX6_beginsRun 16 = .ok (.invokevirtual 78, 3) := by decide +kernel
theorem dX6_beginsRun_19 : decode cX6_beginsRun 19 = .ok (.ifCond .ne 7, 3) := by decide +kernel
theorem dX6_beginsRun_22 : decode cX6_beginsRun 22 = .ok (.iconst 1, 1) := by decide +kernel
theorem dX6_beginsRun_23 : decode cX6_beginsRun 23 = .ok (.goto 4, 3) := by decide +kernel
theorem dX6_beginsRun_26 : decode cX6_beginsRun 26 = .ok (.iconst 0, 1) := by decide +kernel
theorem dX6_beginsRun_27 : decode cX6_beginsRun 27 = .ok (.ireturn, 1) := by decide +kernel
set_option maxRecDepth 20000 in
theorem ggX6_runs_X6_beginsRun : GoodIn wsX6_runs wsX6_beginsRun := goodIn_r _ [6, 7, 8, 9, 5, 10, 11, 12, 13, 14, 15, 16, 17, 18, 19, 20, 21, 22, 23, 24, 25, 26, 27, 28, 29, 30, 31, 32, 33, 34, 35, 36, 37] (by decide +kernel) (by decide +kernel)
set_option maxRecDepth 20000 in
theorem gX6_runs_X6_beginsRun : GoodIn wsX6_runs (wsV RX6 187 RX6 yX6_beginsRun wsX6_beginsRun) := goodIn_app (goodIn_of _ (by decide +kernel)) ggX6_runs_X6_beginsRun
theorem dX6_runs_0 : decode cX6_runs 0 = .ok (.iconst 0, 1) := by decide +kernel
theorem dX6_runs_1 : decode cX6_runs 1 = .ok (.istore_n 1, 1) := by decide +kernel
