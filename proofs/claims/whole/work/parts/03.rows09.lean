theorem dX6_runs_2 : decode cX6_runs 2 = .ok (.iconst 0, 1) := by decide +kernel
theorem dX6_runs_3 : decode cX6_runs 3 = .ok (.istore_n 2, 1) := by decide +kernel
theorem dX6_runs_4 : decode cX6_runs 4 = .ok (.iload_n 2, 1) := by decide +kernel
theorem dX6_runs_5 : decode cX6_runs 5 = .ok (.aload_n 0, 1) := by decide +kernel
theorem dX6_runs_6 : decode cX6_runs 6 = .ok (.getfield 68, 3) := by decide +kernel
theorem dX6_runs_9 : decode cX6_runs 9 = .ok (.if_icmp .ge 25, 3) := by decide +kernel
theorem dX6_runs_12 : decode cX6_runs 12 = .ok (.iload_n 1, 1) := by decide +kernel
theorem dX6_runs_13 : decode cX6_runs 13 = .ok (.aload_n 0, 1) := by decide +kernel
theorem dX6_runs_14 : decode cX6_runs 14 = .ok (.iload_n 2, 1) := by decide +kernel
theorem dX6_runs_15 : decode cX6_runs 15 = .ok (.invokevirtual 187, 3) := by decide +kernel
theorem dX6_runs_18 : decode cX6_runs 18 = .ok (.ifCond .eq 7, 3) := by decide +kernel
theorem dX6_runs_21 : decode cX6_runs 21 = .ok (.iconst 1, 1) := by decide +kernel
theorem dX6_runs_22 : decode cX6_runs 22 = .ok (.goto 4, 3) := by decide +kernel
theorem dX6_runs_25 : decode cX6_runs 25 = .ok (.iconst 0, 1) := by decide +kernel
theorem dX6_runs_26 : decode cX6_runs 26 = .ok (.iadd, 1) := by decide +kernel
theorem dX6_runs_27 : decode cX6_runs 27 = .ok (.istore_n 1, 1) := by decide +kernel
theorem dX6_runs_28 : decode cX6_runs 28 = .ok (.iinc 2 1, 3) := by decide +kernel
theorem dX6_runs_31 : decode cX6_runs 31 = .ok (.goto (-27), 3) := by decide +kernel
theorem dX6_runs_34 : decode cX6_runs 34 = .ok (.iload_n 1, 1) := by decide +kernel
theorem dX6_runs_35 : decode cX6_runs 35 = .ok (.ireturn, 1) := by decide +kernel
set_option maxRecDepth 20000 in
theorem ggX6_run_X6_runs : GoodIn wsX6_run wsX6_runs := goodIn_r _ [6, 1, 7, 8, 9, 5, 10, 11, 12, 13, 14, 15, 16, 17, 18, 19, 20, 71, 72, 73, 74, 75, 76, 77, 78, 79, 80, 81, 82, 83, 84, 85, 86, 87, 88, 89, 90, 91] (by decide +kernel) (by decide +kernel)
set_option maxRecDepth 20000 in
theorem gX6_run_X6_runs : GoodIn wsX6_run (wsV RX6 190 RX6 yX6_runs wsX6_runs) := goodIn_app (goodIn_of _ (by decide +kernel)) ggX6_run_X6_runs
set_option maxRecDepth 20000 in
theorem ggX6_run_X6_within : GoodIn wsX6_run wsX6_within := goodIn_r _ [23] (by decide +kernel) (by decide +kernel)
set_option maxRecDepth 20000 in
theorem gX6_run_X6_within : GoodIn wsX6_run (va_wsS RX6 64 yX6_within wsX6_within) := goodIn_app (goodIn_of _ (by decide +kernel)) ggX6_run_X6_within
set_option maxRecDepth 20000 in
theorem ggX6_run_X6_beginsRun : GoodIn wsX6_run wsX6_beginsRun := goodIn_r _ [10, 11, 12, 13, 5, 14, 15, 16, 17, 18, 19, 20, 71, 72, 73, 74, 75, 76, 77, 78, 79, 80, 81, 82, 83, 84, 85, 86, 87, 88, 89, 90, 91] (by decide +kernel) (by decide +kernel)
set_option maxRecDepth 20000 in
theorem gX6_run_X6_beginsRun : GoodIn wsX6_run (wsV RX6 187 RX6 yX6_beginsRun wsX6_beginsRun) := goodIn_app (goodIn_of _ (by decide +kernel)) ggX6_run_X6_beginsRun
set_option maxRecDepth 20000 in
theorem ggX6_run_X6_speaks : GoodIn wsX6_run wsX6_speaks := goodIn_r _ [14, 15, 16, 17, 5, 18, 19, 20, 71, 72, 73, 74, 75, 76, 77, 78, 79, 80, 81, 82, 83, 84, 85, 86, 87, 88, 89, 90, 91] (by decide +kernel) (by decide +kernel)
set_option maxRecDepth 20000 in
theorem gX6_run_X6_speaks : GoodIn wsX6_run (wsV RX6 78 RX6 yX6_speaks wsX6_speaks) := goodIn_app (goodIn_of _ (by decide +kernel)) ggX6_run_X6_speaks
set_option maxRecDepth 20000 in
theorem ggX6_run_X6_ownOf : GoodIn wsX6_run wsX6_ownOf := goodIn_r _ [27, 28, 19, 29, 30, 31, 32, 33, 34, 5, 35, 36, 37, 38, 39, 40, 20, 21, 22, 23, 41, 42, 43, 44, 45, 46, 47, 48, 49, 50, 51, 52, 53, 54, 55, 56, 57, 58, 59, 60, 61, 62, 63, 64, 65, 66, 67, 71, 72, 73, 74, 75, 76, 77, 78, 79, 80, 81, 82, 83, 84, 85, 86, 87, 88, 89, 90, 91] (by decide +kernel) (by decide +kernel)
set_option maxRecDepth 20000 in
theorem gX6_run_X6_ownOf : GoodIn wsX6_run (wsV RX6 81 RX6 yX6_ownOf wsX6_ownOf) := goodIn_app (goodIn_of _ (by decide +kernel)) ggX6_run_X6_ownOf
set_option maxRecDepth 20000 in
theorem ggX6_run_X6_size : GoodIn wsX6_run wsX6_size := goodIn_r _ [70] (by decide +kernel) (by decide +kernel)
set_option maxRecDepth 20000 in
theorem gX6_run_X6_size : GoodIn wsX6_run (va_wsS RX6 146 yX6_size wsX6_size) := goodIn_app (goodIn_of _ (by decide +kernel)) ggX6_run_X6_size
theorem dX6_run_0 : decode cX6_run 0 = .ok (.iload_n 1, 1) := by decide +kernel
theorem dX6_run_1 : decode cX6_run 1 = .ok (.iconst 0, 1) := by decide +kernel
theorem dX6_run_2 : decode cX6_run 2 = .ok (.aload_n 0, 1) := by decide +kernel
theorem dX6_run_3 : decode cX6_run 3 = .ok (.invokevirtual 190, 3) := by decide +kernel
theorem dX6_run_6 : decode cX6_run 6 = .ok (.iconst 1, 1) := by decide +kernel
theorem dX6_run_7 : decode cX6_run 7 = .ok (.isub, 1) := by decide +kernel
theorem dX6_run_8 : decode cX6_run 8 = .ok (.invokestatic 64, 3) := by decide +kernel
theorem dX6_run_11 : decode cX6_run 11 = .ok (.ifCond .ne 5, 3) := by decide +kernel
theorem dX6_run_14 : decode cX6_run 14 = .ok (.iconst (-1), 1) := by decide +kernel
theorem dX6_run_15 : decode cX6_run 15 = .ok (.ireturn, 1) := by decide +kernel
theorem dX6_run_16 : decode cX6_run 16 = .ok (.iload_n 2, 1) := by decide +kernel
theorem dX6_run_17 : decode cX6_run 17 = .ok (.iconst 0, 1) := by decide +kernel
theorem dX6_run_18 : decode cX6_run 18 = .ok (.iconst 2, 1) := by decide +kernel
theorem dX6_run_19 : decode cX6_run 19 = .ok (.invokestatic 64, 3) := by decide +kernel
theorem dX6_run_22 : decode cX6_run 22 = .ok (.ifCond .ne 6, 3) := by decide +kernel
theorem dX6_run_25 : decode cX6_run 25 = .ok (.bipush (-2), 2) := by decide +kernel
theorem dX6_run_27 : decode cX6_run 27 = .ok (.ireturn, 1) := by decide +kernel
theorem dX6_run_28 : decode cX6_run 28 = .ok (.iconst (-1), 1) := by decide +kernel
theorem dX6_run_29 : decode cX6_run 29 = .ok (.istore_n 3, 1) := by decide +kernel
theorem dX6_run_30 : decode cX6_run 30 = .ok (.iload_n 1, 1) := by decide +kernel
theorem dX6_run_31 : decode cX6_run 31 = .ok (.istore 4, 2) := by decide +kernel
theorem dX6_run_33 : decode cX6_run 33 = .ok (.iload 4, 2) := by decide +kernel
theorem dX6_run_35 : decode cX6_run 35 = .ok (.ifCond .lt 26, 3) := by decide +kernel
theorem dX6_run_38 : decode cX6_run 38 = .ok (.iinc 3 1, 3) := by decide +kernel
theorem dX6_run_41 : decode cX6_run 41 = .ok (.aload_n 0, 1) := by decide +kernel
theorem dX6_run_42 : decode cX6_run 42 = .ok (.iload_n 3, 1) := by decide +kernel
theorem dX6_run_43 : decode cX6_run 43 = .ok (.invokevirtual 187, 3) := by decide +kernel
theorem dX6_run_46 : decode cX6_run 46 = .ok (.ifCond .ne 9, 3) := by decide +kernel
theorem dX6_run_49 : decode cX6_run 49 = .ok (.iinc 3 1, 3) := by decide +kernel
theorem dX6_run_52 : decode cX6_run 52 = .ok (.goto (-11), 3) := by decide +kernel
theorem dX6_run_55 : decode cX6_run 55 = .ok (.iinc 4 (-1), 3) := by decide +kernel
theorem dX6_run_58 : decode cX6_run 58 = .ok (.goto (-25), 3) := by decide +kernel
theorem dX6_run_61 : decode cX6_run 61 = .ok (.iconst 0, 1) := by decide +kernel
theorem dX6_run_62 : decode cX6_run 62 = .ok (.istore 4, 2) := by decide +kernel
theorem dX6_run_64 : decode cX6_run 64 = .ok (.iconst 0, 1) := by decide +kernel
theorem dX6_run_65 : decode cX6_run 65 = .ok (.istore 5, 2) := by decide +kernel
theorem dX6_run_67 : decode cX6_run 67 = .ok (.iload_n 3, 1) := by decide +kernel
theorem dX6_run_68 : decode cX6_run 68 = .ok (.istore 6, 2) := by decide +kernel
theorem dX6_run_70 : decode cX6_run 70 = .ok (.iload 6, 2) := by decide +kernel
theorem dX6_run_72 : decode cX6_run 72 = .ok (.aload_n 0, 1) := by decide +kernel
theorem dX6_run_73 : decode cX6_run 73 = .ok (.getfield 68, 3) := by decide +kernel
theorem dX6_run_76 : decode cX6_run 76 = .ok (.if_icmp .ge 32, 3) := by decide +kernel
theorem dX6_run_79 : decode cX6_run 79 = .ok (.aload_n 0, 1) := by decide +kernel
theorem dX6_run_80 : decode cX6_run 80 = .ok (.iload 6, 2) := by decide +kernel
theorem dX6_run_82 : decode cX6_run 82 = .ok (.invokevirtual 78, 3) := by decide +kernel
theorem dX6_run_85 : decode cX6_run 85 = .ok (.ifCond .eq 23, 3) := by decide +kernel
theorem dX6_run_88 : decode cX6_run 88 = .ok (.iinc 4 1, 3) := by decide +kernel
theorem dX6_run_91 : decode cX6_run 91 = .ok (.iload 5, 2) := by decide +kernel
theorem dX6_run_93 : decode cX6_run 93 = .ok (.aload_n 0, 1) := by decide +kernel
theorem dX6_run_94 : decode cX6_run 94 = .ok (.iload 6, 2) := by decide +kernel
theorem dX6_run_96 : decode cX6_run 96 = .ok (.invokevirtual 81, 3) := by decide +kernel
theorem dX6_run_99 : decode cX6_run 99 = .ok (.ior, 1) := by decide +kernel
theorem dX6_run_100 : decode cX6_run 100 = .ok (.istore 5, 2) := by decide +kernel
theorem dX6_run_102 : decode cX6_run 102 = .ok (.iinc 6 1, 3) := by decide +kernel
theorem dX6_run_105 : decode cX6_run 105 = .ok (.goto (-35), 3) := by decide +kernel
theorem dX6_run_108 : decode cX6_run 108 = .ok (.iload_n 2, 1) := by decide +kernel
theorem dX6_run_109 : decode cX6_run 109 = .ok (.ifCond .ne 7, 3) := by decide +kernel
theorem dX6_run_112 : decode cX6_run 112 = .ok (.iload_n 3, 1) := by decide +kernel
theorem dX6_run_113 : decode cX6_run 113 = .ok (.goto 18, 3) := by decide +kernel
theorem dX6_run_116 : decode cX6_run 116 = .ok (.iload_n 2, 1) := by decide +kernel
theorem dX6_run_117 : decode cX6_run 117 = .ok (.iconst 1, 1) := by decide +kernel
theorem dX6_run_118 : decode cX6_run 118 = .ok (.if_icmp .ne 8, 3) := by decide +kernel
theorem dX6_run_121 : decode cX6_run 121 = .ok (.iload 4, 2) := by decide +kernel
theorem dX6_run_123 : decode cX6_run 123 = .ok (.goto 8, 3) := by decide +kernel
theorem dX6_run_126 : decode cX6_run 126 = .ok (.iload 5, 2) := by decide +kernel
theorem dX6_run_128 : decode cX6_run 128 = .ok (.invokestatic 146, 3) := by decide +kernel
theorem dX6_run_131 : decode cX6_run 131 = .ok (.ireturn, 1) := by decide +kernel
set_option maxRecDepth 20000 in
theorem ggX6_manyHad_X6_has : GoodIn wsX6_manyHad wsX6_has := goodIn_r _ [6] (by decide +kernel) (by decide +kernel)
set_option maxRecDepth 20000 in
theorem gX6_manyHad_X6_has : GoodIn wsX6_manyHad (va_wsS RX6 85 yX6_has wsX6_has) := goodIn_app (goodIn_of _ (by decide +kernel)) ggX6_manyHad_X6_has
set_option maxRecDepth 20000 in
theorem ggX6_manyHad_X6_size : GoodIn wsX6_manyHad wsX6_size := goodIn_r _ [9] (by decide +kernel) (by decide +kernel)
set_option maxRecDepth 20000 in
theorem gX6_manyHad_X6_size : GoodIn wsX6_manyHad (va_wsS RX6 146 yX6_size wsX6_size) := goodIn_app (goodIn_of _ (by decide +kernel)) ggX6_manyHad_X6_size
theorem dX6_manyHad_0 : decode cX6_manyHad 0 = .ok (.iconst 0, 1) := by decide +kernel
theorem dX6_manyHad_1 : decode cX6_manyHad 1 = .ok (.istore_n 3, 1) := by decide +kernel
theorem dX6_manyHad_2 : decode cX6_manyHad 2 = .ok (.iconst 0, 1) := by decide +kernel
theorem dX6_manyHad_3 : decode cX6_manyHad 3 = .ok (.istore 4, 2) := by decide +kernel
theorem dX6_manyHad_5 : decode cX6_manyHad 5 = .ok (.iload 4, 2) := by decide +kernel
theorem dX6_manyHad_7 : decode cX6_manyHad 7 = .ok (.aload_n 0, 1) := by decide +kernel
theorem dX6_manyHad_8 : decode cX6_manyHad 8 = .ok (.getfield 68, 3) := by decide +kernel
theorem dX6_manyHad_11 : decode cX6_manyHad 11 = .ok (.if_icmp .ge 49, 3) := by decide +kernel
theorem dX6_manyHad_14 : decode cX6_manyHad 14 = .ok (.iload_n 3, 1) := by decide +kernel
theorem dX6_manyHad_15 : decode cX6_manyHad 15 = .ok (.aload_n 0, 1) := by decide +kernel
theorem dX6_manyHad_16 : decode cX6_manyHad 16 = .ok (.getfield 58, 3) := by decide +kernel
theorem dX6_manyHad_19 : decode cX6_manyHad 19 = .ok (.iload 4, 2) := by decide +kernel
theorem dX6_manyHad_21 : decode cX6_manyHad 21 = .ok (.iaload, 1) := by decide +kernel
theorem dX6_manyHad_22 : decode cX6_manyHad 22 = .ok (.iload_n 1, 1) := by decide +kernel
theorem dX6_manyHad_23 : decode cX6_manyHad 23 = .ok (.invokestatic 85, 3) := by decide +kernel
theorem dX6_manyHad_26 : decode cX6_manyHad 26 = .ok (.ifCond .eq 25, 3) := by decide +kernel
theorem dX6_manyHad_29 : decode cX6_manyHad 29 = .ok (.iload_n 2, 1) := by decide +kernel
theorem dX6_manyHad_30 : decode cX6_manyHad 30 = .ok (.ifCond .eq 17, 3) := by decide +kernel
theorem dX6_manyHad_33 : decode cX6_manyHad 33 = .ok (.aload_n 0, 1) := by decide +kernel
theorem dX6_manyHad_34 : decode cX6_manyHad 34 = .ok (.getfield 58, 3) := by decide +kernel
theorem dX6_manyHad_37 : decode cX6_manyHad 37 = .ok (.iload 4, 2) := by decide +kernel
theorem dX6_manyHad_39 : decode cX6_manyHad 39 = .ok (.iaload, 1) := by decide +kernel
theorem dX6_manyHad_40 : decode cX6_manyHad 40 = .ok (.invokestatic 146, 3) := by decide +kernel
theorem dX6_manyHad_43 : decode cX6_manyHad 43 = .ok (.iconst 1, 1) := by decide +kernel
theorem dX6_manyHad_44 : decode cX6_manyHad 44 = .ok (.if_icmp .ne 7, 3) := by decide +kernel
theorem dX6_manyHad_47 : decode cX6_manyHad 47 = .ok (.iconst 1, 1) := by decide +kernel
theorem dX6_manyHad_48 : decode cX6_manyHad 48 = .ok (.goto 4, 3) := by decide +kernel
theorem dX6_manyHad_51 : decode cX6_manyHad 51 = .ok (.iconst 0, 1) := by decide +kernel
theorem dX6_manyHad_52 : decode cX6_manyHad 52 = .ok (.iadd, 1) := by decide +kernel
theorem dX6_manyHad_53 : decode cX6_manyHad 53 = .ok (.istore_n 3, 1) := by decide +kernel
theorem dX6_manyHad_54 : decode cX6_manyHad 54 = .ok (.iinc 4 1, 3) := by decide +kernel
theorem dX6_manyHad_57 : decode cX6_manyHad 57 = .ok (.goto (-52), 3) := by decide +kernel
theorem dX6_manyHad_60 : decode cX6_manyHad 60 = .ok (.iload_n 3, 1) := by decide +kernel
theorem dX6_manyHad_61 : decode cX6_manyHad 61 = .ok (.ireturn, 1) := by decide +kernel
theorem dX6_firstHad_0 : decode cX6_firstHad 0 = .ok (.bipush (-9), 2) := by decide +kernel
theorem dX6_firstHad_2 : decode cX6_firstHad 2 = .ok (.istore_n 3, 1) := by decide +kernel
theorem dX6_firstHad_3 : decode cX6_firstHad 3 = .ok (.iconst 0, 1) := by decide +kernel
theorem dX6_firstHad_4 : decode cX6_firstHad 4 = .ok (.istore 4, 2) := by decide +kernel
theorem dX6_firstHad_6 : decode cX6_firstHad 6 = .ok (.iload 4, 2) := by decide +kernel
theorem dX6_firstHad_8 : decode cX6_firstHad 8 = .ok (.aload_n 0, 1) := by decide +kernel
theorem dX6_firstHad_9 : decode cX6_firstHad 9 = .ok (.getfield 68, 3) := by decide +kernel
theorem dX6_firstHad_12 : decode cX6_firstHad 12 = .ok (.if_icmp .ge 39, 3) := by decide +kernel
theorem dX6_firstHad_15 : decode cX6_firstHad 15 = .ok (.aload_n 0, 1) := by decide +kernel
theorem dX6_firstHad_16 : decode cX6_firstHad 16 = .ok (.getfield 58, 3) := by decide +kernel
theorem dX6_firstHad_19 : decode cX6_firstHad 19 = .ok (.iload 4, 2) := by decide +kernel
theorem dX6_firstHad_21 : decode cX6_firstHad 21 = .ok (.iaload, 1) := by decide +kernel
theorem dX6_firstHad_22 : decode cX6_firstHad 22 = .ok (.iconst 1, 1) := by decide +kernel
theorem dX6_firstHad_23 : decode cX6_firstHad 23 = .ok (.iload_n 1, 1) := by decide +kernel
theorem dX6_firstHad_24 : decode cX6_firstHad 24 = .ok (.ishl, 1) := by decide +kernel
theorem dX6_firstHad_25 : decode cX6_firstHad 25 = .ok (.if_icmp .ne 18, 3) := by decide +kernel
theorem dX6_firstHad_28 : decode cX6_firstHad 28 = .ok (.iload_n 3, 1) := by decide +kernel
theorem dX6_firstHad_29 : decode cX6_firstHad 29 = .ok (.bipush (-9), 2) := by decide +kernel
theorem dX6_firstHad_31 : decode cX6_firstHad 31 = .ok (.if_icmp .eq 7, 3) := by decide +kernel
theorem dX6_firstHad_34 : decode cX6_firstHad 34 = .ok (.iload_n 2, 1) := by decide +kernel
theorem dX6_firstHad_35 : decode cX6_firstHad 35 = .ok (.ifCond .eq 8, 3) := by decide +kernel
theorem dX6_firstHad_38 : decode cX6_firstHad 38 = .ok (.iload 4, 2) := by decide +kernel
theorem dX6_firstHad_40 : decode cX6_firstHad 40 = .ok (.goto 4, 3) := by decide +kernel
theorem dX6_firstHad_43 : decode cX6_firstHad 43 = .ok (.iload_n 3, 1) := by decide +kernel
theorem dX6_firstHad_44 : decode cX6_firstHad 44 = .ok (.istore_n 3, 1) := by decide +kernel
theorem dX6_firstHad_45 : decode cX6_firstHad 45 = .ok (.iinc 4 1, 3) := by decide +kernel
theorem dX6_firstHad_48 : decode cX6_firstHad 48 = .ok (.goto (-42), 3) := by decide +kernel
theorem dX6_firstHad_51 : decode cX6_firstHad 51 = .ok (.iload_n 3, 1) := by decide +kernel
theorem dX6_firstHad_52 : decode cX6_firstHad 52 = .ok (.ireturn, 1) := by decide +kernel
set_option maxRecDepth 20000 in
theorem ggX6_ofPerson_X6_isThere : GoodIn wsX6_ofPerson wsX6_isThere := goodIn_r _ [7, 1, 8, 9, 6, 10, 116, 117, 118, 119, 120, 121, 122, 123, 124, 125, 126, 127, 128, 129, 130, 131, 132, 133, 134, 135, 136] (by decide +kernel) (by decide +kernel)
set_option maxRecDepth 20000 in
theorem gX6_ofPerson_X6_isThere : GoodIn wsX6_ofPerson (wsV RX6 71 RX6 yX6_isThere wsX6_isThere) := goodIn_app (goodIn_of _ (by decide +kernel)) ggX6_ofPerson_X6_isThere
set_option maxRecDepth 20000 in
theorem ggX6_ofPerson_X6_findSure : GoodIn wsX6_ofPerson wsX6_findSure := goodIn_r _ [14, 15, 16, 17, 18, 19, 6, 20, 21, 22, 23, 24, 25, 26, 27, 28, 29, 30, 31, 32, 33, 34, 35, 36, 37, 38, 39, 40, 41, 42, 43, 44, 45, 46, 47, 1, 48, 49, 50, 51, 8, 9, 10, 52, 53, 54, 55, 56, 57, 58, 59, 60, 61, 62, 63, 64, 65, 66, 67, 68, 69, 70, 71, 72, 73, 74, 75, 76, 77, 78, 79, 80, 81, 82, 83, 84, 85, 86, 87, 88, 89, 90, 91, 92, 93, 94, 95, 96, 97, 98, 99, 100, 101, 102, 103, 104, 116, 117, 118, 119, 120, 121, 122, 123, 124, 125, 126, 127, 128, 129, 130, 131, 132, 133, 134, 135, 136] (by decide +kernel) (by decide +kernel)
set_option maxRecDepth 20000 in
theorem gX6_ofPerson_X6_findSure : GoodIn wsX6_ofPerson (wsV RX6 162 RX6 yX6_findSure wsX6_findSure) := goodIn_app (goodIn_of _ (by decide +kernel)) ggX6_ofPerson_X6_findSure
set_option maxRecDepth 20000 in
theorem ggX6_ofPerson_X6_manyHad : GoodIn wsX6_ofPerson wsX6_manyHad := goodIn_r _ [108, 15, 16, 52, 53, 6, 54, 109, 110, 111, 116, 117, 118, 119, 120, 121, 122, 123, 124, 125, 126, 127, 128, 129, 130, 131, 132, 133, 134, 135, 136] (by decide +kernel) (by decide +kernel)
set_option maxRecDepth 20000 in
theorem gX6_ofPerson_X6_manyHad : GoodIn wsX6_ofPerson (wsV RX6 193 RX6 yX6_manyHad wsX6_manyHad) := goodIn_app (goodIn_of _ (by decide +kernel)) ggX6_ofPerson_X6_manyHad
set_option maxRecDepth 20000 in
theorem ggX6_ofPerson_X6_firstHad : GoodIn wsX6_ofPerson wsX6_firstHad := goodIn_r _ [115, 15, 16, 116, 117, 118, 119, 120, 121, 122, 123, 124, 125, 126, 127, 128, 129, 130, 131, 132, 133, 134, 135, 136] (by decide +kernel) (by decide +kernel)
set_option maxRecDepth 20000 in
theorem gX6_ofPerson_X6_firstHad : GoodIn wsX6_ofPerson (wsV RX6 197 RX6 yX6_firstHad wsX6_firstHad) := goodIn_app (goodIn_of _ (by decide +kernel)) ggX6_ofPerson_X6_firstHad
set_option maxRecDepth 20000 in
theorem ggX6_ofPerson_X6_has : GoodIn wsX6_ofPerson wsX6_has := goodIn_r _ [54] (by decide +kernel) (by decide +kernel)
set_option maxRecDepth 20000 in
theorem gX6_ofPerson_X6_has : GoodIn wsX6_ofPerson (va_wsS RX6 85 yX6_has wsX6_has) := goodIn_app (goodIn_of _ (by decide +kernel)) ggX6_ofPerson_X6_has
theorem dX6_ofPerson_0 : decode cX6_ofPerson 0 = .ok (.aload_n 0, 1) := by decide +kernel
theorem dX6_ofPerson_1 : decode cX6_ofPerson 1 = .ok (.iload_n 1, 1) := by decide +kernel
theorem dX6_ofPerson_2 : decode cX6_ofPerson 2 = .ok (.invokevirtual 71, 3) := by decide +kernel
theorem dX6_ofPerson_5 : decode cX6_ofPerson 5 = .ok (.ifCond .ne 5, 3) := by decide +kernel
theorem dX6_ofPerson_8 : decode cX6_ofPerson 8 = .ok (.iconst (-1), 1) := by decide +kernel
theorem dX6_ofPerson_9 : decode cX6_ofPerson 9 = .ok (.ireturn, 1) := by decide +kernel
theorem dX6_ofPerson_10 : decode cX6_ofPerson 10 = .ok (.aload_n 0, 1) := by decide +kernel
theorem dX6_ofPerson_11 : decode cX6_ofPerson 11 = .ok (.invokevirtual 162, 3) := by decide +kernel
theorem dX6_ofPerson_14 : decode cX6_ofPerson 14 = .ok (.iload_n 2, 1) := by decide +kernel
theorem dX6_ofPerson_15 : decode cX6_ofPerson 15 = .ok (.tableswitch 89 0 5 #[37, 44, 51, 58, 65, 72], 37) := by decide +kernel
theorem dX6_ofPerson_52 : decode cX6_ofPerson 52 = .ok (.aload_n 0, 1) := by decide +kernel
theorem dX6_ofPerson_53 : decode cX6_ofPerson 53 = .ok (.getfield 7, 3) := by decide +kernel
theorem dX6_ofPerson_56 : decode cX6_ofPerson 56 = .ok (.iload_n 1, 1) := by decide +kernel
theorem dX6_ofPerson_57 : decode cX6_ofPerson 57 = .ok (.iaload, 1) := by decide +kernel
theorem dX6_ofPerson_58 : decode cX6_ofPerson 58 = .ok (.ireturn, 1) := by decide +kernel
theorem dX6_ofPerson_59 : decode cX6_ofPerson 59 = .ok (.aload_n 0, 1) := by decide +kernel
theorem dX6_ofPerson_60 : decode cX6_ofPerson 60 = .ok (.iload_n 1, 1) := by decide +kernel
theorem dX6_ofPerson_61 : decode cX6_ofPerson 61 = .ok (.iconst 1, 1) := by decide +kernel
theorem dX6_ofPerson_62 : decode cX6_ofPerson 62 = .ok (.invokevirtual 193, 3) := by decide +kernel
theorem dX6_ofPerson_65 : decode cX6_ofPerson 65 = .ok (.ireturn, 1) := by decide +kernel
theorem dX6_ofPerson_66 : decode cX6_ofPerson 66 = .ok (.aload_n 0, 1) := by decide +kernel
theorem dX6_ofPerson_67 : decode cX6_ofPerson 67 = .ok (.iload_n 1, 1) := by decide +kernel
theorem dX6_ofPerson_68 : decode cX6_ofPerson 68 = .ok (.iconst 0, 1) := by decide +kernel
theorem dX6_ofPerson_69 : decode cX6_ofPerson 69 = .ok (.invokevirtual 193, 3) := by decide +kernel
theorem dX6_ofPerson_72 : decode cX6_ofPerson 72 = .ok (.ireturn, 1) := by decide +kernel
theorem dX6_ofPerson_73 : decode cX6_ofPerson 73 = .ok (.aload_n 0, 1) := by decide +kernel
theorem dX6_ofPerson_74 : decode cX6_ofPerson 74 = .ok (.iload_n 1, 1) := by decide +kernel
theorem dX6_ofPerson_75 : decode cX6_ofPerson 75 = .ok (.iconst 0, 1) := by decide +kernel
theorem dX6_ofPerson_76 : decode cX6_ofPerson 76 = .ok (.invokevirtual 197, 3) := by decide +kernel
theorem dX6_ofPerson_79 : decode cX6_ofPerson 79 = .ok (.ireturn, 1) := by decide +kernel
theorem dX6_ofPerson_80 : decode cX6_ofPerson 80 = .ok (.aload_n 0, 1) := by decide +kernel
theorem dX6_ofPerson_81 : decode cX6_ofPerson 81 = .ok (.iload_n 1, 1) := by decide +kernel
theorem dX6_ofPerson_82 : decode cX6_ofPerson 82 = .ok (.iconst 1, 1) := by decide +kernel
theorem dX6_ofPerson_83 : decode cX6_ofPerson 83 = .ok (.invokevirtual 197, 3) := by decide +kernel
theorem dX6_ofPerson_86 : decode cX6_ofPerson 86 = .ok (.ireturn, 1) := by decide +kernel
theorem dX6_ofPerson_87 : decode cX6_ofPerson 87 = .ok (.aload_n 0, 1) := by decide +kernel
theorem dX6_ofPerson_88 : decode cX6_ofPerson 88 = .ok (.getfield 89, 3) := by decide +kernel
theorem dX6_ofPerson_91 : decode cX6_ofPerson 91 = .ok (.iload_n 1, 1) := by decide +kernel
theorem dX6_ofPerson_92 : decode cX6_ofPerson 92 = .ok (.invokestatic 85, 3) := by decide +kernel
theorem dX6_ofPerson_95 : decode cX6_ofPerson 95 = .ok (.ifCond .eq 7, 3) := by decide +kernel
theorem dX6_ofPerson_98 : decode cX6_ofPerson 98 = .ok (.iconst 1, 1) := by decide +kernel
theorem dX6_ofPerson_99 : decode cX6_ofPerson 99 = .ok (.goto 4, 3) := by decide +kernel
theorem dX6_ofPerson_102 : decode cX6_ofPerson 102 = .ok (.iconst 0, 1) := by decide +kernel
theorem dX6_ofPerson_103 : decode cX6_ofPerson 103 = .ok (.ireturn, 1) := by decide +kernel
theorem dX6_ofPerson_104 : decode cX6_ofPerson 104 = .ok (.bipush (-2), 2) := by decide +kernel
theorem dX6_ofPerson_106 : decode cX6_ofPerson 106 = .ok (.ireturn, 1) := by decide +kernel
set_option maxRecDepth 20000 in
theorem ggX6_aheadOf_X6_manyHad : GoodIn wsX6_aheadOf wsX6_manyHad := goodIn_r _ [5, 6, 7, 8, 9, 4, 10, 11, 12, 13, 22, 23, 24, 25, 26, 27, 28, 29, 30, 31, 32, 33, 34, 35, 36, 37, 38, 39, 40, 41, 42] (by decide +kernel) (by decide +kernel)
set_option maxRecDepth 20000 in
theorem gX6_aheadOf_X6_manyHad : GoodIn wsX6_aheadOf (wsV RX6 193 RX6 yX6_manyHad wsX6_manyHad) := goodIn_app (goodIn_of _ (by decide +kernel)) ggX6_aheadOf_X6_manyHad
set_option maxRecDepth 20000 in
theorem ggX6_aheadOf_X6_isThere : GoodIn wsX6_aheadOf wsX6_isThere := goodIn_r _ [17, 18, 19, 20, 4, 21, 22, 23, 24, 25, 26, 27, 28, 29, 30, 31, 32, 33, 34, 35, 36, 37, 38, 39, 40, 41, 42] (by decide +kernel) (by decide +kernel)
set_option maxRecDepth 20000 in
theorem gX6_aheadOf_X6_isThere : GoodIn wsX6_aheadOf (wsV RX6 71 RX6 yX6_isThere wsX6_isThere) := goodIn_app (goodIn_of _ (by decide +kernel)) ggX6_aheadOf_X6_isThere
theorem dX6_aheadOf_0 : decode cX6_aheadOf 0 = .ok (.iconst 0, 1) := by decide +kernel
theorem dX6_aheadOf_1 : decode cX6_aheadOf 1 = .ok (.istore_n 2, 1) := by decide +kernel
theorem dX6_aheadOf_2 : decode cX6_aheadOf 2 = .ok (.iconst 0, 1) := by decide +kernel
theorem dX6_aheadOf_3 : decode cX6_aheadOf 3 = .ok (.istore_n 3, 1) := by decide +kernel
theorem dX6_aheadOf_4 : decode cX6_aheadOf 4 = .ok (.iload_n 3, 1) := by decide +kernel
theorem dX6_aheadOf_5 : decode cX6_aheadOf 5 = .ok (.bipush 8, 2) := by decide +kernel
theorem dX6_aheadOf_7 : decode cX6_aheadOf 7 = .ok (.if_icmp .ge 92, 3) := by decide +kernel
theorem dX6_aheadOf_10 : decode cX6_aheadOf 10 = .ok (.aload_n 0, 1) := by decide +kernel
theorem dX6_aheadOf_11 : decode cX6_aheadOf 11 = .ok (.iload_n 3, 1) := by decide +kernel
theorem dX6_aheadOf_12 : decode cX6_aheadOf 12 = .ok (.iconst 1, 1) := by decide +kernel
theorem dX6_aheadOf_13 : decode cX6_aheadOf 13 = .ok (.invokevirtual 193, 3) := by decide +kernel
theorem dX6_aheadOf_16 : decode cX6_aheadOf 16 = .ok (.aload_n 0, 1) := by decide +kernel
theorem dX6_aheadOf_17 : decode cX6_aheadOf 17 = .ok (.iload_n 1, 1) := by decide +kernel
theorem dX6_aheadOf_18 : decode cX6_aheadOf 18 = .ok (.iconst 1, 1) := by decide +kernel
theorem dX6_aheadOf_19 : decode cX6_aheadOf 19 = .ok (.invokevirtual 193, 3) := by decide +kernel
theorem dX6_aheadOf_22 : decode cX6_aheadOf 22 = .ok (.isub, 1) := by decide +kernel
theorem dX6_aheadOf_23 : decode cX6_aheadOf 23 = .ok (.istore 4, 2) := by decide +kernel
theorem dX6_aheadOf_25 : decode cX6_aheadOf 25 = .ok (.aload_n 0, 1) := by decide +kernel
theorem dX6_aheadOf_26 : decode cX6_aheadOf 26 = .ok (.iload_n 3, 1) := by decide +kernel
theorem dX6_aheadOf_27 : decode cX6_aheadOf 27 = .ok (.iconst 0, 1) := by decide +kernel
theorem dX6_aheadOf_28 : decode cX6_aheadOf 28 = .ok (.invokevirtual 193, 3) := by decide +kernel
theorem dX6_aheadOf_31 : decode cX6_aheadOf 31 = .ok (.aload_n 0, 1) := by decide +kernel
theorem dX6_aheadOf_32 : decode cX6_aheadOf 32 = .ok (.iload_n 1, 1) := by decide +kernel
theorem dX6_aheadOf_33 : decode cX6_aheadOf 33 = .ok (.iconst 0, 1) := by decide +kernel
theorem dX6_aheadOf_34 : decode cX6_aheadOf 34 = .ok (.invokevirtual 193, 3) := by decide +kernel
theorem dX6_aheadOf_37 : decode cX6_aheadOf 37 = .ok (.isub, 1) := by decide +kernel
theorem dX6_aheadOf_38 : decode cX6_aheadOf 38 = .ok (.istore 5, 2) := by decide +kernel
theorem dX6_aheadOf_40 : decode cX6_aheadOf 40 = .ok (.iload 4, 2) := by decide +kernel
theorem dX6_aheadOf_42 : decode cX6_aheadOf 42 = .ok (.ifCond .gt 23, 3) := by decide +kernel
theorem dX6_aheadOf_45 : decode cX6_aheadOf 45 = .ok (.iload 4, 2) := by decide +kernel
theorem dX6_aheadOf_47 : decode cX6_aheadOf 47 = .ok (.ifCond .ne 22, 3) := by decide +kernel
theorem dX6_aheadOf_50 : decode cX6_aheadOf 50 = .ok (.iload 5, 2) := by decide +kernel
theorem dX6_aheadOf_52 : decode cX6_aheadOf 52 = .ok (.ifCond .gt 13, 3) := by decide +kernel
theorem dX6_aheadOf_55 : decode cX6_aheadOf 55 = .ok (.iload 5, 2) := by decide +kernel
theorem dX6_aheadOf_57 : decode cX6_aheadOf 57 = .ok (.ifCond .ne 12, 3) := by decide +kernel
theorem dX6_aheadOf_60 : decode cX6_aheadOf 60 = .ok (.iload_n 3, 1) := by decide +kernel
theorem dX6_aheadOf_61 : decode cX6_aheadOf 61 = .ok (.iload_n 1, 1) := by decide +kernel
theorem dX6_aheadOf_62 : decode cX6_aheadOf 62 = .ok (.if_icmp .ge 7, 3) := by decide +kernel
theorem dX6_aheadOf_65 : decode cX6_aheadOf 65 = .ok (.iconst 1, 1) := by decide +kernel
theorem dX6_aheadOf_66 : decode cX6_aheadOf 66 = .ok (.goto 4, 3) := by decide +kernel
theorem dX6_aheadOf_69 : decode cX6_aheadOf 69 = .ok (.iconst 0, 1) := by decide +kernel
theorem dX6_aheadOf_70 : decode cX6_aheadOf 70 = .ok (.istore 6, 2) := by decide +kernel
theorem dX6_aheadOf_72 : decode cX6_aheadOf 72 = .ok (.iload_n 2, 1) := by decide +kernel
theorem dX6_aheadOf_73 : decode cX6_aheadOf 73 = .ok (.aload_n 0, 1) := by decide +kernel
theorem dX6_aheadOf_74 : decode cX6_aheadOf 74 = .ok (.iload_n 3, 1) := by decide +kernel
theorem dX6_aheadOf_75 : decode cX6_aheadOf 75 = .ok (.invokevirtual 71, 3) := by decide +kernel
theorem dX6_aheadOf_78 : decode cX6_aheadOf 78 = .ok (.ifCond .eq 12, 3) := by decide +kernel
theorem dX6_aheadOf_81 : decode cX6_aheadOf 81 = .ok (.iload 6, 2) := by decide +kernel
theorem dX6_aheadOf_83 : decode cX6_aheadOf 83 = .ok (.ifCond .eq 7, 3) := by decide +kernel
theorem dX6_aheadOf_86 : decode cX6_aheadOf 86 = .ok (.iconst 1, 1) := by decide +kernel
theorem dX6_aheadOf_87 : decode cX6_aheadOf 87 = .ok (.goto 4, 3) := by decide +kernel
theorem dX6_aheadOf_90 : decode cX6_aheadOf 90 = .ok (.iconst 0, 1) := by decide +kernel
theorem dX6_aheadOf_91 : decode cX6_aheadOf 91 = .ok (.iadd, 1) := by decide +kernel
theorem dX6_aheadOf_92 : decode cX6_aheadOf 92 = .ok (.istore_n 2, 1) := by decide +kernel
theorem dX6_aheadOf_93 : decode cX6_aheadOf 93 = .ok (.iinc 3 1, 3) := by decide +kernel
theorem dX6_aheadOf_96 : decode cX6_aheadOf 96 = .ok (.goto (-92), 3) := by decide +kernel
theorem dX6_aheadOf_99 : decode cX6_aheadOf 99 = .ok (.iload_n 2, 1) := by decide +kernel
theorem dX6_aheadOf_100 : decode cX6_aheadOf 100 = .ok (.ireturn, 1) := by decide +kernel
set_option maxRecDepth 20000 in
theorem ggX6_rank_X6_within : GoodIn wsX6_rank wsX6_within := goodIn_r _ [4] (by decide +kernel) (by decide +kernel)
set_option maxRecDepth 20000 in
theorem gX6_rank_X6_within : GoodIn wsX6_rank (va_wsS RX6 64 yX6_within wsX6_within) := goodIn_app (goodIn_of _ (by decide +kernel)) ggX6_rank_X6_within
set_option maxRecDepth 20000 in
theorem ggX6_rank_X6_findSure : GoodIn wsX6_rank wsX6_findSure := goodIn_r _ [8, 9, 10, 11, 12, 13, 3, 14, 15, 16, 17, 18, 19, 20, 21, 22, 23, 24, 25, 26, 27, 28, 29, 30, 31, 32, 33, 34, 35, 36, 37, 38, 39, 40, 41, 42, 43, 44, 45, 46, 1, 2, 4, 47, 48, 49, 50, 51, 52, 53, 54, 55, 56, 57, 58, 59, 60, 61, 62, 63, 64, 65, 66, 67, 68, 69, 70, 71, 72, 73, 74, 75, 76, 77, 78, 79, 80, 81, 82, 83, 84, 85, 86, 87, 88, 89, 90, 91, 92, 93, 94, 95, 96, 97, 98, 99, 115, 116, 117, 118, 119, 120, 121, 122, 123, 124, 125, 126, 127, 128, 129, 130, 131, 132, 133, 134, 135] (by decide +kernel) (by decide +kernel)
set_option maxRecDepth 20000 in
theorem gX6_rank_X6_findSure : GoodIn wsX6_rank (wsV RX6 162 RX6 yX6_findSure wsX6_findSure) := goodIn_app (goodIn_of _ (by decide +kernel)) ggX6_rank_X6_findSure
set_option maxRecDepth 20000 in
theorem ggX6_rank_X6_isThere : GoodIn wsX6_rank wsX6_isThere := goodIn_r _ [103, 42, 1, 2, 3, 4, 115, 116, 117, 118, 119, 120, 121, 122, 123, 124, 125, 126, 127, 128, 129, 130, 131, 132, 133, 134, 135] (by decide +kernel) (by decide +kernel)
set_option maxRecDepth 20000 in
theorem gX6_rank_X6_isThere : GoodIn wsX6_rank (wsV RX6 71 RX6 yX6_isThere wsX6_isThere) := goodIn_app (goodIn_of _ (by decide +kernel)) ggX6_rank_X6_isThere
set_option maxRecDepth 20000 in
theorem ggX6_rank_X6_aheadOf : GoodIn wsX6_rank wsX6_aheadOf := goodIn_r _ [107, 108, 109, 110, 3, 111, 9, 10, 47, 48, 49, 112, 113, 114, 100, 101, 102, 103, 42, 1, 2, 4, 115, 116, 117, 118, 119, 120, 121, 122, 123, 124, 125, 126, 127, 128, 129, 130, 131, 132, 133, 134, 135] (by decide +kernel) (by decide +kernel)
set_option maxRecDepth 20000 in
theorem gX6_rank_X6_aheadOf : GoodIn wsX6_rank (wsV RX6 200 RX6 yX6_aheadOf wsX6_aheadOf) := goodIn_app (goodIn_of _ (by decide +kernel)) ggX6_rank_X6_aheadOf
theorem dX6_rank_0 : decode cX6_rank 0 = .ok (.iload_n 1, 1) := by decide +kernel
theorem dX6_rank_1 : decode cX6_rank 1 = .ok (.iconst 0, 1) := by decide +kernel
theorem dX6_rank_2 : decode cX6_rank 2 = .ok (.bipush 7, 2) := by decide +kernel
theorem dX6_rank_4 : decode cX6_rank 4 = .ok (.invokestatic 64, 3) := by decide +kernel
theorem dX6_rank_7 : decode cX6_rank 7 = .ok (.ifCond .ne 6, 3) := by decide +kernel
theorem dX6_rank_10 : decode cX6_rank 10 = .ok (.bipush (-2), 2) := by decide +kernel
theorem dX6_rank_12 : decode cX6_rank 12 = .ok (.ireturn, 1) := by decide +kernel
theorem dX6_rank_13 : decode cX6_rank 13 = .ok (.aload_n 0, 1) := by decide +kernel
theorem dX6_rank_14 : decode cX6_rank 14 = .ok (.invokevirtual 162, 3) := by decide +kernel
theorem dX6_rank_17 : decode cX6_rank 17 = .ok (.iconst 0, 1) := by decide +kernel
theorem dX6_rank_18 : decode cX6_rank 18 = .ok (.istore_n 2, 1) := by decide +kernel
theorem dX6_rank_19 : decode cX6_rank 19 = .ok (.iload_n 2, 1) := by decide +kernel
theorem dX6_rank_20 : decode cX6_rank 20 = .ok (.bipush 8, 2) := by decide +kernel
theorem dX6_rank_22 : decode cX6_rank 22 = .ok (.if_icmp .ge 28, 3) := by decide +kernel
theorem dX6_rank_25 : decode cX6_rank 25 = .ok (.aload_n 0, 1) := by decide +kernel
theorem dX6_rank_26 : decode cX6_rank 26 = .ok (.iload_n 2, 1) := by decide +kernel
theorem dX6_rank_27 : decode cX6_rank 27 = .ok (.invokevirtual 71, 3) := by decide +kernel
theorem dX6_rank_30 : decode cX6_rank 30 = .ok (.ifCond .eq 14, 3) := by decide +kernel
theorem dX6_rank_33 : decode cX6_rank 33 = .ok (.aload_n 0, 1) := by decide +kernel
theorem dX6_rank_34 : decode cX6_rank 34 = .ok (.iload_n 2, 1) := by decide +kernel
theorem dX6_rank_35 : decode cX6_rank 35 = .ok (.invokevirtual 200, 3) := by decide +kernel
theorem dX6_rank_38 : decode cX6_rank 38 = .ok (.iload_n 1, 1) := by decide +kernel
theorem dX6_rank_39 : decode cX6_rank 39 = .ok (.if_icmp .ne 5, 3) := by decide +kernel
theorem dX6_rank_42 : decode cX6_rank 42 = .ok (.iload_n 2, 1) := by decide +kernel
theorem dX6_rank_43 : decode cX6_rank 43 = .ok (.ireturn, 1) := by decide +kernel
theorem dX6_rank_44 : decode cX6_rank 44 = .ok (.iinc 2 1, 3) := by decide +kernel
theorem dX6_rank_47 : decode cX6_rank 47 = .ok (.goto (-28), 3) := by decide +kernel
theorem dX6_rank_50 : decode cX6_rank 50 = .ok (.bipush (-9), 2) := by decide +kernel
theorem dX6_rank_52 : decode cX6_rank 52 = .ok (.ireturn, 1) := by decide +kernel
set_option maxRecDepth 20000 in
theorem ggX6_writes_X6_findNarrowed : GoodIn wsX6_writes wsX6_findNarrowed := goodIn_r _ [7, 8, 1, 9, 10, 11, 12, 6, 13, 14, 15, 16, 17, 18, 19, 20, 21, 22, 23, 24, 25, 26, 27, 28, 29, 30, 31, 32, 33, 34, 35, 36, 37, 38, 39, 40, 41, 42, 43, 44, 45, 46, 47, 48, 49, 50, 51, 52, 53, 54, 55, 56, 57, 58, 59, 60, 61, 62, 63, 64, 65, 66, 67, 68, 69, 70, 71, 72, 73, 74, 75, 76, 77, 78, 79, 80, 81, 82, 83, 84, 85, 86, 87, 88, 89, 90, 91, 92, 93, 94, 95, 96, 97, 98, 99, 100, 101, 102, 103, 104, 105, 106, 107, 108] (by decide +kernel) (by decide +kernel)
set_option maxRecDepth 20000 in
theorem gX6_writes_X6_findNarrowed : GoodIn wsX6_writes (wsV RX6 159 RX6 yX6_findNarrowed wsX6_findNarrowed) := goodIn_app (goodIn_of _ (by decide +kernel)) ggX6_writes_X6_findNarrowed
set_option maxRecDepth 20000 in
theorem ggX6_writes_X6_speaks : GoodIn wsX6_writes wsX6_speaks := goodIn_r _ [17, 18, 19, 20, 6, 21, 22, 23, 88, 89, 90, 91, 92, 93, 94, 95, 96, 97, 98, 99, 100, 101, 102, 103, 104, 105, 106, 107, 108] (by decide +kernel) (by decide +kernel)
set_option maxRecDepth 20000 in
theorem gX6_writes_X6_speaks : GoodIn wsX6_writes (wsV RX6 78 RX6 yX6_speaks wsX6_speaks) := goodIn_app (goodIn_of _ (by decide +kernel)) ggX6_writes_X6_speaks
set_option maxRecDepth 20000 in
theorem ggX6_writes_X6_has : GoodIn wsX6_writes wsX6_has := goodIn_r _ [46] (by decide +kernel) (by decide +kernel)
set_option maxRecDepth 20000 in
theorem gX6_writes_X6_has : GoodIn wsX6_writes (va_wsS RX6 85 yX6_has wsX6_has) := goodIn_app (goodIn_of _ (by decide +kernel)) ggX6_writes_X6_has
theorem dX6_writes_0 : decode cX6_writes 0 = .ok (.aload_n 0, 1) := by decide +kernel
theorem dX6_writes_1 : decode cX6_writes 1 = .ok (.invokevirtual 159, 3) := by decide +kernel
theorem dX6_writes_4 : decode cX6_writes 4 = .ok (.aload_n 0, 1) := by decide +kernel
theorem dX6_writes_5 : decode cX6_writes 5 = .ok (.iload_n 1, 1) := by decide +kernel
theorem dX6_writes_6 : decode cX6_writes 6 = .ok (.invokevirtual 78, 3) := by decide +kernel
theorem dX6_writes_9 : decode cX6_writes 9 = .ok (.ifCond .eq 12, 3) := by decide +kernel
theorem dX6_writes_12 : decode cX6_writes 12 = .ok (.aload_n 0, 1) := by decide +kernel
theorem dX6_writes_13 : decode cX6_writes 13 = .ok (.getfield 42, 3) := by decide +kernel
theorem dX6_writes_16 : decode cX6_writes 16 = .ok (.iload_n 1, 1) := by decide +kernel
theorem dX6_writes_17 : decode cX6_writes 17 = .ok (.iaload, 1) := by decide +kernel
theorem dX6_writes_18 : decode cX6_writes 18 = .ok (.ifCond .ne 26, 3) := by decide +kernel
theorem dX6_writes_21 : decode cX6_writes 21 = .ok (.aload_n 0, 1) := by decide +kernel
theorem dX6_writes_22 : decode cX6_writes 22 = .ok (.getfield 61, 3) := by decide +kernel
theorem dX6_writes_25 : decode cX6_writes 25 = .ok (.iconst 0, 1) := by decide +kernel
theorem dX6_writes_26 : decode cX6_writes 26 = .ok (.aload_n 0, 1) := by decide +kernel
theorem dX6_writes_27 : decode cX6_writes 27 = .ok (.iload_n 1, 1) := by decide +kernel
theorem dX6_writes_28 : decode cX6_writes 28 = .ok (.invokevirtual 78, 3) := by decide +kernel
theorem dX6_writes_31 : decode cX6_writes 31 = .ok (.ifCond .eq 8, 3) := by decide +kernel
theorem dX6_writes_34 : decode cX6_writes 34 = .ok (.bipush 33, 2) := by decide +kernel
theorem dX6_writes_36 : decode cX6_writes 36 = .ok (.goto 5, 3) := by decide +kernel
theorem dX6_writes_39 : decode cX6_writes 39 = .ok (.bipush 46, 2) := by decide +kernel
theorem dX6_writes_41 : decode cX6_writes 41 = .ok (.iastore, 1) := by decide +kernel
theorem dX6_writes_42 : decode cX6_writes 42 = .ok (.iconst 1, 1) := by decide +kernel
theorem dX6_writes_43 : decode cX6_writes 43 = .ok (.ireturn, 1) := by decide +kernel
theorem dX6_writes_44 : decode cX6_writes 44 = .ok (.iconst 0, 1) := by decide +kernel
theorem dX6_writes_45 : decode cX6_writes 45 = .ok (.istore_n 2, 1) := by decide +kernel
theorem dX6_writes_46 : decode cX6_writes 46 = .ok (.iconst 0, 1) := by decide +kernel
theorem dX6_writes_47 : decode cX6_writes 47 = .ok (.istore_n 3, 1) := by decide +kernel
theorem dX6_writes_48 : decode cX6_writes 48 = .ok (.iload_n 3, 1) := by decide +kernel
theorem dX6_writes_49 : decode cX6_writes 49 = .ok (.bipush 8, 2) := by decide +kernel
theorem dX6_writes_51 : decode cX6_writes 51 = .ok (.if_icmp .ge 50, 3) := by decide +kernel
theorem dX6_writes_54 : decode cX6_writes 54 = .ok (.aload_n 0, 1) := by decide +kernel
theorem dX6_writes_55 : decode cX6_writes 55 = .ok (.getfield 42, 3) := by decide +kernel
theorem dX6_writes_58 : decode cX6_writes 58 = .ok (.iload_n 1, 1) := by decide +kernel
theorem dX6_writes_59 : decode cX6_writes 59 = .ok (.iaload, 1) := by decide +kernel
theorem dX6_writes_60 : decode cX6_writes 60 = .ok (.iload_n 3, 1) := by decide +kernel
theorem dX6_writes_61 : decode cX6_writes 61 = .ok (.invokestatic 85, 3) := by decide +kernel
theorem dX6_writes_64 : decode cX6_writes 64 = .ok (.ifCond .eq 31, 3) := by decide +kernel
theorem dX6_writes_67 : decode cX6_writes 67 = .ok (.iload_n 2, 1) := by decide +kernel
theorem dX6_writes_68 : decode cX6_writes 68 = .ok (.ifCond .le 14, 3) := by decide +kernel
theorem dX6_writes_71 : decode cX6_writes 71 = .ok (.aload_n 0, 1) := by decide +kernel
theorem dX6_writes_72 : decode cX6_writes 72 = .ok (.getfield 61, 3) := by decide +kernel
theorem dX6_writes_75 : decode cX6_writes 75 = .ok (.iload_n 2, 1) := by decide +kernel
theorem dX6_writes_76 : decode cX6_writes 76 = .ok (.bipush 47, 2) := by decide +kernel
theorem dX6_writes_78 : decode cX6_writes 78 = .ok (.iastore, 1) := by decide +kernel
theorem dX6_writes_79 : decode cX6_writes 79 = .ok (.iinc 2 1, 3) := by decide +kernel
theorem dX6_writes_82 : decode cX6_writes 82 = .ok (.aload_n 0, 1) := by decide +kernel
theorem dX6_writes_83 : decode cX6_writes 83 = .ok (.getfield 61, 3) := by decide +kernel
theorem dX6_writes_86 : decode cX6_writes 86 = .ok (.iload_n 2, 1) := by decide +kernel
theorem dX6_writes_87 : decode cX6_writes 87 = .ok (.bipush 65, 2) := by decide +kernel
theorem dX6_writes_89 : decode cX6_writes 89 = .ok (.iload_n 3, 1) := by decide +kernel
theorem dX6_writes_90 : decode cX6_writes 90 = .ok (.iadd, 1) := by decide +kernel
theorem dX6_writes_91 : decode cX6_writes 91 = .ok (.iastore, 1) := by decide +kernel
theorem dX6_writes_92 : decode cX6_writes 92 = .ok (.iinc 2 1, 3) := by decide +kernel
theorem dX6_writes_95 : decode cX6_writes 95 = .ok (.iinc 3 1, 3) := by decide +kernel
theorem dX6_writes_98 : decode cX6_writes 98 = .ok (.goto (-50), 3) := by decide +kernel
theorem dX6_writes_101 : decode cX6_writes 101 = .ok (.iload_n 2, 1) := by decide +kernel
theorem dX6_writes_102 : decode cX6_writes 102 = .ok (.ireturn, 1) := by decide +kernel
set_option maxRecDepth 20000 in
theorem ggX6_written_X6_isParagraph : GoodIn wsX6_written wsX6_isParagraph := goodIn_r _ [6, 7, 8, 9, 5, 10, 96, 97, 98, 99, 100, 101, 102, 103, 104, 105, 106, 107, 108, 109, 110, 111, 112, 113, 114, 115, 116] (by decide +kernel) (by decide +kernel)
set_option maxRecDepth 20000 in
theorem gX6_written_X6_isParagraph : GoodIn wsX6_written (wsV RX6 131 RX6 yX6_isParagraph wsX6_isParagraph) := goodIn_app (goodIn_of _ (by decide +kernel)) ggX6_written_X6_isParagraph
set_option maxRecDepth 20000 in
theorem ggX6_written_X6_within : GoodIn wsX6_written wsX6_within := goodIn_r _ [10] (by decide +kernel) (by decide +kernel)
set_option maxRecDepth 20000 in
theorem gX6_written_X6_within : GoodIn wsX6_written (va_wsS RX6 64 yX6_within wsX6_within) := goodIn_app (goodIn_of _ (by decide +kernel)) ggX6_written_X6_within
set_option maxRecDepth 20000 in
theorem ggX6_written_X6_writes : GoodIn wsX6_written wsX6_writes := goodIn_r _ [14, 15, 1, 16, 17, 18, 5, 19, 7, 20, 21, 22, 23, 24, 25, 26, 27, 28, 29, 30, 31, 32, 33, 34, 35, 36, 37, 38, 39, 40, 41, 42, 43, 44, 45, 46, 47, 48, 49, 50, 51, 8, 9, 10, 52, 53, 54, 55, 56, 57, 58, 59, 60, 61, 62, 63, 64, 65, 66, 67, 68, 69, 70, 71, 72, 73, 74, 75, 76, 77, 78, 79, 80, 81, 82, 83, 84, 85, 86, 87, 88, 89, 90, 91, 92, 93, 94, 95, 96, 97, 98, 99, 100, 101, 102, 103, 104, 105, 106, 107, 108, 109, 110, 111, 112, 113, 114, 115, 116] (by decide +kernel) (by decide +kernel)
set_option maxRecDepth 20000 in
theorem gX6_written_X6_writes : GoodIn wsX6_written (wsV RX6 203 RX6 yX6_writes wsX6_writes) := goodIn_app (goodIn_of _ (by decide +kernel)) ggX6_written_X6_writes
theorem dX6_written_0 : decode cX6_written 0 = .ok (.aload_n 0, 1) := by decide +kernel
theorem dX6_written_1 : decode cX6_written 1 = .ok (.iload_n 1, 1) := by decide +kernel
theorem dX6_written_2 : decode cX6_written 2 = .ok (.invokevirtual 131, 3) := by decide +kernel
theorem dX6_written_5 : decode cX6_written 5 = .ok (.ifCond .ne 5, 3) := by decide +kernel
theorem dX6_written_8 : decode cX6_written 8 = .ok (.iconst (-1), 1) := by decide +kernel
theorem dX6_written_9 : decode cX6_written 9 = .ok (.ireturn, 1) := by decide +kernel
theorem dX6_written_10 : decode cX6_written 10 = .ok (.iload_n 2, 1) := by decide +kernel
theorem dX6_written_11 : decode cX6_written 11 = .ok (.iconst (-1), 1) := by decide +kernel
theorem dX6_written_12 : decode cX6_written 12 = .ok (.bipush 14, 2) := by decide +kernel
theorem dX6_written_14 : decode cX6_written 14 = .ok (.invokestatic 64, 3) := by decide +kernel
theorem dX6_written_17 : decode cX6_written 17 = .ok (.ifCond .ne 6, 3) := by decide +kernel
theorem dX6_written_20 : decode cX6_written 20 = .ok (.bipush (-2), 2) := by decide +kernel
theorem dX6_written_22 : decode cX6_written 22 = .ok (.ireturn, 1) := by decide +kernel
theorem dX6_written_23 : decode cX6_written 23 = .ok (.aload_n 0, 1) := by decide +kernel
theorem dX6_written_24 : decode cX6_written 24 = .ok (.iload_n 1, 1) := by decide +kernel
theorem dX6_written_25 : decode cX6_written 25 = .ok (.invokevirtual 203, 3) := by decide +kernel
theorem dX6_written_28 : decode cX6_written 28 = .ok (.istore_n 3, 1) := by decide +kernel
theorem dX6_written_29 : decode cX6_written 29 = .ok (.iload_n 2, 1) := by decide +kernel
theorem dX6_written_30 : decode cX6_written 30 = .ok (.ifCond .ge 7, 3) := by decide +kernel
theorem dX6_written_33 : decode cX6_written 33 = .ok (.iload_n 3, 1) := by decide +kernel
theorem dX6_written_34 : decode cX6_written 34 = .ok (.goto 19, 3) := by decide +kernel
theorem dX6_written_37 : decode cX6_written 37 = .ok (.iload_n 2, 1) := by decide +kernel
theorem dX6_written_38 : decode cX6_written 38 = .ok (.iload_n 3, 1) := by decide +kernel
theorem dX6_written_39 : decode cX6_written 39 = .ok (.if_icmp .ge 12, 3) := by decide +kernel
theorem dX6_written_42 : decode cX6_written 42 = .ok (.aload_n 0, 1) := by decide +kernel
theorem dX6_written_43 : decode cX6_written 43 = .ok (.getfield 61, 3) := by decide +kernel
theorem dX6_written_46 : decode cX6_written 46 = .ok (.iload_n 2, 1) := by decide +kernel
theorem dX6_written_47 : decode cX6_written 47 = .ok (.iaload, 1) := by decide +kernel
theorem dX6_written_48 : decode cX6_written 48 = .ok (.goto 5, 3) := by decide +kernel
theorem dX6_written_51 : decode cX6_written 51 = .ok (.bipush (-9), 2) := by decide +kernel
theorem dX6_written_53 : decode cX6_written 53 = .ok (.ireturn, 1) := by decide +kernel
set_option maxRecDepth 20000 in
theorem ggX6_manySpeak_X6_speaks : GoodIn wsX6_manySpeak wsX6_speaks := goodIn_r _ [6, 7, 8, 9, 5, 10, 11, 12, 13, 14, 15, 16, 17, 18, 19, 20, 21, 22, 23, 24, 25, 26, 27, 28, 29, 30, 31, 32, 33] (by decide +kernel) (by decide +kernel)
set_option maxRecDepth 20000 in
theorem gX6_manySpeak_X6_speaks : GoodIn wsX6_manySpeak (wsV RX6 78 RX6 yX6_speaks wsX6_speaks) := goodIn_app (goodIn_of _ (by decide +kernel)) ggX6_manySpeak_X6_speaks
theorem dX6_manySpeak_0 : decode cX6_manySpeak 0 = .ok (.iconst 0, 1) := by decide +kernel
theorem dX6_manySpeak_1 : decode cX6_manySpeak 1 = .ok (.istore_n 1, 1) := by decide +kernel
theorem dX6_manySpeak_2 : decode cX6_manySpeak 2 = .ok (.iconst 0, 1) := by decide +kernel
theorem dX6_manySpeak_3 : decode cX6_manySpeak 3 = .ok (.istore_n 2, 1) := by decide +kernel
theorem dX6_manySpeak_4 : decode cX6_manySpeak 4 = .ok (.iload_n 2, 1) := by decide +kernel
theorem dX6_manySpeak_5 : decode cX6_manySpeak 5 = .ok (.aload_n 0, 1) := by decide +kernel
theorem dX6_manySpeak_6 : decode cX6_manySpeak 6 = .ok (.getfield 68, 3) := by decide +kernel
theorem dX6_manySpeak_9 : decode cX6_manySpeak 9 = .ok (.if_icmp .ge 25, 3) := by decide +kernel
theorem dX6_manySpeak_12 : decode cX6_manySpeak 12 = .ok (.iload_n 1, 1) := by decide +kernel
theorem dX6_manySpeak_13 : decode cX6_manySpeak 13 = .ok (.aload_n 0, 1) := by decide +kernel
theorem dX6_manySpeak_14 : decode cX6_manySpeak 14 = .ok (.iload_n 2, 1) := by decide +kernel
theorem dX6_manySpeak_15 : decode cX6_manySpeak 15 = .ok (.invokevirtual 78, 3) := by decide +kernel
theorem dX6_manySpeak_18 : decode cX6_manySpeak 18 = .ok (.ifCond .eq 7, 3) := by decide +kernel
theorem dX6_manySpeak_21 : decode cX6_manySpeak 21 = .ok (.iconst 1, 1) := by decide +kernel
theorem dX6_manySpeak_22 : decode cX6_manySpeak 22 = .ok (.goto 4, 3) := by decide +kernel
theorem dX6_manySpeak_25 : decode cX6_manySpeak 25 = .ok (.iconst 0, 1) := by decide +kernel
theorem dX6_manySpeak_26 : decode cX6_manySpeak 26 = .ok (.iadd, 1) := by decide +kernel
theorem dX6_manySpeak_27 : decode cX6_manySpeak 27 = .ok (.istore_n 1, 1) := by decide +kernel
theorem dX6_manySpeak_28 : decode cX6_manySpeak 28 = .ok (.iinc 2 1, 3) := by decide +kernel
theorem dX6_manySpeak_31 : decode cX6_manySpeak 31 = .ok (.goto (-27), 3) := by decide +kernel
theorem dX6_manySpeak_34 : decode cX6_manySpeak 34 = .ok (.iload_n 1, 1) := by decide +kernel
theorem dX6_manySpeak_35 : decode cX6_manySpeak 35 = .ok (.ireturn, 1) := by decide +kernel
set_option maxRecDepth 20000 in
theorem ggX6_manySure_X6_findSure : GoodIn wsX6_manySure wsX6_findSure := goodIn_r _ [7, 1, 2, 8, 9, 10, 6, 11, 12, 13, 14, 15, 16, 17, 18, 19, 20, 21, 22, 23, 24, 25, 26, 27, 28, 29, 30, 31, 32, 33, 34, 35, 36, 37, 38, 39, 40, 41, 42, 43, 44, 45, 46, 47, 48, 49, 50, 51, 52, 53, 54, 55, 56, 57, 58, 59, 60, 61, 62, 63, 64, 65, 66, 67, 68, 69, 70, 71, 72, 73, 74, 75, 76, 77, 78, 79, 80, 81, 82, 83, 84, 85, 86, 87, 88, 89, 90, 91, 92, 93, 94, 95, 96, 97, 98, 99, 103, 104, 105, 106, 107, 108, 109, 110, 111, 112, 113, 114, 115, 116, 117, 118, 119, 120, 121, 122, 123] (by decide +kernel) (by decide +kernel)
set_option maxRecDepth 20000 in
theorem gX6_manySure_X6_findSure : GoodIn wsX6_manySure (wsV RX6 162 RX6 yX6_findSure wsX6_findSure) := goodIn_app (goodIn_of _ (by decide +kernel)) ggX6_manySure_X6_findSure
set_option maxRecDepth 20000 in
theorem ggX6_manySure_X6_size : GoodIn wsX6_manySure wsX6_size := goodIn_r _ [102] (by decide +kernel) (by decide +kernel)
set_option maxRecDepth 20000 in
theorem gX6_manySure_X6_size : GoodIn wsX6_manySure (va_wsS RX6 146 yX6_size wsX6_size) := goodIn_app (goodIn_of _ (by decide +kernel)) ggX6_manySure_X6_size
theorem dX6_manySure_0 : decode cX6_manySure 0 = .ok (.aload_n 0, 1) := by decide +kernel
theorem dX6_manySure_1 : decode cX6_manySure 1 = .ok (.invokevirtual 162, 3) := by decide +kernel
theorem dX6_manySure_4 : decode cX6_manySure 4 = .ok (.iconst 0, 1) := by decide +kernel
theorem dX6_manySure_5 : decode cX6_manySure 5 = .ok (.istore_n 1, 1) := by decide +kernel
theorem dX6_manySure_6 : decode cX6_manySure 6 = .ok (.iconst 0, 1) := by decide +kernel
theorem dX6_manySure_7 : decode cX6_manySure 7 = .ok (.istore_n 2, 1) := by decide +kernel
theorem dX6_manySure_8 : decode cX6_manySure 8 = .ok (.iload_n 2, 1) := by decide +kernel
theorem dX6_manySure_9 : decode cX6_manySure 9 = .ok (.aload_n 0, 1) := by decide +kernel
theorem dX6_manySure_10 : decode cX6_manySure 10 = .ok (.getfield 68, 3) := by decide +kernel
theorem dX6_manySure_13 : decode cX6_manySure 13 = .ok (.if_icmp .ge 30, 3) := by decide +kernel
theorem dX6_manySure_16 : decode cX6_manySure 16 = .ok (.iload_n 1, 1) := by decide +kernel
theorem dX6_manySure_17 : decode cX6_manySure 17 = .ok (.aload_n 0, 1) := by decide +kernel
theorem dX6_manySure_18 : decode cX6_manySure 18 = .ok (.getfield 58, 3) := by decide +kernel
theorem dX6_manySure_21 : decode cX6_manySure 21 = .ok (.iload_n 2, 1) := by decide +kernel
theorem dX6_manySure_22 : decode cX6_manySure 22 = .ok (.iaload, 1) := by decide +kernel
theorem dX6_manySure_23 : decode cX6_manySure 23 = .ok (.invokestatic 146, 3) := by decide +kernel
theorem dX6_manySure_26 : decode cX6_manySure 26 = .ok (.iconst 1, 1) := by decide +kernel
theorem dX6_manySure_27 : decode cX6_manySure 27 = .ok (.if_icmp .ne 7, 3) := by decide +kernel
theorem dX6_manySure_30 : decode cX6_manySure 30 = .ok (.iconst 1, 1) := by decide +kernel
theorem dX6_manySure_31 : decode cX6_manySure 31 = .ok (.goto 4, 3) := by decide +kernel
theorem dX6_manySure_34 : decode cX6_manySure 34 = .ok (.iconst 0, 1) := by decide +kernel
theorem dX6_manySure_35 : decode cX6_manySure 35 = .ok (.iadd, 1) := by decide +kernel
theorem dX6_manySure_36 : decode cX6_manySure 36 = .ok (.istore_n 1, 1) := by decide +kernel
theorem dX6_manySure_37 : decode cX6_manySure 37 = .ok (.iinc 2 1, 3) := by decide +kernel
theorem dX6_manySure_40 : decode cX6_manySure 40 = .ok (.goto (-32), 3) := by decide +kernel
theorem dX6_manySure_43 : decode cX6_manySure 43 = .ok (.iload_n 1, 1) := by decide +kernel
theorem dX6_manySure_44 : decode cX6_manySure 44 = .ok (.ireturn, 1) := by decide +kernel
theorem dX6_manyHints_0 : decode cX6_manyHints 0 = .ok (.iconst 0, 1) := by decide +kernel
theorem dX6_manyHints_1 : decode cX6_manyHints 1 = .ok (.istore_n 1, 1) := by decide +kernel
theorem dX6_manyHints_2 : decode cX6_manyHints 2 = .ok (.iconst 0, 1) := by decide +kernel
theorem dX6_manyHints_3 : decode cX6_manyHints 3 = .ok (.istore_n 2, 1) := by decide +kernel
theorem dX6_manyHints_4 : decode cX6_manyHints 4 = .ok (.iload_n 2, 1) := by decide +kernel
theorem dX6_manyHints_5 : decode cX6_manyHints 5 = .ok (.aload_n 0, 1) := by decide +kernel
theorem dX6_manyHints_6 : decode cX6_manyHints 6 = .ok (.getfield 68, 3) := by decide +kernel
theorem dX6_manyHints_9 : decode cX6_manyHints 9 = .ok (.if_icmp .ge 28, 3) := by decide +kernel
theorem dX6_manyHints_12 : decode cX6_manyHints 12 = .ok (.iload_n 1, 1) := by decide +kernel
theorem dX6_manyHints_13 : decode cX6_manyHints 13 = .ok (.aload_n 0, 1) := by decide +kernel
theorem dX6_manyHints_14 : decode cX6_manyHints 14 = .ok (.getfield 36, 3) := by decide +kernel
theorem dX6_manyHints_17 : decode cX6_manyHints 17 = .ok (.iload_n 2, 1) := by decide +kernel
theorem dX6_manyHints_18 : decode cX6_manyHints 18 = .ok (.iaload, 1) := by decide +kernel
theorem dX6_manyHints_19 : decode cX6_manyHints 19 = .ok (.bipush (-9), 2) := by decide +kernel
theorem dX6_manyHints_21 : decode cX6_manyHints 21 = .ok (.if_icmp .eq 7, 3) := by decide +kernel
theorem dX6_manyHints_24 : decode cX6_manyHints 24 = .ok (.iconst 1, 1) := by decide +kernel
theorem dX6_manyHints_25 : decode cX6_manyHints 25 = .ok (.goto 4, 3) := by decide +kernel
theorem dX6_manyHints_28 : decode cX6_manyHints 28 = .ok (.iconst 0, 1) := by decide +kernel
theorem dX6_manyHints_29 : decode cX6_manyHints 29 = .ok (.iadd, 1) := by decide +kernel
theorem dX6_manyHints_30 : decode cX6_manyHints 30 = .ok (.istore_n 1, 1) := by decide +kernel
theorem dX6_manyHints_31 : decode cX6_manyHints 31 = .ok (.iinc 2 1, 3) := by decide +kernel
theorem dX6_manyHints_34 : decode cX6_manyHints 34 = .ok (.goto (-30), 3) := by decide +kernel
theorem dX6_manyHints_37 : decode cX6_manyHints 37 = .ok (.iload_n 1, 1) := by decide +kernel
theorem dX6_manyHints_38 : decode cX6_manyHints 38 = .ok (.ireturn, 1) := by decide +kernel
set_option maxRecDepth 20000 in
theorem ggX6_many_X6_there : GoodIn wsX6_many wsX6_there := goodIn_r _ [9, 10, 125, 126, 127, 128, 129, 130, 131, 132, 133, 134, 135, 136, 137, 138, 139, 140, 141, 142, 143, 144, 145] (by decide +kernel) (by decide +kernel)
set_option maxRecDepth 20000 in
theorem gX6_many_X6_there : GoodIn wsX6_many (wsV RX6 92 RX6 yX6_there wsX6_there) := goodIn_app (goodIn_of _ (by decide +kernel)) ggX6_many_X6_there
set_option maxRecDepth 20000 in
theorem ggX6_many_X6_size : GoodIn wsX6_many wsX6_size := goodIn_r _ [13] (by decide +kernel) (by decide +kernel)
set_option maxRecDepth 20000 in
theorem gX6_many_X6_size : GoodIn wsX6_many (va_wsS RX6 146 yX6_size wsX6_size) := goodIn_app (goodIn_of _ (by decide +kernel)) ggX6_many_X6_size
set_option maxRecDepth 20000 in
theorem ggX6_many_X6_manySpeak : GoodIn wsX6_many wsX6_manySpeak := goodIn_r _ [17, 1, 18, 19, 20, 8, 21, 22, 23, 24, 25, 26, 27, 125, 126, 127, 128, 129, 130, 131, 132, 133, 134, 135, 136, 137, 138, 139, 140, 141, 142, 143, 144, 145] (by decide +kernel) (by decide +kernel)
set_option maxRecDepth 20000 in
theorem gX6_many_X6_manySpeak : GoodIn wsX6_many (wsV RX6 206 RX6 yX6_manySpeak wsX6_manySpeak) := goodIn_app (goodIn_of _ (by decide +kernel)) ggX6_many_X6_manySpeak
set_option maxRecDepth 20000 in
theorem ggX6_many_X6_runs : GoodIn wsX6_many wsX6_runs := goodIn_r _ [31, 1, 32, 33, 34, 8, 35, 18, 19, 20, 21, 22, 23, 24, 25, 26, 27, 125, 126, 127, 128, 129, 130, 131, 132, 133, 134, 135, 136, 137, 138, 139, 140, 141, 142, 143, 144, 145] (by decide +kernel) (by decide +kernel)
set_option maxRecDepth 20000 in
theorem gX6_many_X6_runs : GoodIn wsX6_many (wsV RX6 190 RX6 yX6_runs wsX6_runs) := goodIn_app (goodIn_of _ (by decide +kernel)) ggX6_many_X6_runs
set_option maxRecDepth 20000 in
theorem ggX6_many_X6_manySure : GoodIn wsX6_many wsX6_manySure := goodIn_r _ [39, 1, 40, 41, 42, 43, 8, 44, 45, 46, 47, 48, 49, 50, 51, 52, 53, 18, 19, 20, 21, 22, 23, 24, 25, 26, 27, 54, 55, 56, 57, 58, 59, 4, 60, 5, 6, 7, 9, 10, 61, 62, 63, 64, 65, 66, 67, 68, 69, 70, 71, 72, 73, 74, 75, 76, 77, 78, 79, 80, 81, 82, 83, 84, 85, 86, 87, 88, 89, 90, 91, 92, 93, 94, 95, 96, 97, 98, 99, 100, 101, 102, 103, 104, 105, 106, 107, 108, 109, 110, 111, 112, 113, 114, 115, 116, 117, 118, 119, 120, 11, 12, 13, 125, 126, 127, 128, 129, 130, 131, 132, 133, 134, 135, 136, 137, 138, 139, 140, 141, 142, 143, 144, 145] (by decide +kernel) (by decide +kernel)
set_option maxRecDepth 20000 in
theorem gX6_many_X6_manySure : GoodIn wsX6_many (wsV RX6 209 RX6 yX6_manySure wsX6_manySure) := goodIn_app (goodIn_of _ (by decide +kernel)) ggX6_many_X6_manySure
set_option maxRecDepth 20000 in
theorem ggX6_many_X6_manyHints : GoodIn wsX6_many wsX6_manyHints := goodIn_r _ [124, 1, 60, 125, 126, 127, 128, 129, 130, 131, 132, 133, 134, 135, 136, 137, 138, 139, 140, 141, 142, 143, 144, 145] (by decide +kernel) (by decide +kernel)
set_option maxRecDepth 20000 in
theorem gX6_many_X6_manyHints : GoodIn wsX6_many (wsV RX6 212 RX6 yX6_manyHints wsX6_manyHints) := goodIn_app (goodIn_of _ (by decide +kernel)) ggX6_many_X6_manyHints
theorem dX6_many_0 : decode cX6_many 0 = .ok (.iload_n 1, 1) := by decide +kernel
theorem dX6_many_1 : decode cX6_many 1 = .ok (.tableswitch 99 0 8 #[51, 59, 64, 69, 74, 79, 84, 89, 94], 51) := by decide +kernel
theorem dX6_many_52 : decode cX6_many 52 = .ok (.aload_n 0, 1) := by decide +kernel
theorem dX6_many_53 : decode cX6_many 53 = .ok (.invokevirtual 92, 3) := by decide +kernel
theorem dX6_many_56 : decode cX6_many 56 = .ok (.invokestatic 146, 3) := by decide +kernel
theorem dX6_many_59 : decode cX6_many 59 = .ok (.ireturn, 1) := by decide +kernel
theorem dX6_many_60 : decode cX6_many 60 = .ok (.aload_n 0, 1) := by decide +kernel
theorem dX6_many_61 : decode cX6_many 61 = .ok (.getfield 68, 3) := by decide +kernel
theorem dX6_many_64 : decode cX6_many 64 = .ok (.ireturn, 1) := by decide +kernel
theorem dX6_many_65 : decode cX6_many 65 = .ok (.aload_n 0, 1) := by decide +kernel
theorem dX6_many_66 : decode cX6_many 66 = .ok (.invokevirtual 206, 3) := by decide +kernel
theorem dX6_many_69 : decode cX6_many 69 = .ok (.ireturn, 1) := by decide +kernel
theorem dX6_many_70 : decode cX6_many 70 = .ok (.aload_n 0, 1) := by decide +kernel
theorem dX6_many_71 : decode cX6_many 71 = .ok (.invokevirtual 190, 3) := by decide +kernel
theorem dX6_many_74 : decode cX6_many 74 = .ok (.ireturn, 1) := by decide +kernel
theorem dX6_many_75 : decode cX6_many 75 = .ok (.aload_n 0, 1) := by decide +kernel
theorem dX6_many_76 : decode cX6_many 76 = .ok (.invokevirtual 209, 3) := by decide +kernel
theorem dX6_many_79 : decode cX6_many 79 = .ok (.ireturn, 1) := by decide +kernel
theorem dX6_many_80 : decode cX6_many 80 = .ok (.aload_n 0, 1) := by decide +kernel
theorem dX6_many_81 : decode cX6_many 81 = .ok (.invokevirtual 212, 3) := by decide +kernel
theorem dX6_many_84 : decode cX6_many 84 = .ok (.ireturn, 1) := by decide +kernel
theorem dX6_many_85 : decode cX6_many 85 = .ok (.aload_n 0, 1) := by decide +kernel
theorem dX6_many_86 : decode cX6_many 86 = .ok (.getfield 96, 3) := by decide +kernel
theorem dX6_many_89 : decode cX6_many 89 = .ok (.ireturn, 1) := by decide +kernel
theorem dX6_many_90 : decode cX6_many 90 = .ok (.aload_n 0, 1) := by decide +kernel
theorem dX6_many_91 : decode cX6_many 91 = .ok (.getfield 89, 3) := by decide +kernel
theorem dX6_many_94 : decode cX6_many 94 = .ok (.ireturn, 1) := by decide +kernel
theorem dX6_many_95 : decode cX6_many 95 = .ok (.aload_n 0, 1) := by decide +kernel
theorem dX6_many_96 : decode cX6_many 96 = .ok (.getfield 13, 3) := by decide +kernel
theorem dX6_many_99 : decode cX6_many 99 = .ok (.ireturn, 1) := by decide +kernel
theorem dX6_many_100 : decode cX6_many 100 = .ok (.bipush (-2), 2) := by decide +kernel
theorem dX6_many_102 : decode cX6_many 102 = .ok (.ireturn, 1) := by decide +kernel
theorem dJ6_bitCount_0f7a4_0 : decode cJ6_bitCount_0f7a4 0 = .ok (.iload_n 0, 1) := by decide +kernel
theorem dJ6_bitCount_0f7a4_1 : decode cJ6_bitCount_0f7a4 1 = .ok (.iload_n 0, 1) := by decide +kernel
theorem dJ6_bitCount_0f7a4_2 : decode cJ6_bitCount_0f7a4 2 = .ok (.iconst 1, 1) := by decide +kernel
theorem dJ6_bitCount_0f7a4_3 : decode cJ6_bitCount_0f7a4 3 = .ok (.iushr, 1) := by decide +kernel
theorem dJ6_bitCount_0f7a4_4 : decode cJ6_bitCount_0f7a4 4 = .ok (.ldc_w 265, 3) := by decide +kernel
theorem dJ6_bitCount_0f7a4_7 : decode cJ6_bitCount_0f7a4 7 = .ok (.iand, 1) := by decide +kernel
theorem dJ6_bitCount_0f7a4_8 : decode cJ6_bitCount_0f7a4 8 = .ok (.isub, 1) := by decide +kernel
theorem dJ6_bitCount_0f7a4_9 : decode cJ6_bitCount_0f7a4 9 = .ok (.istore_n 0, 1) := by decide +kernel
theorem dJ6_bitCount_0f7a4_10 : decode cJ6_bitCount_0f7a4 10 = .ok (.iload_n 0, 1) := by decide +kernel
theorem dJ6_bitCount_0f7a4_11 : decode cJ6_bitCount_0f7a4 11 = .ok (.ldc_w 266, 3) := by decide +kernel
theorem dJ6_bitCount_0f7a4_14 : decode cJ6_bitCount_0f7a4 14 = .ok (.iand, 1) := by decide +kernel
theorem dJ6_bitCount_0f7a4_15 : decode cJ6_bitCount_0f7a4 15 = .ok (.iload_n 0, 1) := by decide +kernel
theorem dJ6_bitCount_0f7a4_16 : decode cJ6_bitCount_0f7a4 16 = .ok (.iconst 2, 1) := by decide +kernel
theorem dJ6_bitCount_0f7a4_17 : decode cJ6_bitCount_0f7a4 17 = .ok (.iushr, 1) := by decide +kernel
theorem dJ6_bitCount_0f7a4_18 : decode cJ6_bitCount_0f7a4 18 = .ok (.ldc_w 266, 3) := by decide +kernel
theorem dJ6_bitCount_0f7a4_21 : decode cJ6_bitCount_0f7a4 21 = .ok (.iand, 1) := by decide +kernel
theorem dJ6_bitCount_0f7a4_22 : decode cJ6_bitCount_0f7a4 22 = .ok (.iadd, 1) := by decide +kernel
theorem dJ6_bitCount_0f7a4_23 : decode cJ6_bitCount_0f7a4 23 = .ok (.istore_n 0, 1) := by decide +kernel
theorem dJ6_bitCount_0f7a4_24 : decode cJ6_bitCount_0f7a4 24 = .ok (.iload_n 0, 1) := by decide +kernel
theorem dJ6_bitCount_0f7a4_25 : decode cJ6_bitCount_0f7a4 25 = .ok (.iload_n 0, 1) := by decide +kernel
theorem dJ6_bitCount_0f7a4_26 : decode cJ6_bitCount_0f7a4 26 = .ok (.iconst 4, 1) := by decide +kernel
theorem dJ6_bitCount_0f7a4_27 : decode cJ6_bitCount_0f7a4 27 = .ok (.iushr, 1) := by decide +kernel
theorem dJ6_bitCount_0f7a4_28 : decode cJ6_bitCount_0f7a4 28 = .ok (.iadd, 1) := by decide +kernel
theorem dJ6_bitCount_0f7a4_29 : decode cJ6_bitCount_0f7a4 29 = .ok (.ldc_w 267, 3) := by decide +kernel
theorem dJ6_bitCount_0f7a4_32 : decode cJ6_bitCount_0f7a4 32 = .ok (.iand, 1) := by decide +kernel
theorem dJ6_bitCount_0f7a4_33 : decode cJ6_bitCount_0f7a4 33 = .ok (.istore_n 0, 1) := by decide +kernel
theorem dJ6_bitCount_0f7a4_34 : decode cJ6_bitCount_0f7a4 34 = .ok (.iload_n 0, 1) := by decide +kernel
theorem dJ6_bitCount_0f7a4_35 : decode cJ6_bitCount_0f7a4 35 = .ok (.iload_n 0, 1) := by decide +kernel
theorem dJ6_bitCount_0f7a4_36 : decode cJ6_bitCount_0f7a4 36 = .ok (.bipush 8, 2) := by decide +kernel
theorem dJ6_bitCount_0f7a4_38 : decode cJ6_bitCount_0f7a4 38 = .ok (.iushr, 1) := by decide +kernel
theorem dJ6_bitCount_0f7a4_39 : decode cJ6_bitCount_0f7a4 39 = .ok (.iadd, 1) := by decide +kernel
theorem dJ6_bitCount_0f7a4_40 : decode cJ6_bitCount_0f7a4 40 = .ok (.istore_n 0, 1) := by decide +kernel
theorem dJ6_bitCount_0f7a4_41 : decode cJ6_bitCount_0f7a4 41 = .ok (.iload_n 0, 1) := by decide +kernel
theorem dJ6_bitCount_0f7a4_42 : decode cJ6_bitCount_0f7a4 42 = .ok (.iload_n 0, 1) := by decide +kernel
theorem dJ6_bitCount_0f7a4_43 : decode cJ6_bitCount_0f7a4 43 = .ok (.bipush 16, 2) := by decide +kernel
theorem dJ6_bitCount_0f7a4_45 : decode cJ6_bitCount_0f7a4 45 = .ok (.iushr, 1) := by decide +kernel
theorem dJ6_bitCount_0f7a4_46 : decode cJ6_bitCount_0f7a4 46 = .ok (.iadd, 1) := by decide +kernel
theorem dJ6_bitCount_0f7a4_47 : decode cJ6_bitCount_0f7a4 47 = .ok (.istore_n 0, 1) := by decide +kernel
theorem dJ6_bitCount_0f7a4_48 : decode cJ6_bitCount_0f7a4 48 = .ok (.iload_n 0, 1) := by decide +kernel
theorem dJ6_bitCount_0f7a4_49 : decode cJ6_bitCount_0f7a4 49 = .ok (.bipush 63, 2) := by decide +kernel
theorem dJ6_bitCount_0f7a4_51 : decode cJ6_bitCount_0f7a4 51 = .ok (.iand, 1) := by decide +kernel
theorem dJ6_bitCount_0f7a4_52 : decode cJ6_bitCount_0f7a4 52 = .ok (.ireturn, 1) := by decide +kernel
theorem dJ9_max_7cf53_0 : decode cJ9_max_7cf53 0 = .ok (.iload_n 0, 1) := by decide +kernel
theorem dJ9_max_7cf53_1 : decode cJ9_max_7cf53 1 = .ok (.iload_n 1, 1) := by decide +kernel
theorem dJ9_max_7cf53_2 : decode cJ9_max_7cf53 2 = .ok (.if_icmp .lt 7, 3) := by decide +kernel
theorem dJ9_max_7cf53_5 : decode cJ9_max_7cf53 5 = .ok (.iload_n 0, 1) := by decide +kernel
theorem dJ9_max_7cf53_6 : decode cJ9_max_7cf53 6 = .ok (.goto 4, 3) := by decide +kernel
theorem dJ9_max_7cf53_9 : decode cJ9_max_7cf53 9 = .ok (.iload_n 1, 1) := by decide +kernel
theorem dJ9_max_7cf53_10 : decode cJ9_max_7cf53 10 = .ok (.ireturn, 1) := by decide +kernel
theorem dJ9_max_f86c9_0 : decode cJ9_max_f86c9 0 = .ok (.lload_n 0, 1) := by decide +kernel
theorem dJ9_max_f86c9_1 : decode cJ9_max_f86c9 1 = .ok (.lload_n 2, 1) := by decide +kernel
theorem dJ9_max_f86c9_2 : decode cJ9_max_f86c9 2 = .ok (.lcmp, 1) := by decide +kernel
theorem dJ9_max_f86c9_3 : decode cJ9_max_f86c9 3 = .ok (.ifCond .lt 7, 3) := by decide +kernel
theorem dJ9_max_f86c9_6 : decode cJ9_max_f86c9 6 = .ok (.lload_n 0, 1) := by decide +kernel
theorem dJ9_max_f86c9_7 : decode cJ9_max_f86c9 7 = .ok (.goto 4, 3) := by decide +kernel
theorem dJ9_max_f86c9_10 : decode cJ9_max_f86c9 10 = .ok (.lload_n 2, 1) := by decide +kernel
theorem dJ9_max_f86c9_11 : decode cJ9_max_f86c9 11 = .ok (.lreturn, 1) := by decide +kernel
theorem dJ9_min_7cf53_0 : decode cJ9_min_7cf53 0 = .ok (.iload_n 0, 1) := by decide +kernel
theorem dJ9_min_7cf53_1 : decode cJ9_min_7cf53 1 = .ok (.iload_n 1, 1) := by decide +kernel
theorem dJ9_min_7cf53_2 : decode cJ9_min_7cf53 2 = .ok (.if_icmp .gt 7, 3) := by decide +kernel
theorem dJ9_min_7cf53_5 : decode cJ9_min_7cf53 5 = .ok (.iload_n 0, 1) := by decide +kernel
theorem dJ9_min_7cf53_6 : decode cJ9_min_7cf53 6 = .ok (.goto 4, 3) := by decide +kernel
theorem dJ9_min_7cf53_9 : decode cJ9_min_7cf53 9 = .ok (.iload_n 1, 1) := by decide +kernel
theorem dJ9_min_7cf53_10 : decode cJ9_min_7cf53 10 = .ok (.ireturn, 1) := by decide +kernel
