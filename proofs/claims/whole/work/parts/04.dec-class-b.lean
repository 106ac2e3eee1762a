set_option maxRecDepth 20000 in
theorem ggX8_init_X5_init : GoodIn wsX8_init wsX5_init := goodIn_r _ [14, 15, 2, 3, 16, 17, 23] (by decide +kernel) (by decide +kernel)
set_option maxRecDepth 20000 in
theorem gX8_init_X5_init_n11 : GoodIn wsX8_init (wsX5_init) := ggX8_init_X5_init
set_option maxRecDepth 20000 in
theorem ggX8_init_X6_init : GoodIn wsX8_init wsX6_init := goodIn_r _ [19, 20, 2, 3, 16, 21, 22, 27, 28, 29] (by decide +kernel) (by decide +kernel)
set_option maxRecDepth 20000 in
theorem gX8_init_X6_init_n20 : GoodIn wsX8_init (wsX6_init) := ggX8_init_X6_init
theorem dX8_init_0 : decode cX8_init 0 = .ok (.aload_n 0, 1) := by decide +kernel
theorem dX8_init_1 : decode cX8_init 1 = .ok (.invokespecial 3, 3) := by decide +kernel
theorem dX8_init_4 : decode cX8_init 4 = .ok (.aload_n 0, 1) := by decide +kernel
theorem dX8_init_5 : decode cX8_init 5 = .ok (.new 9, 3) := by decide +kernel
theorem dX8_init_8 : decode cX8_init 8 = .ok (.dup, 1) := by decide +kernel
theorem dX8_init_9 : decode cX8_init 9 = .ok (.invokespecial 11, 3) := by decide +kernel
theorem dX8_init_12 : decode cX8_init 12 = .ok (.putfield 12, 3) := by decide +kernel
theorem dX8_init_15 : decode cX8_init 15 = .ok (.aload_n 0, 1) := by decide +kernel
theorem dX8_init_16 : decode cX8_init 16 = .ok (.new 18, 3) := by decide +kernel
theorem dX8_init_19 : decode cX8_init 19 = .ok (.dup, 1) := by decide +kernel
theorem dX8_init_20 : decode cX8_init 20 = .ok (.invokespecial 20, 3) := by decide +kernel
theorem dX8_init_23 : decode cX8_init 23 = .ok (.putfield 21, 3) := by decide +kernel
theorem dX8_init_26 : decode cX8_init 26 = .ok (.aload_n 0, 1) := by decide +kernel
theorem dX8_init_27 : decode cX8_init 27 = .ok (.new 18, 3) := by decide +kernel
theorem dX8_init_30 : decode cX8_init 30 = .ok (.dup, 1) := by decide +kernel
theorem dX8_init_31 : decode cX8_init 31 = .ok (.invokespecial 20, 3) := by decide +kernel
theorem dX8_init_34 : decode cX8_init 34 = .ok (.putfield 25, 3) := by decide +kernel
theorem dX8_init_37 : decode cX8_init 37 = .ok (.return_, 1) := by decide +kernel
set_option maxRecDepth 20000 in
theorem ggX8_drawnSet_X7_cell : GoodIn wsX8_drawnSet wsX7_cell := goodIn_r _ [6, 7, 42] (by decide +kernel) (by decide +kernel)
set_option maxRecDepth 20000 in
theorem gX8_drawnSet_X7_cell : GoodIn wsX8_drawnSet (wsV RX8 30 RX7 yX7_cell wsX7_cell) := goodIn_app (goodIn_of _ (by decide +kernel)) ggX8_drawnSet_X7_cell
set_option maxRecDepth 20000 in
theorem ggX8_drawnSet_X5_arrange : GoodIn wsX8_drawnSet wsX5_arrange := goodIn_r _ [12, 13, 14, 3, 4, 5, 6, 7, 15, 16, 17, 11, 18, 19, 20, 21, 22, 23, 24, 25, 26, 43, 42] (by decide +kernel) (by decide +kernel)
set_option maxRecDepth 20000 in
theorem gX8_drawnSet_X5_arrange : GoodIn wsX8_drawnSet (wsV RX8 34 RX5 yX5_arrange wsX5_arrange) := goodIn_app (goodIn_of _ (by decide +kernel)) ggX8_drawnSet_X5_arrange
set_option maxRecDepth 20000 in
theorem ggX8_drawnSet_X5_chosen : GoodIn wsX8_drawnSet wsX5_chosen := goodIn_r _ [30, 13, 14, 3, 4, 5, 6, 7, 31, 32, 33, 34, 35, 20, 21, 22, 36, 37, 38, 43, 42] (by decide +kernel) (by decide +kernel)
set_option maxRecDepth 20000 in
theorem gX8_drawnSet_X5_chosen : GoodIn wsX8_drawnSet (wsV RX8 38 RX5 yX5_chosen wsX5_chosen) := goodIn_app (goodIn_of _ (by decide +kernel)) ggX8_drawnSet_X5_chosen
theorem dX8_drawnSet_0 : decode cX8_drawnSet 0 = .ok (.aload_n 0, 1) := by decide +kernel
theorem dX8_drawnSet_1 : decode cX8_drawnSet 1 = .ok (.getfield 12, 3) := by decide +kernel
theorem dX8_drawnSet_4 : decode cX8_drawnSet 4 = .ok (.aload_n 1, 1) := by decide +kernel
theorem dX8_drawnSet_5 : decode cX8_drawnSet 5 = .ok (.aload_n 1, 1) := by decide +kernel
theorem dX8_drawnSet_6 : decode cX8_drawnSet 6 = .ok (.iconst 2, 1) := by decide +kernel
theorem dX8_drawnSet_7 : decode cX8_drawnSet 7 = .ok (.invokevirtual 30, 3) := by decide +kernel
theorem dX8_drawnSet_10 : decode cX8_drawnSet 10 = .ok (.invokevirtual 34, 3) := by decide +kernel
theorem dX8_drawnSet_13 : decode cX8_drawnSet 13 = .ok (.aload_n 0, 1) := by decide +kernel
theorem dX8_drawnSet_14 : decode cX8_drawnSet 14 = .ok (.getfield 12, 3) := by decide +kernel
theorem dX8_drawnSet_17 : decode cX8_drawnSet 17 = .ok (.aload_n 1, 1) := by decide +kernel
theorem dX8_drawnSet_18 : decode cX8_drawnSet 18 = .ok (.iload_n 2, 1) := by decide +kernel
theorem dX8_drawnSet_19 : decode cX8_drawnSet 19 = .ok (.invokevirtual 38, 3) := by decide +kernel
theorem dX8_drawnSet_22 : decode cX8_drawnSet 22 = .ok (.ireturn, 1) := by decide +kernel
set_option maxRecDepth 20000 in
theorem ggX8_paintNow_X8_drawnSet : GoodIn wsX8_paintNow wsX8_drawnSet := goodIn_r _ [6, 7, 8, 9, 10, 11, 12, 13, 14, 15, 16, 17, 18, 19, 20, 21, 22, 23, 24, 25, 26, 27, 28, 29, 30, 31, 32, 33, 34, 35, 36, 37, 38, 39, 40, 41, 42, 43, 44, 76, 77, 78, 79, 80] (by decide +kernel) (by decide +kernel)
set_option maxRecDepth 20000 in
theorem gX8_paintNow_X8_drawnSet : GoodIn wsX8_paintNow (wsV RX8 42 RX8 yX8_drawnSet wsX8_drawnSet) := goodIn_app (goodIn_of _ (by decide +kernel)) ggX8_paintNow_X8_drawnSet
set_option maxRecDepth 20000 in
theorem ggX8_paintNow_X6_paint : GoodIn wsX8_paintNow wsX6_paint := goodIn_r _ [49, 50, 51, 52, 53, 54, 55, 56, 57, 9, 10, 11, 12, 13, 58, 43, 59, 60, 26, 27, 28, 61, 62, 63, 64, 41, 42, 44, 65, 66, 67, 68, 69, 70, 71, 72, 73, 74, 48, 75, 81, 82, 83, 79] (by decide +kernel) (by decide +kernel)
set_option maxRecDepth 20000 in
theorem gX8_paintNow_X6_paint : GoodIn wsX8_paintNow (wsV RX8 45 RX6 yX6_paint wsX6_paint) := goodIn_app (goodIn_of _ (by decide +kernel)) ggX8_paintNow_X6_paint
theorem dX8_paintNow_0 : decode cX8_paintNow 0 = .ok (.aload_n 0, 1) := by decide +kernel
theorem dX8_paintNow_1 : decode cX8_paintNow 1 = .ok (.getfield 21, 3) := by decide +kernel
theorem dX8_paintNow_4 : decode cX8_paintNow 4 = .ok (.aload_n 1, 1) := by decide +kernel
theorem dX8_paintNow_5 : decode cX8_paintNow 5 = .ok (.iload_n 2, 1) := by decide +kernel
theorem dX8_paintNow_6 : decode cX8_paintNow 6 = .ok (.aload_n 0, 1) := by decide +kernel
theorem dX8_paintNow_7 : decode cX8_paintNow 7 = .ok (.aload_n 1, 1) := by decide +kernel
theorem dX8_paintNow_8 : decode cX8_paintNow 8 = .ok (.iload_n 2, 1) := by decide +kernel
theorem dX8_paintNow_9 : decode cX8_paintNow 9 = .ok (.invokevirtual 42, 3) := by decide +kernel
theorem dX8_paintNow_12 : decode cX8_paintNow 12 = .ok (.invokevirtual 45, 3) := by decide +kernel
theorem dX8_paintNow_15 : decode cX8_paintNow 15 = .ok (.aload_n 0, 1) := by decide +kernel
theorem dX8_paintNow_16 : decode cX8_paintNow 16 = .ok (.getfield 21, 3) := by decide +kernel
theorem dX8_paintNow_19 : decode cX8_paintNow 19 = .ok (.areturn, 1) := by decide +kernel
set_option maxRecDepth 20000 in
theorem ggX8_paintWhole_X7_setOn : GoodIn wsX8_paintWhole wsX7_setOn := goodIn_r _ [6, 7, 8, 9, 10, 5, 11, 12, 13, 14, 15, 16, 17, 18, 56] (by decide +kernel) (by decide +kernel)
set_option maxRecDepth 20000 in
theorem gX8_paintWhole_X7_setOn : GoodIn wsX8_paintWhole (wsV RX8 49 RX7 yX7_setOn wsX7_setOn) := goodIn_app (goodIn_of _ (by decide +kernel)) ggX8_paintWhole_X7_setOn
set_option maxRecDepth 20000 in
theorem ggX8_paintWhole_X6_paint : GoodIn wsX8_paintWhole wsX6_paint := goodIn_r _ [23, 24, 25, 26, 27, 28, 29, 30, 31, 32, 33, 5, 34, 7, 35, 17, 36, 37, 13, 14, 15, 38, 39, 40, 41, 12, 16, 18, 42, 43, 44, 45, 46, 47, 48, 49, 50, 51, 22, 52, 57, 58, 59, 56] (by decide +kernel) (by decide +kernel)
set_option maxRecDepth 20000 in
theorem gX8_paintWhole_X6_paint : GoodIn wsX8_paintWhole (wsV RX8 45 RX6 yX6_paint wsX6_paint) := goodIn_app (goodIn_of _ (by decide +kernel)) ggX8_paintWhole_X6_paint
theorem dX8_paintWhole_0 : decode cX8_paintWhole 0 = .ok (.aload_n 0, 1) := by decide +kernel
theorem dX8_paintWhole_1 : decode cX8_paintWhole 1 = .ok (.getfield 25, 3) := by decide +kernel
theorem dX8_paintWhole_4 : decode cX8_paintWhole 4 = .ok (.aload_n 1, 1) := by decide +kernel
theorem dX8_paintWhole_5 : decode cX8_paintWhole 5 = .ok (.iload_n 2, 1) := by decide +kernel
theorem dX8_paintWhole_6 : decode cX8_paintWhole 6 = .ok (.aload_n 1, 1) := by decide +kernel
theorem dX8_paintWhole_7 : decode cX8_paintWhole 7 = .ok (.iload_n 2, 1) := by decide +kernel
theorem dX8_paintWhole_8 : decode cX8_paintWhole 8 = .ok (.invokevirtual 49, 3) := by decide +kernel
theorem dX8_paintWhole_11 : decode cX8_paintWhole 11 = .ok (.invokevirtual 45, 3) := by decide +kernel
theorem dX8_paintWhole_14 : decode cX8_paintWhole 14 = .ok (.aload_n 0, 1) := by decide +kernel
theorem dX8_paintWhole_15 : decode cX8_paintWhole 15 = .ok (.getfield 25, 3) := by decide +kernel
theorem dX8_paintWhole_18 : decode cX8_paintWhole 18 = .ok (.areturn, 1) := by decide +kernel
set_option maxRecDepth 20000 in
theorem ggX8_missing_X5_arrange : GoodIn wsX8_missing wsX5_arrange := goodIn_r _ [8, 9, 10, 11, 12, 13, 14, 15, 16, 17, 18, 7, 19, 20, 21, 22, 23, 24, 25, 26, 27, 90, 91] (by decide +kernel) (by decide +kernel)
set_option maxRecDepth 20000 in
theorem gX8_missing_X5_arrange : GoodIn wsX8_missing (wsV RX8 34 RX5 yX5_arrange wsX5_arrange) := goodIn_app (goodIn_of _ (by decide +kernel)) ggX8_missing_X5_arrange
set_option maxRecDepth 20000 in
theorem ggX8_missing_X7_setOn : GoodIn wsX8_missing wsX7_setOn := goodIn_r _ [31, 15, 32, 33, 34, 13, 35, 36, 21, 22, 23, 37, 38, 39, 91] (by decide +kernel) (by decide +kernel)
set_option maxRecDepth 20000 in
theorem gX8_missing_X7_setOn : GoodIn wsX8_missing (wsV RX8 49 RX7 yX7_setOn wsX7_setOn) := goodIn_app (goodIn_of _ (by decide +kernel)) ggX8_missing_X7_setOn
set_option maxRecDepth 20000 in
theorem ggX8_missing_X5_chosen : GoodIn wsX8_missing wsX5_chosen := goodIn_r _ [43, 9, 10, 11, 12, 13, 14, 15, 44, 33, 34, 35, 36, 21, 22, 23, 37, 38, 39, 90, 91] (by decide +kernel) (by decide +kernel)
set_option maxRecDepth 20000 in
theorem gX8_missing_X5_chosen : GoodIn wsX8_missing (wsV RX8 38 RX5 yX5_chosen wsX5_chosen) := goodIn_app (goodIn_of _ (by decide +kernel)) ggX8_missing_X5_chosen
set_option maxRecDepth 20000 in
theorem ggX8_missing_X6_paint : GoodIn wsX8_missing wsX6_paint := goodIn_r _ [49, 50, 51, 52, 53, 54, 55, 56, 57, 11, 12, 13, 14, 15, 58, 38, 59, 60, 21, 22, 23, 61, 62, 63, 64, 36, 37, 39, 65, 66, 67, 68, 69, 70, 71, 72, 73, 74, 48, 75, 92, 93, 94, 91] (by decide +kernel) (by decide +kernel)
set_option maxRecDepth 20000 in
theorem gX8_missing_X6_paint : GoodIn wsX8_missing (wsV RX8 45 RX6 yX6_paint wsX6_paint) := goodIn_app (goodIn_of _ (by decide +kernel)) ggX8_missing_X6_paint
set_option maxRecDepth 20000 in
theorem ggX8_missing_X6_otherColumns : GoodIn wsX8_missing wsX6_otherColumns := goodIn_r _ [79, 51, 92, 93, 94] (by decide +kernel) (by decide +kernel)
set_option maxRecDepth 20000 in
theorem gX8_missing_X6_otherColumns : GoodIn wsX8_missing (wsV RX8 52 RX6 yX6_otherColumns wsX6_otherColumns) := goodIn_app (goodIn_of _ (by decide +kernel)) ggX8_missing_X6_otherColumns
set_option maxRecDepth 20000 in
theorem ggX8_missing_J6_bitCount_0f7a4 : GoodIn wsX8_missing wsJ6_bitCount_0f7a4 := goodIn_r _ [83, 84, 85, 86] (by decide +kernel) (by decide +kernel)
set_option maxRecDepth 20000 in
theorem gX8_missing_J6_bitCount_0f7a4 : GoodIn wsX8_missing (va_wsS RX8 56 yJ6_bitCount_0f7a4 wsJ6_bitCount_0f7a4) := goodIn_app (goodIn_of _ (by decide +kernel)) ggX8_missing_J6_bitCount_0f7a4
theorem dX8_missing_0 : decode cX8_missing 0 = .ok (.aload_n 0, 1) := by decide +kernel
theorem dX8_missing_1 : decode cX8_missing 1 = .ok (.getfield 12, 3) := by decide +kernel
theorem dX8_missing_4 : decode cX8_missing 4 = .ok (.aload_n 1, 1) := by decide +kernel
theorem dX8_missing_5 : decode cX8_missing 5 = .ok (.iload_n 2, 1) := by decide +kernel
theorem dX8_missing_6 : decode cX8_missing 6 = .ok (.invokevirtual 34, 3) := by decide +kernel
theorem dX8_missing_9 : decode cX8_missing 9 = .ok (.iconst 0, 1) := by decide +kernel
theorem dX8_missing_10 : decode cX8_missing 10 = .ok (.istore_n 3, 1) := by decide +kernel
theorem dX8_missing_11 : decode cX8_missing 11 = .ok (.iconst 0, 1) := by decide +kernel
theorem dX8_missing_12 : decode cX8_missing 12 = .ok (.istore 4, 2) := by decide +kernel
theorem dX8_missing_14 : decode cX8_missing 14 = .ok (.iload 4, 2) := by decide +kernel
theorem dX8_missing_16 : decode cX8_missing 16 = .ok (.bipush 24, 2) := by decide +kernel
theorem dX8_missing_18 : decode cX8_missing 18 = .ok (.if_icmp .ge 77, 3) := by decide +kernel
theorem dX8_missing_21 : decode cX8_missing 21 = .ok (.aload_n 1, 1) := by decide +kernel
theorem dX8_missing_22 : decode cX8_missing 22 = .ok (.iload 4, 2) := by decide +kernel
theorem dX8_missing_24 : decode cX8_missing 24 = .ok (.invokevirtual 49, 3) := by decide +kernel
theorem dX8_missing_27 : decode cX8_missing 27 = .ok (.istore 5, 2) := by decide +kernel
theorem dX8_missing_29 : decode cX8_missing 29 = .ok (.aload_n 0, 1) := by decide +kernel
theorem dX8_missing_30 : decode cX8_missing 30 = .ok (.getfield 12, 3) := by decide +kernel
theorem dX8_missing_33 : decode cX8_missing 33 = .ok (.aload_n 1, 1) := by decide +kernel
theorem dX8_missing_34 : decode cX8_missing 34 = .ok (.iload 4, 2) := by decide +kernel
theorem dX8_missing_36 : decode cX8_missing 36 = .ok (.invokevirtual 38, 3) := by decide +kernel
theorem dX8_missing_39 : decode cX8_missing 39 = .ok (.istore 6, 2) := by decide +kernel
theorem dX8_missing_41 : decode cX8_missing 41 = .ok (.iload 6, 2) := by decide +kernel
theorem dX8_missing_43 : decode cX8_missing 43 = .ok (.iload 5, 2) := by decide +kernel
theorem dX8_missing_45 : decode cX8_missing 45 = .ok (.if_icmp .eq 44, 3) := by decide +kernel
theorem dX8_missing_48 : decode cX8_missing 48 = .ok (.aload_n 0, 1) := by decide +kernel
theorem dX8_missing_49 : decode cX8_missing 49 = .ok (.getfield 21, 3) := by decide +kernel
theorem dX8_missing_52 : decode cX8_missing 52 = .ok (.aload_n 1, 1) := by decide +kernel
theorem dX8_missing_53 : decode cX8_missing 53 = .ok (.iload 4, 2) := by decide +kernel
theorem dX8_missing_55 : decode cX8_missing 55 = .ok (.iload 6, 2) := by decide +kernel
theorem dX8_missing_57 : decode cX8_missing 57 = .ok (.invokevirtual 45, 3) := by decide +kernel
theorem dX8_missing_60 : decode cX8_missing 60 = .ok (.aload_n 0, 1) := by decide +kernel
theorem dX8_missing_61 : decode cX8_missing 61 = .ok (.getfield 25, 3) := by decide +kernel
theorem dX8_missing_64 : decode cX8_missing 64 = .ok (.aload_n 1, 1) := by decide +kernel
theorem dX8_missing_65 : decode cX8_missing 65 = .ok (.iload 4, 2) := by decide +kernel
theorem dX8_missing_67 : decode cX8_missing 67 = .ok (.iload 5, 2) := by decide +kernel
theorem dX8_missing_69 : decode cX8_missing 69 = .ok (.invokevirtual 45, 3) := by decide +kernel
theorem dX8_missing_72 : decode cX8_missing 72 = .ok (.iload_n 3, 1) := by decide +kernel
theorem dX8_missing_73 : decode cX8_missing 73 = .ok (.aload_n 0, 1) := by decide +kernel
theorem dX8_missing_74 : decode cX8_missing 74 = .ok (.getfield 21, 3) := by decide +kernel
theorem dX8_missing_77 : decode cX8_missing 77 = .ok (.aload_n 0, 1) := by decide +kernel
theorem dX8_missing_78 : decode cX8_missing 78 = .ok (.getfield 25, 3) := by decide +kernel
theorem dX8_missing_81 : decode cX8_missing 81 = .ok (.invokevirtual 52, 3) := by decide +kernel
theorem dX8_missing_84 : decode cX8_missing 84 = .ok (.invokestatic 56, 3) := by decide +kernel
theorem dX8_missing_87 : decode cX8_missing 87 = .ok (.iadd, 1) := by decide +kernel
theorem dX8_missing_88 : decode cX8_missing 88 = .ok (.istore_n 3, 1) := by decide +kernel
theorem dX8_missing_89 : decode cX8_missing 89 = .ok (.iinc 4 1, 3) := by decide +kernel
theorem dX8_missing_92 : decode cX8_missing 92 = .ok (.goto (-78), 3) := by decide +kernel
theorem dX8_missing_95 : decode cX8_missing 95 = .ok (.iload_n 3, 1) := by decide +kernel
theorem dX8_missing_96 : decode cX8_missing 96 = .ok (.ireturn, 1) := by decide +kernel
set_option maxRecDepth 20000 in
theorem ggX8_bestRule_X8_missing : GoodIn wsX8_bestRule wsX8_missing := goodIn_r _ [5, 6, 7, 8, 9, 10, 11, 12, 13, 14, 15, 16, 17, 18, 19, 20, 21, 22, 23, 24, 25, 26, 27, 28, 29, 30, 31, 32, 33, 34, 35, 36, 37, 38, 39, 40, 41, 42, 43, 44, 45, 46, 47, 48, 49, 50, 51, 52, 53, 54, 55, 56, 57, 58, 59, 60, 61, 62, 63, 64, 65, 66, 67, 68, 69, 70, 71, 72, 73, 74, 75, 76, 77, 78, 79, 80, 81, 82, 83, 84, 85, 86, 87, 88, 89, 90, 91, 92, 93, 94, 95, 96, 97, 98, 99] (by decide +kernel) (by decide +kernel)
set_option maxRecDepth 20000 in
theorem gX8_bestRule_X8_missing : GoodIn wsX8_bestRule (wsV RX8 61 RX8 yX8_missing wsX8_missing) := goodIn_app (goodIn_of _ (by decide +kernel)) ggX8_bestRule_X8_missing
theorem dX8_bestRule_0 : decode cX8_bestRule 0 = .ok (.iconst 0, 1) := by decide +kernel
theorem dX8_bestRule_1 : decode cX8_bestRule 1 = .ok (.istore_n 2, 1) := by decide +kernel
theorem dX8_bestRule_2 : decode cX8_bestRule 2 = .ok (.aload_n 0, 1) := by decide +kernel
theorem dX8_bestRule_3 : decode cX8_bestRule 3 = .ok (.aload_n 1, 1) := by decide +kernel
theorem dX8_bestRule_4 : decode cX8_bestRule 4 = .ok (.iload_n 2, 1) := by decide +kernel
theorem dX8_bestRule_5 : decode cX8_bestRule 5 = .ok (.invokevirtual 61, 3) := by decide +kernel
theorem dX8_bestRule_8 : decode cX8_bestRule 8 = .ok (.istore_n 3, 1) := by decide +kernel
theorem dX8_bestRule_9 : decode cX8_bestRule 9 = .ok (.iconst 1, 1) := by decide +kernel
theorem dX8_bestRule_10 : decode cX8_bestRule 10 = .ok (.istore 4, 2) := by decide +kernel
theorem dX8_bestRule_12 : decode cX8_bestRule 12 = .ok (.iload 4, 2) := by decide +kernel
theorem dX8_bestRule_14 : decode cX8_bestRule 14 = .ok (.iconst 4, 1) := by decide +kernel
theorem dX8_bestRule_15 : decode cX8_bestRule 15 = .ok (.if_icmp .ge 30, 3) := by decide +kernel
theorem dX8_bestRule_18 : decode cX8_bestRule 18 = .ok (.aload_n 0, 1) := by decide +kernel
theorem dX8_bestRule_19 : decode cX8_bestRule 19 = .ok (.aload_n 1, 1) := by decide +kernel
theorem dX8_bestRule_20 : decode cX8_bestRule 20 = .ok (.iload 4, 2) := by decide +kernel
theorem dX8_bestRule_22 : decode cX8_bestRule 22 = .ok (.invokevirtual 61, 3) := by decide +kernel
theorem dX8_bestRule_25 : decode cX8_bestRule 25 = .ok (.istore 5, 2) := by decide +kernel
theorem dX8_bestRule_27 : decode cX8_bestRule 27 = .ok (.iload 5, 2) := by decide +kernel
theorem dX8_bestRule_29 : decode cX8_bestRule 29 = .ok (.iload_n 3, 1) := by decide +kernel
theorem dX8_bestRule_30 : decode cX8_bestRule 30 = .ok (.if_icmp .ge 9, 3) := by decide +kernel
theorem dX8_bestRule_33 : decode cX8_bestRule 33 = .ok (.iload 4, 2) := by decide +kernel
theorem dX8_bestRule_35 : decode cX8_bestRule 35 = .ok (.istore_n 2, 1) := by decide +kernel
theorem dX8_bestRule_36 : decode cX8_bestRule 36 = .ok (.iload 5, 2) := by decide +kernel
theorem dX8_bestRule_38 : decode cX8_bestRule 38 = .ok (.istore_n 3, 1) := by decide +kernel
theorem dX8_bestRule_39 : decode cX8_bestRule 39 = .ok (.iinc 4 1, 3) := by decide +kernel
theorem dX8_bestRule_42 : decode cX8_bestRule 42 = .ok (.goto (-30), 3) := by decide +kernel
theorem dX8_bestRule_45 : decode cX8_bestRule 45 = .ok (.iload_n 2, 1) := by decide +kernel
theorem dX8_bestRule_46 : decode cX8_bestRule 46 = .ok (.ireturn, 1) := by decide +kernel
set_option maxRecDepth 20000 in
theorem ggX8_enough_X7_setOn : GoodIn wsX8_enough wsX7_setOn := goodIn_r _ [9, 10, 11, 12, 13, 8, 14, 15, 16, 17, 18, 19, 20, 21, 29] (by decide +kernel) (by decide +kernel)
set_option maxRecDepth 20000 in
theorem gX8_enough_X7_setOn : GoodIn wsX8_enough (wsV RX8 49 RX7 yX7_setOn wsX7_setOn) := goodIn_app (goodIn_of _ (by decide +kernel)) ggX8_enough_X7_setOn
set_option maxRecDepth 20000 in
theorem ggX8_enough_J6_bitCount_0f7a4 : GoodIn wsX8_enough wsJ6_bitCount_0f7a4 := goodIn_r _ [25, 26, 27, 28] (by decide +kernel) (by decide +kernel)
set_option maxRecDepth 20000 in
theorem gX8_enough_J6_bitCount_0f7a4 : GoodIn wsX8_enough (va_wsS RX8 56 yJ6_bitCount_0f7a4 wsJ6_bitCount_0f7a4) := goodIn_app (goodIn_of _ (by decide +kernel)) ggX8_enough_J6_bitCount_0f7a4
theorem dX8_enough_0 : decode cX8_enough 0 = .ok (.iconst 1, 1) := by decide +kernel
theorem dX8_enough_1 : decode cX8_enough 1 = .ok (.istore_n 2, 1) := by decide +kernel
theorem dX8_enough_2 : decode cX8_enough 2 = .ok (.iconst 0, 1) := by decide +kernel
theorem dX8_enough_3 : decode cX8_enough 3 = .ok (.istore_n 3, 1) := by decide +kernel
theorem dX8_enough_4 : decode cX8_enough 4 = .ok (.iload_n 3, 1) := by decide +kernel
theorem dX8_enough_5 : decode cX8_enough 5 = .ok (.bipush 24, 2) := by decide +kernel
theorem dX8_enough_7 : decode cX8_enough 7 = .ok (.if_icmp .ge 22, 3) := by decide +kernel
theorem dX8_enough_10 : decode cX8_enough 10 = .ok (.iload_n 2, 1) := by decide +kernel
theorem dX8_enough_11 : decode cX8_enough 11 = .ok (.aload_n 1, 1) := by decide +kernel
theorem dX8_enough_12 : decode cX8_enough 12 = .ok (.iload_n 3, 1) := by decide +kernel
theorem dX8_enough_13 : decode cX8_enough 13 = .ok (.invokevirtual 49, 3) := by decide +kernel
theorem dX8_enough_16 : decode cX8_enough 16 = .ok (.invokestatic 56, 3) := by decide +kernel
theorem dX8_enough_19 : decode cX8_enough 19 = .ok (.invokestatic 64, 3) := by decide +kernel
theorem dX8_enough_22 : decode cX8_enough 22 = .ok (.istore_n 2, 1) := by decide +kernel
theorem dX8_enough_23 : decode cX8_enough 23 = .ok (.iinc 3 1, 3) := by decide +kernel
theorem dX8_enough_26 : decode cX8_enough 26 = .ok (.goto (-22), 3) := by decide +kernel
theorem dX8_enough_29 : decode cX8_enough 29 = .ok (.iload_n 2, 1) := by decide +kernel
theorem dX8_enough_30 : decode cX8_enough 30 = .ok (.ireturn, 1) := by decide +kernel
set_option maxRecDepth 20000 in
theorem ggX8_filledDots_X8_paintNow : GoodIn wsX8_filledDots wsX8_paintNow := goodIn_r _ [5, 6, 7, 8, 9, 4, 10, 11, 12, 13, 14, 15, 16, 17, 18, 19, 20, 21, 22, 23, 24, 25, 26, 27, 28, 29, 30, 31, 32, 33, 34, 35, 36, 37, 38, 39, 40, 41, 42, 43, 44, 45, 46, 47, 48, 49, 50, 51, 52, 53, 54, 55, 56, 57, 58, 59, 60, 61, 62, 63, 64, 65, 66, 67, 68, 69, 70, 71, 72, 73, 74, 75, 76, 77, 78, 79, 91, 92, 93, 94, 95, 96, 97, 98] (by decide +kernel) (by decide +kernel)
set_option maxRecDepth 20000 in
theorem gX8_filledDots_X8_paintNow : GoodIn wsX8_filledDots (wsV RX8 70 RX8 yX8_paintNow wsX8_paintNow) := goodIn_app (goodIn_of _ (by decide +kernel)) ggX8_filledDots_X8_paintNow
set_option maxRecDepth 20000 in
theorem ggX8_filledDots_X6_filledColumns : GoodIn wsX8_filledDots wsX6_filledColumns := goodIn_r _ [83, 56, 96, 97, 98] (by decide +kernel) (by decide +kernel)
set_option maxRecDepth 20000 in
theorem gX8_filledDots_X6_filledColumns : GoodIn wsX8_filledDots (wsV RX8 74 RX6 yX6_filledColumns wsX6_filledColumns) := goodIn_app (goodIn_of _ (by decide +kernel)) ggX8_filledDots_X6_filledColumns
set_option maxRecDepth 20000 in
theorem ggX8_filledDots_J6_bitCount_0f7a4 : GoodIn wsX8_filledDots wsJ6_bitCount_0f7a4 := goodIn_r _ [87, 88, 89, 90] (by decide +kernel) (by decide +kernel)
set_option maxRecDepth 20000 in
theorem gX8_filledDots_J6_bitCount_0f7a4 : GoodIn wsX8_filledDots (va_wsS RX8 56 yJ6_bitCount_0f7a4 wsJ6_bitCount_0f7a4) := goodIn_app (goodIn_of _ (by decide +kernel)) ggX8_filledDots_J6_bitCount_0f7a4
theorem dX8_filledDots_0 : decode cX8_filledDots 0 = .ok (.iconst 0, 1) := by decide +kernel
theorem dX8_filledDots_1 : decode cX8_filledDots 1 = .ok (.istore_n 2, 1) := by decide +kernel
theorem dX8_filledDots_2 : decode cX8_filledDots 2 = .ok (.iconst 0, 1) := by decide +kernel
theorem dX8_filledDots_3 : decode cX8_filledDots 3 = .ok (.istore_n 3, 1) := by decide +kernel
theorem dX8_filledDots_4 : decode cX8_filledDots 4 = .ok (.iload_n 3, 1) := by decide +kernel
theorem dX8_filledDots_5 : decode cX8_filledDots 5 = .ok (.bipush 24, 2) := by decide +kernel
theorem dX8_filledDots_7 : decode cX8_filledDots 7 = .ok (.if_icmp .ge 24, 3) := by decide +kernel
theorem dX8_filledDots_10 : decode cX8_filledDots 10 = .ok (.iload_n 2, 1) := by decide +kernel
theorem dX8_filledDots_11 : decode cX8_filledDots 11 = .ok (.aload_n 0, 1) := by decide +kernel
theorem dX8_filledDots_12 : decode cX8_filledDots 12 = .ok (.aload_n 1, 1) := by decide +kernel
theorem dX8_filledDots_13 : decode cX8_filledDots 13 = .ok (.iload_n 3, 1) := by decide +kernel
theorem dX8_filledDots_14 : decode cX8_filledDots 14 = .ok (.invokevirtual 70, 3) := by decide +kernel
theorem dX8_filledDots_17 : decode cX8_filledDots 17 = .ok (.invokevirtual 74, 3) := by decide +kernel
theorem dX8_filledDots_20 : decode cX8_filledDots 20 = .ok (.invokestatic 56, 3) := by decide +kernel
theorem dX8_filledDots_23 : decode cX8_filledDots 23 = .ok (.iadd, 1) := by decide +kernel
theorem dX8_filledDots_24 : decode cX8_filledDots 24 = .ok (.istore_n 2, 1) := by decide +kernel
theorem dX8_filledDots_25 : decode cX8_filledDots 25 = .ok (.iinc 3 1, 3) := by decide +kernel
theorem dX8_filledDots_28 : decode cX8_filledDots 28 = .ok (.goto (-24), 3) := by decide +kernel
theorem dX8_filledDots_31 : decode cX8_filledDots 31 = .ok (.iload_n 2, 1) := by decide +kernel
theorem dX8_filledDots_32 : decode cX8_filledDots 32 = .ok (.ireturn, 1) := by decide +kernel
set_option maxRecDepth 20000 in
theorem ggX8_seenDots_X8_paintNow : GoodIn wsX8_seenDots wsX8_paintNow := goodIn_r _ [5, 6, 7, 8, 9, 4, 10, 11, 12, 13, 14, 15, 16, 17, 18, 19, 20, 21, 22, 23, 24, 25, 26, 27, 28, 29, 30, 31, 32, 33, 34, 35, 36, 37, 38, 39, 40, 41, 42, 43, 44, 45, 46, 47, 48, 49, 50, 51, 52, 53, 54, 55, 56, 57, 58, 59, 60, 61, 62, 63, 64, 65, 66, 67, 68, 69, 70, 71, 72, 73, 74, 75, 76, 77, 78, 79, 91, 92, 93, 94, 95, 96, 97, 98] (by decide +kernel) (by decide +kernel)
set_option maxRecDepth 20000 in
theorem gX8_seenDots_X8_paintNow : GoodIn wsX8_seenDots (wsV RX8 70 RX8 yX8_paintNow wsX8_paintNow) := goodIn_app (goodIn_of _ (by decide +kernel)) ggX8_seenDots_X8_paintNow
set_option maxRecDepth 20000 in
theorem ggX8_seenDots_X6_seenColumns : GoodIn wsX8_seenDots wsX6_seenColumns := goodIn_r _ [83, 54, 96, 97, 98] (by decide +kernel) (by decide +kernel)
set_option maxRecDepth 20000 in
theorem gX8_seenDots_X6_seenColumns : GoodIn wsX8_seenDots (wsV RX8 78 RX6 yX6_seenColumns wsX6_seenColumns) := goodIn_app (goodIn_of _ (by decide +kernel)) ggX8_seenDots_X6_seenColumns
set_option maxRecDepth 20000 in
theorem ggX8_seenDots_J6_bitCount_0f7a4 : GoodIn wsX8_seenDots wsJ6_bitCount_0f7a4 := goodIn_r _ [87, 88, 89, 90] (by decide +kernel) (by decide +kernel)
set_option maxRecDepth 20000 in
theorem gX8_seenDots_J6_bitCount_0f7a4 : GoodIn wsX8_seenDots (va_wsS RX8 56 yJ6_bitCount_0f7a4 wsJ6_bitCount_0f7a4) := goodIn_app (goodIn_of _ (by decide +kernel)) ggX8_seenDots_J6_bitCount_0f7a4
theorem dX8_seenDots_0 : decode cX8_seenDots 0 = .ok (.iconst 0, 1) := by decide +kernel
theorem dX8_seenDots_1 : decode cX8_seenDots 1 = .ok (.istore_n 3, 1) := by decide +kernel
theorem dX8_seenDots_2 : decode cX8_seenDots 2 = .ok (.iconst 0, 1) := by decide +kernel
theorem dX8_seenDots_3 : decode cX8_seenDots 3 = .ok (.istore 4, 2) := by decide +kernel
theorem dX8_seenDots_5 : decode cX8_seenDots 5 = .ok (.iload 4, 2) := by decide +kernel
theorem dX8_seenDots_7 : decode cX8_seenDots 7 = .ok (.bipush 24, 2) := by decide +kernel
theorem dX8_seenDots_9 : decode cX8_seenDots 9 = .ok (.if_icmp .ge 26, 3) := by decide +kernel
theorem dX8_seenDots_12 : decode cX8_seenDots 12 = .ok (.iload_n 3, 1) := by decide +kernel
theorem dX8_seenDots_13 : decode cX8_seenDots 13 = .ok (.aload_n 0, 1) := by decide +kernel
theorem dX8_seenDots_14 : decode cX8_seenDots 14 = .ok (.aload_n 1, 1) := by decide +kernel
theorem dX8_seenDots_15 : decode cX8_seenDots 15 = .ok (.iload 4, 2) := by decide +kernel
theorem dX8_seenDots_17 : decode cX8_seenDots 17 = .ok (.invokevirtual 70, 3) := by decide +kernel
theorem dX8_seenDots_20 : decode cX8_seenDots 20 = .ok (.iload_n 2, 1) := by decide +kernel
theorem dX8_seenDots_21 : decode cX8_seenDots 21 = .ok (.invokevirtual 78, 3) := by decide +kernel
theorem dX8_seenDots_24 : decode cX8_seenDots 24 = .ok (.invokestatic 56, 3) := by decide +kernel
theorem dX8_seenDots_27 : decode cX8_seenDots 27 = .ok (.iadd, 1) := by decide +kernel
theorem dX8_seenDots_28 : decode cX8_seenDots 28 = .ok (.istore_n 3, 1) := by decide +kernel
theorem dX8_seenDots_29 : decode cX8_seenDots 29 = .ok (.iinc 4 1, 3) := by decide +kernel
theorem dX8_seenDots_32 : decode cX8_seenDots 32 = .ok (.goto (-27), 3) := by decide +kernel
theorem dX8_seenDots_35 : decode cX8_seenDots 35 = .ok (.iload_n 3, 1) := by decide +kernel
theorem dX8_seenDots_36 : decode cX8_seenDots 36 = .ok (.ireturn, 1) := by decide +kernel
set_option maxRecDepth 20000 in
theorem ggX8_coveredDots_X8_drawnSet : GoodIn wsX8_coveredDots wsX8_drawnSet := goodIn_r _ [5, 6, 7, 8, 9, 10, 11, 12, 13, 14, 15, 16, 17, 18, 19, 20, 21, 22, 23, 24, 25, 26, 27, 28, 29, 30, 31, 32, 33, 34, 35, 36, 37, 38, 39, 40, 41, 42, 43, 92, 93, 94, 95, 96] (by decide +kernel) (by decide +kernel)
set_option maxRecDepth 20000 in
theorem gX8_coveredDots_X8_drawnSet : GoodIn wsX8_coveredDots (wsV RX8 42 RX8 yX8_drawnSet wsX8_drawnSet) := goodIn_app (goodIn_of _ (by decide +kernel)) ggX8_coveredDots_X8_drawnSet
set_option maxRecDepth 20000 in
theorem ggX8_coveredDots_X9_isInSet : GoodIn wsX8_coveredDots wsX9_isInSet := goodIn_r _ [45] (by decide +kernel) (by decide +kernel)
set_option maxRecDepth 20000 in
theorem gX8_coveredDots_X9_isInSet_n81 : GoodIn wsX8_coveredDots (wsX9_isInSet) := ggX8_coveredDots_X9_isInSet
set_option maxRecDepth 20000 in
theorem ggX8_coveredDots_X8_paintNow : GoodIn wsX8_coveredDots wsX8_paintNow := goodIn_r _ [49, 50, 1, 2, 3, 4, 5, 6, 7, 8, 9, 10, 11, 12, 13, 14, 15, 16, 17, 18, 19, 20, 21, 22, 23, 24, 25, 26, 27, 28, 29, 30, 31, 32, 33, 34, 35, 36, 37, 38, 39, 40, 41, 42, 43, 51, 52, 53, 54, 55, 56, 57, 58, 59, 60, 61, 62, 63, 44, 45, 64, 65, 66, 67, 68, 69, 70, 71, 72, 73, 74, 75, 76, 77, 78, 79, 92, 93, 94, 95, 96, 97, 98, 99] (by decide +kernel) (by decide +kernel)
set_option maxRecDepth 20000 in
theorem gX8_coveredDots_X8_paintNow : GoodIn wsX8_coveredDots (wsV RX8 70 RX8 yX8_paintNow wsX8_paintNow) := goodIn_app (goodIn_of _ (by decide +kernel)) ggX8_coveredDots_X8_paintNow
set_option maxRecDepth 20000 in
theorem ggX8_coveredDots_X6_seenColumns : GoodIn wsX8_coveredDots wsX6_seenColumns := goodIn_r _ [83, 56, 97, 98, 99] (by decide +kernel) (by decide +kernel)
set_option maxRecDepth 20000 in
theorem gX8_coveredDots_X6_seenColumns : GoodIn wsX8_coveredDots (wsV RX8 78 RX6 yX6_seenColumns wsX6_seenColumns) := goodIn_app (goodIn_of _ (by decide +kernel)) ggX8_coveredDots_X6_seenColumns
set_option maxRecDepth 20000 in
theorem ggX8_coveredDots_X7_dotsOf : GoodIn wsX8_coveredDots wsX7_dotsOf := goodIn_r _ [68, 40, 25, 26, 10, 27, 12, 41, 42, 43, 69, 70, 71, 72, 73, 74, 75, 95] (by decide +kernel) (by decide +kernel)
set_option maxRecDepth 20000 in
theorem gX8_coveredDots_X7_dotsOf : GoodIn wsX8_coveredDots (wsV RX8 85 RX7 yX7_dotsOf wsX7_dotsOf) := goodIn_app (goodIn_of _ (by decide +kernel)) ggX8_coveredDots_X7_dotsOf
set_option maxRecDepth 20000 in
theorem ggX8_coveredDots_J6_bitCount_0f7a4 : GoodIn wsX8_coveredDots wsJ6_bitCount_0f7a4 := goodIn_r _ [88, 89, 90, 91] (by decide +kernel) (by decide +kernel)
set_option maxRecDepth 20000 in
theorem gX8_coveredDots_J6_bitCount_0f7a4 : GoodIn wsX8_coveredDots (va_wsS RX8 56 yJ6_bitCount_0f7a4 wsJ6_bitCount_0f7a4) := goodIn_app (goodIn_of _ (by decide +kernel)) ggX8_coveredDots_J6_bitCount_0f7a4
theorem dX8_coveredDots_0 : decode cX8_coveredDots 0 = .ok (.iconst 0, 1) := by decide +kernel
theorem dX8_coveredDots_1 : decode cX8_coveredDots 1 = .ok (.istore_n 3, 1) := by decide +kernel
theorem dX8_coveredDots_2 : decode cX8_coveredDots 2 = .ok (.iconst 0, 1) := by decide +kernel
theorem dX8_coveredDots_3 : decode cX8_coveredDots 3 = .ok (.istore 4, 2) := by decide +kernel
theorem dX8_coveredDots_5 : decode cX8_coveredDots 5 = .ok (.iload 4, 2) := by decide +kernel
theorem dX8_coveredDots_7 : decode cX8_coveredDots 7 = .ok (.bipush 24, 2) := by decide +kernel
theorem dX8_coveredDots_9 : decode cX8_coveredDots 9 = .ok (.if_icmp .ge 54, 3) := by decide +kernel
theorem dX8_coveredDots_12 : decode cX8_coveredDots 12 = .ok (.aload_n 0, 1) := by decide +kernel
theorem dX8_coveredDots_13 : decode cX8_coveredDots 13 = .ok (.aload_n 1, 1) := by decide +kernel
theorem dX8_coveredDots_14 : decode cX8_coveredDots 14 = .ok (.iload 4, 2) := by decide +kernel
theorem dX8_coveredDots_16 : decode cX8_coveredDots 16 = .ok (.invokevirtual 42, 3) := by decide +kernel
theorem dX8_coveredDots_19 : decode cX8_coveredDots 19 = .ok (.iload_n 2, 1) := by decide +kernel
theorem dX8_coveredDots_20 : decode cX8_coveredDots 20 = .ok (.invokestatic 81, 3) := by decide +kernel
theorem dX8_coveredDots_23 : decode cX8_coveredDots 23 = .ok (.ifCond .eq 34, 3) := by decide +kernel
theorem dX8_coveredDots_26 : decode cX8_coveredDots 26 = .ok (.aload_n 0, 1) := by decide +kernel
theorem dX8_coveredDots_27 : decode cX8_coveredDots 27 = .ok (.aload_n 1, 1) := by decide +kernel
theorem dX8_coveredDots_28 : decode cX8_coveredDots 28 = .ok (.iload 4, 2) := by decide +kernel
theorem dX8_coveredDots_30 : decode cX8_coveredDots 30 = .ok (.invokevirtual 70, 3) := by decide +kernel
theorem dX8_coveredDots_33 : decode cX8_coveredDots 33 = .ok (.iload_n 2, 1) := by decide +kernel
theorem dX8_coveredDots_34 : decode cX8_coveredDots 34 = .ok (.invokevirtual 78, 3) := by decide +kernel
theorem dX8_coveredDots_37 : decode cX8_coveredDots 37 = .ok (.istore 5, 2) := by decide +kernel
theorem dX8_coveredDots_39 : decode cX8_coveredDots 39 = .ok (.iload_n 3, 1) := by decide +kernel
theorem dX8_coveredDots_40 : decode cX8_coveredDots 40 = .ok (.aload_n 1, 1) := by decide +kernel
theorem dX8_coveredDots_41 : decode cX8_coveredDots 41 = .ok (.iload_n 2, 1) := by decide +kernel
theorem dX8_coveredDots_42 : decode cX8_coveredDots 42 = .ok (.iload 4, 2) := by decide +kernel
theorem dX8_coveredDots_44 : decode cX8_coveredDots 44 = .ok (.invokevirtual 85, 3) := by decide +kernel
theorem dX8_coveredDots_47 : decode cX8_coveredDots 47 = .ok (.iload 5, 2) := by decide +kernel
theorem dX8_coveredDots_49 : decode cX8_coveredDots 49 = .ok (.iconst (-1), 1) := by decide +kernel
theorem dX8_coveredDots_50 : decode cX8_coveredDots 50 = .ok (.ixor, 1) := by decide +kernel
theorem dX8_coveredDots_51 : decode cX8_coveredDots 51 = .ok (.iand, 1) := by decide +kernel
theorem dX8_coveredDots_52 : decode cX8_coveredDots 52 = .ok (.invokestatic 56, 3) := by decide +kernel
theorem dX8_coveredDots_55 : decode cX8_coveredDots 55 = .ok (.iadd, 1) := by decide +kernel
theorem dX8_coveredDots_56 : decode cX8_coveredDots 56 = .ok (.istore_n 3, 1) := by decide +kernel
theorem dX8_coveredDots_57 : decode cX8_coveredDots 57 = .ok (.iinc 4 1, 3) := by decide +kernel
theorem dX8_coveredDots_60 : decode cX8_coveredDots 60 = .ok (.goto (-55), 3) := by decide +kernel
theorem dX8_coveredDots_63 : decode cX8_coveredDots 63 = .ok (.iload_n 3, 1) := by decide +kernel
theorem dX8_coveredDots_64 : decode cX8_coveredDots 64 = .ok (.ireturn, 1) := by decide +kernel
set_option maxRecDepth 20000 in
theorem ggX8_droppedLines_X7_isOn : GoodIn wsX8_droppedLines wsX7_isOn := goodIn_r _ [5, 6, 7, 8, 4, 9, 10, 11, 12, 13, 47] (by decide +kernel) (by decide +kernel)
set_option maxRecDepth 20000 in
theorem gX8_droppedLines_X7_isOn : GoodIn wsX8_droppedLines (wsV RX8 88 RX7 yX7_isOn wsX7_isOn) := goodIn_app (goodIn_of _ (by decide +kernel)) ggX8_droppedLines_X7_isOn
set_option maxRecDepth 20000 in
theorem ggX8_droppedLines_X8_drawnSet : GoodIn wsX8_droppedLines wsX8_drawnSet := goodIn_r _ [18, 19, 20, 21, 22, 4, 23, 10, 24, 25, 26, 27, 28, 29, 30, 31, 32, 33, 34, 35, 7, 8, 9, 36, 37, 38, 39, 40, 41, 42, 43, 44, 2, 3, 5, 6, 11, 12, 13, 48, 49, 50, 47, 51] (by decide +kernel) (by decide +kernel)
set_option maxRecDepth 20000 in
theorem gX8_droppedLines_X8_drawnSet : GoodIn wsX8_droppedLines (wsV RX8 42 RX8 yX8_drawnSet wsX8_drawnSet) := goodIn_app (goodIn_of _ (by decide +kernel)) ggX8_droppedLines_X8_drawnSet
set_option maxRecDepth 20000 in
theorem ggX8_droppedLines_X9_isInSet : GoodIn wsX8_droppedLines wsX9_isInSet := goodIn_r _ [46] (by decide +kernel) (by decide +kernel)
set_option maxRecDepth 20000 in
theorem gX8_droppedLines_X9_isInSet_n81 : GoodIn wsX8_droppedLines (wsX9_isInSet) := ggX8_droppedLines_X9_isInSet
theorem dX8_droppedLines_0 : decode cX8_droppedLines 0 = .ok (.iconst 0, 1) := by decide +kernel
theorem dX8_droppedLines_1 : decode cX8_droppedLines 1 = .ok (.istore_n 3, 1) := by decide +kernel
theorem dX8_droppedLines_2 : decode cX8_droppedLines 2 = .ok (.iconst 0, 1) := by decide +kernel
theorem dX8_droppedLines_3 : decode cX8_droppedLines 3 = .ok (.istore 4, 2) := by decide +kernel
theorem dX8_droppedLines_5 : decode cX8_droppedLines 5 = .ok (.iload 4, 2) := by decide +kernel
theorem dX8_droppedLines_7 : decode cX8_droppedLines 7 = .ok (.bipush 24, 2) := by decide +kernel
theorem dX8_droppedLines_9 : decode cX8_droppedLines 9 = .ok (.if_icmp .ge 40, 3) := by decide +kernel
theorem dX8_droppedLines_12 : decode cX8_droppedLines 12 = .ok (.aload_n 1, 1) := by decide +kernel
theorem dX8_droppedLines_13 : decode cX8_droppedLines 13 = .ok (.iload_n 2, 1) := by decide +kernel
theorem dX8_droppedLines_14 : decode cX8_droppedLines 14 = .ok (.iload 4, 2) := by decide +kernel
theorem dX8_droppedLines_16 : decode cX8_droppedLines 16 = .ok (.invokevirtual 88, 3) := by decide +kernel
theorem dX8_droppedLines_19 : decode cX8_droppedLines 19 = .ok (.ifCond .eq 24, 3) := by decide +kernel
theorem dX8_droppedLines_22 : decode cX8_droppedLines 22 = .ok (.aload_n 0, 1) := by decide +kernel
theorem dX8_droppedLines_23 : decode cX8_droppedLines 23 = .ok (.aload_n 1, 1) := by decide +kernel
theorem dX8_droppedLines_24 : decode cX8_droppedLines 24 = .ok (.iload 4, 2) := by decide +kernel
theorem dX8_droppedLines_26 : decode cX8_droppedLines 26 = .ok (.invokevirtual 42, 3) := by decide +kernel
theorem dX8_droppedLines_29 : decode cX8_droppedLines 29 = .ok (.iload_n 2, 1) := by decide +kernel
theorem dX8_droppedLines_30 : decode cX8_droppedLines 30 = .ok (.invokestatic 81, 3) := by decide +kernel
theorem dX8_droppedLines_33 : decode cX8_droppedLines 33 = .ok (.ifCond .ne 10, 3) := by decide +kernel
theorem dX8_droppedLines_36 : decode cX8_droppedLines 36 = .ok (.iload_n 3, 1) := by decide +kernel
theorem dX8_droppedLines_37 : decode cX8_droppedLines 37 = .ok (.iconst 1, 1) := by decide +kernel
theorem dX8_droppedLines_38 : decode cX8_droppedLines 38 = .ok (.iload 4, 2) := by decide +kernel
theorem dX8_droppedLines_40 : decode cX8_droppedLines 40 = .ok (.ishl, 1) := by decide +kernel
theorem dX8_droppedLines_41 : decode cX8_droppedLines 41 = .ok (.ior, 1) := by decide +kernel
theorem dX8_droppedLines_42 : decode cX8_droppedLines 42 = .ok (.istore_n 3, 1) := by decide +kernel
theorem dX8_droppedLines_43 : decode cX8_droppedLines 43 = .ok (.iinc 4 1, 3) := by decide +kernel
theorem dX8_droppedLines_46 : decode cX8_droppedLines 46 = .ok (.goto (-41), 3) := by decide +kernel
theorem dX8_droppedLines_49 : decode cX8_droppedLines 49 = .ok (.iload_n 3, 1) := by decide +kernel
theorem dX8_droppedLines_50 : decode cX8_droppedLines 50 = .ok (.ireturn, 1) := by decide +kernel
set_option maxRecDepth 20000 in
theorem ggX8_met_X8_drawnSet : GoodIn wsX8_met wsX8_drawnSet := goodIn_r _ [5, 6, 7, 8, 9, 10, 11, 12, 13, 14, 15, 16, 17, 18, 19, 20, 21, 22, 23, 24, 25, 26, 27, 28, 29, 30, 31, 32, 33, 34, 35, 36, 37, 38, 39, 40, 41, 42, 43, 60, 61, 62, 63, 64] (by decide +kernel) (by decide +kernel)
set_option maxRecDepth 20000 in
theorem gX8_met_X8_drawnSet : GoodIn wsX8_met (wsV RX8 42 RX8 yX8_drawnSet wsX8_drawnSet) := goodIn_app (goodIn_of _ (by decide +kernel)) ggX8_met_X8_drawnSet
set_option maxRecDepth 20000 in
theorem ggX8_met_X8_touching : GoodIn wsX8_met wsX8_touching := goodIn_r _ [46, 47, 42, 48, 49, 50, 51, 10, 52, 40, 25, 26, 27, 12, 41, 43, 53, 54, 55, 56, 57, 58, 59, 7, 8, 9, 11, 63] (by decide +kernel) (by decide +kernel)
set_option maxRecDepth 20000 in
theorem gX8_met_X8_touching : GoodIn wsX8_met (va_wsS RX8 91 yX8_touching wsX8_touching) := goodIn_app (goodIn_of _ (by decide +kernel)) ggX8_met_X8_touching
theorem dX8_met_0 : decode cX8_met 0 = .ok (.iconst 0, 1) := by decide +kernel
theorem dX8_met_1 : decode cX8_met 1 = .ok (.istore_n 3, 1) := by decide +kernel
theorem dX8_met_2 : decode cX8_met 2 = .ok (.iconst 0, 1) := by decide +kernel
theorem dX8_met_3 : decode cX8_met 3 = .ok (.istore 4, 2) := by decide +kernel
theorem dX8_met_5 : decode cX8_met 5 = .ok (.iload 4, 2) := by decide +kernel
theorem dX8_met_7 : decode cX8_met 7 = .ok (.bipush 24, 2) := by decide +kernel
theorem dX8_met_9 : decode cX8_met 9 = .ok (.if_icmp .ge 26, 3) := by decide +kernel
theorem dX8_met_12 : decode cX8_met 12 = .ok (.iload_n 3, 1) := by decide +kernel
theorem dX8_met_13 : decode cX8_met 13 = .ok (.aload_n 1, 1) := by decide +kernel
theorem dX8_met_14 : decode cX8_met 14 = .ok (.iload 4, 2) := by decide +kernel
theorem dX8_met_16 : decode cX8_met 16 = .ok (.aload_n 0, 1) := by decide +kernel
theorem dX8_met_17 : decode cX8_met 17 = .ok (.aload_n 1, 1) := by decide +kernel
theorem dX8_met_18 : decode cX8_met 18 = .ok (.iload 4, 2) := by decide +kernel
theorem dX8_met_20 : decode cX8_met 20 = .ok (.invokevirtual 42, 3) := by decide +kernel
theorem dX8_met_23 : decode cX8_met 23 = .ok (.iload_n 2, 1) := by decide +kernel
theorem dX8_met_24 : decode cX8_met 24 = .ok (.invokestatic 91, 3) := by decide +kernel
theorem dX8_met_27 : decode cX8_met 27 = .ok (.ior, 1) := by decide +kernel
theorem dX8_met_28 : decode cX8_met 28 = .ok (.istore_n 3, 1) := by decide +kernel
theorem dX8_met_29 : decode cX8_met 29 = .ok (.iinc 4 1, 3) := by decide +kernel
theorem dX8_met_32 : decode cX8_met 32 = .ok (.goto (-27), 3) := by decide +kernel
theorem dX8_met_35 : decode cX8_met 35 = .ok (.iload_n 3, 1) := by decide +kernel
theorem dX8_met_36 : decode cX8_met 36 = .ok (.ireturn, 1) := by decide +kernel
set_option maxRecDepth 20000 in
theorem ggX8_wouldMeet_X7_setOn : GoodIn wsX8_wouldMeet wsX7_setOn := goodIn_r _ [5, 6, 7, 8, 9, 4, 10, 11, 12, 13, 14, 15, 16, 17, 39] (by decide +kernel) (by decide +kernel)
set_option maxRecDepth 20000 in
theorem gX8_wouldMeet_X7_setOn : GoodIn wsX8_wouldMeet (wsV RX8 49 RX7 yX7_setOn wsX7_setOn) := goodIn_app (goodIn_of _ (by decide +kernel)) ggX8_wouldMeet_X7_setOn
set_option maxRecDepth 20000 in
theorem ggX8_wouldMeet_X8_touching : GoodIn wsX8_wouldMeet wsX8_touching := goodIn_r _ [21, 22, 16, 23, 24, 25, 26, 4, 27, 11, 12, 13, 14, 6, 15, 17, 28, 29, 30, 31, 32, 33, 34, 35, 36, 37, 38, 39] (by decide +kernel) (by decide +kernel)
set_option maxRecDepth 20000 in
theorem gX8_wouldMeet_X8_touching : GoodIn wsX8_wouldMeet (va_wsS RX8 91 yX8_touching wsX8_touching) := goodIn_app (goodIn_of _ (by decide +kernel)) ggX8_wouldMeet_X8_touching
theorem dX8_wouldMeet_0 : decode cX8_wouldMeet 0 = .ok (.iconst 0, 1) := by decide +kernel
theorem dX8_wouldMeet_1 : decode cX8_wouldMeet 1 = .ok (.istore_n 3, 1) := by decide +kernel
theorem dX8_wouldMeet_2 : decode cX8_wouldMeet 2 = .ok (.iconst 0, 1) := by decide +kernel
theorem dX8_wouldMeet_3 : decode cX8_wouldMeet 3 = .ok (.istore 4, 2) := by decide +kernel
theorem dX8_wouldMeet_5 : decode cX8_wouldMeet 5 = .ok (.iload 4, 2) := by decide +kernel
theorem dX8_wouldMeet_7 : decode cX8_wouldMeet 7 = .ok (.bipush 24, 2) := by decide +kernel
theorem dX8_wouldMeet_9 : decode cX8_wouldMeet 9 = .ok (.if_icmp .ge 25, 3) := by decide +kernel
theorem dX8_wouldMeet_12 : decode cX8_wouldMeet 12 = .ok (.iload_n 3, 1) := by decide +kernel
theorem dX8_wouldMeet_13 : decode cX8_wouldMeet 13 = .ok (.aload_n 1, 1) := by decide +kernel
theorem dX8_wouldMeet_14 : decode cX8_wouldMeet 14 = .ok (.iload 4, 2) := by decide +kernel
theorem dX8_wouldMeet_16 : decode cX8_wouldMeet 16 = .ok (.aload_n 1, 1) := by decide +kernel
theorem dX8_wouldMeet_17 : decode cX8_wouldMeet 17 = .ok (.iload 4, 2) := by decide +kernel
theorem dX8_wouldMeet_19 : decode cX8_wouldMeet 19 = .ok (.invokevirtual 49, 3) := by decide +kernel
theorem dX8_wouldMeet_22 : decode cX8_wouldMeet 22 = .ok (.iload_n 2, 1) := by decide +kernel
theorem dX8_wouldMeet_23 : decode cX8_wouldMeet 23 = .ok (.invokestatic 91, 3) := by decide +kernel
theorem dX8_wouldMeet_26 : decode cX8_wouldMeet 26 = .ok (.ior, 1) := by decide +kernel
theorem dX8_wouldMeet_27 : decode cX8_wouldMeet 27 = .ok (.istore_n 3, 1) := by decide +kernel
theorem dX8_wouldMeet_28 : decode cX8_wouldMeet 28 = .ok (.iinc 4 1, 3) := by decide +kernel
theorem dX8_wouldMeet_31 : decode cX8_wouldMeet 31 = .ok (.goto (-26), 3) := by decide +kernel
theorem dX8_wouldMeet_34 : decode cX8_wouldMeet 34 = .ok (.iload_n 3, 1) := by decide +kernel
theorem dX8_wouldMeet_35 : decode cX8_wouldMeet 35 = .ok (.ireturn, 1) := by decide +kernel
set_option maxRecDepth 20000 in
theorem ggX8_touching_X9_isInSet : GoodIn wsX8_touching wsX9_isInSet := goodIn_r _ [3] (by decide +kernel) (by decide +kernel)
set_option maxRecDepth 20000 in
theorem gX8_touching_X9_isInSet_n81 : GoodIn wsX8_touching (wsX9_isInSet) := ggX8_touching_X9_isInSet
set_option maxRecDepth 20000 in
theorem ggX8_touching_X7_dotsOf : GoodIn wsX8_touching wsX7_dotsOf := goodIn_r _ [8, 9, 10, 11, 7, 12, 13, 14, 2, 15, 16, 17, 18, 19, 20, 21, 22, 27] (by decide +kernel) (by decide +kernel)
set_option maxRecDepth 20000 in
theorem gX8_touching_X7_dotsOf : GoodIn wsX8_touching (wsV RX8 85 RX7 yX7_dotsOf wsX7_dotsOf) := goodIn_app (goodIn_of _ (by decide +kernel)) ggX8_touching_X7_dotsOf
set_option maxRecDepth 20000 in
theorem ggX8_touching_X7_cell : GoodIn wsX8_touching wsX7_cell := goodIn_r _ [26, 13, 27] (by decide +kernel) (by decide +kernel)
set_option maxRecDepth 20000 in
theorem gX8_touching_X7_cell : GoodIn wsX8_touching (wsV RX8 30 RX7 yX7_cell wsX7_cell) := goodIn_app (goodIn_of _ (by decide +kernel)) ggX8_touching_X7_cell
theorem dX8_touching_0 : decode cX8_touching 0 = .ok (.iconst 0, 1) := by decide +kernel
theorem dX8_touching_1 : decode cX8_touching 1 = .ok (.istore 4, 2) := by decide +kernel
theorem dX8_touching_3 : decode cX8_touching 3 = .ok (.iload_n 2, 1) := by decide +kernel
theorem dX8_touching_4 : decode cX8_touching 4 = .ok (.iload_n 3, 1) := by decide +kernel
theorem dX8_touching_5 : decode cX8_touching 5 = .ok (.invokestatic 81, 3) := by decide +kernel
theorem dX8_touching_8 : decode cX8_touching 8 = .ok (.ifCond .eq 67, 3) := by decide +kernel
theorem dX8_touching_11 : decode cX8_touching 11 = .ok (.aload_n 0, 1) := by decide +kernel
theorem dX8_touching_12 : decode cX8_touching 12 = .ok (.iload_n 3, 1) := by decide +kernel
theorem dX8_touching_13 : decode cX8_touching 13 = .ok (.iload_n 1, 1) := by decide +kernel
theorem dX8_touching_14 : decode cX8_touching 14 = .ok (.invokevirtual 85, 3) := by decide +kernel
theorem dX8_touching_17 : decode cX8_touching 17 = .ok (.istore 5, 2) := by decide +kernel
theorem dX8_touching_19 : decode cX8_touching 19 = .ok (.iconst 0, 1) := by decide +kernel
theorem dX8_touching_20 : decode cX8_touching 20 = .ok (.istore 6, 2) := by decide +kernel
theorem dX8_touching_22 : decode cX8_touching 22 = .ok (.iload 6, 2) := by decide +kernel
theorem dX8_touching_24 : decode cX8_touching 24 = .ok (.aload_n 0, 1) := by decide +kernel
theorem dX8_touching_25 : decode cX8_touching 25 = .ok (.iconst 0, 1) := by decide +kernel
theorem dX8_touching_26 : decode cX8_touching 26 = .ok (.invokevirtual 30, 3) := by decide +kernel
theorem dX8_touching_29 : decode cX8_touching 29 = .ok (.if_icmp .ge 46, 3) := by decide +kernel
theorem dX8_touching_32 : decode cX8_touching 32 = .ok (.iload 6, 2) := by decide +kernel
theorem dX8_touching_34 : decode cX8_touching 34 = .ok (.iload_n 3, 1) := by decide +kernel
theorem dX8_touching_35 : decode cX8_touching 35 = .ok (.if_icmp .eq 34, 3) := by decide +kernel
theorem dX8_touching_38 : decode cX8_touching 38 = .ok (.iload_n 2, 1) := by decide +kernel
theorem dX8_touching_39 : decode cX8_touching 39 = .ok (.iload 6, 2) := by decide +kernel
theorem dX8_touching_41 : decode cX8_touching 41 = .ok (.invokestatic 81, 3) := by decide +kernel
theorem dX8_touching_44 : decode cX8_touching 44 = .ok (.ifCond .eq 25, 3) := by decide +kernel
theorem dX8_touching_47 : decode cX8_touching 47 = .ok (.iload 5, 2) := by decide +kernel
theorem dX8_touching_49 : decode cX8_touching 49 = .ok (.aload_n 0, 1) := by decide +kernel
theorem dX8_touching_50 : decode cX8_touching 50 = .ok (.iload 6, 2) := by decide +kernel
theorem dX8_touching_52 : decode cX8_touching 52 = .ok (.iload_n 1, 1) := by decide +kernel
theorem dX8_touching_53 : decode cX8_touching 53 = .ok (.invokevirtual 85, 3) := by decide +kernel
theorem dX8_touching_56 : decode cX8_touching 56 = .ok (.iand, 1) := by decide +kernel
theorem dX8_touching_57 : decode cX8_touching 57 = .ok (.ifCond .eq 12, 3) := by decide +kernel
theorem dX8_touching_60 : decode cX8_touching 60 = .ok (.iload 4, 2) := by decide +kernel
theorem dX8_touching_62 : decode cX8_touching 62 = .ok (.iconst 1, 1) := by decide +kernel
theorem dX8_touching_63 : decode cX8_touching 63 = .ok (.iload 6, 2) := by decide +kernel
theorem dX8_touching_65 : decode cX8_touching 65 = .ok (.ishl, 1) := by decide +kernel
theorem dX8_touching_66 : decode cX8_touching 66 = .ok (.ior, 1) := by decide +kernel
theorem dX8_touching_67 : decode cX8_touching 67 = .ok (.istore 4, 2) := by decide +kernel
theorem dX8_touching_69 : decode cX8_touching 69 = .ok (.iinc 6 1, 3) := by decide +kernel
theorem dX8_touching_72 : decode cX8_touching 72 = .ok (.goto (-50), 3) := by decide +kernel
theorem dX8_touching_75 : decode cX8_touching 75 = .ok (.iload 4, 2) := by decide +kernel
theorem dX8_touching_77 : decode cX8_touching 77 = .ok (.ireturn, 1) := by decide +kernel
set_option maxRecDepth 20000 in
theorem ggX9_init_X7_init : GoodIn wsX9_init wsX7_init := goodIn_r _ [40, 41, 2, 3, 33, 42, 92] (by decide +kernel) (by decide +kernel)
set_option maxRecDepth 20000 in
theorem gX9_init_X7_init : GoodIn wsX9_init (wsX7_init) := ggX9_init_X7_init
set_option maxRecDepth 20000 in
theorem ggX9_init_X8_init : GoodIn wsX9_init wsX8_init := goodIn_r _ [44, 45, 2, 3, 46, 47, 48, 49, 50, 51, 52, 53, 54, 55, 56, 57, 33, 58, 59, 60, 61, 62, 63, 120, 103, 104, 105, 121, 122, 123] (by decide +kernel) (by decide +kernel)
set_option maxRecDepth 20000 in
theorem gX9_init_X8_init_n18 : GoodIn wsX9_init (wsX8_init) := ggX9_init_X8_init
set_option maxRecDepth 20000 in
theorem ggX9_init_X4_init : GoodIn wsX9_init wsX4_init := goodIn_r _ [65, 66, 2, 3, 33, 67, 68, 106, 107, 108] (by decide +kernel) (by decide +kernel)
set_option maxRecDepth 20000 in
theorem gX9_init_X4_init_n25 : GoodIn wsX9_init (wsX4_init) := ggX9_init_X4_init
set_option maxRecDepth 20000 in
theorem ggX9_init_X2_init : GoodIn wsX9_init wsX2_init := goodIn_r _ [70, 71, 2, 3, 72, 5, 6, 73, 74, 47, 48, 75, 33, 76, 77, 39, 40, 41, 42, 55, 56, 57, 58, 92, 109, 110, 111, 120] (by decide +kernel) (by decide +kernel)
set_option maxRecDepth 20000 in
theorem gX9_init_X2_init_n32 : GoodIn wsX9_init (wsX2_init) := ggX9_init_X2_init
set_option maxRecDepth 20000 in
theorem ggX9_init_X3_init : GoodIn wsX9_init wsX3_init := goodIn_r _ [79, 80, 2, 3, 81, 33, 82, 112, 113, 114] (by decide +kernel) (by decide +kernel)
set_option maxRecDepth 20000 in
theorem gX9_init_X3_init_n39 : GoodIn wsX9_init (wsX3_init) := ggX9_init_X3_init
set_option maxRecDepth 20000 in
theorem ggX9_init_X0_init : GoodIn wsX9_init wsX0_init := goodIn_r _ [84, 85, 2, 3, 33, 86, 87, 88, 115, 116, 117, 118] (by decide +kernel) (by decide +kernel)
set_option maxRecDepth 20000 in
theorem gX9_init_X0_init_n46 : GoodIn wsX9_init (wsX0_init) := ggX9_init_X0_init
set_option maxRecDepth 20000 in
theorem ggX9_init_X1_init : GoodIn wsX9_init wsX1_init := goodIn_r _ [90, 91, 2, 3] (by decide +kernel) (by decide +kernel)
set_option maxRecDepth 20000 in
theorem gX9_init_X1_init_n53 : GoodIn wsX9_init (wsX1_init) := ggX9_init_X1_init
theorem dX9_init_0 : decode cX9_init 0 = .ok (.aload_n 0, 1) := by decide +kernel
theorem dX9_init_1 : decode cX9_init 1 = .ok (.invokespecial 1, 3) := by decide +kernel
theorem dX9_init_4 : decode cX9_init 4 = .ok (.aload_n 0, 1) := by decide +kernel
theorem dX9_init_5 : decode cX9_init 5 = .ok (.new 7, 3) := by decide +kernel
theorem dX9_init_8 : decode cX9_init 8 = .ok (.dup, 1) := by decide +kernel
theorem dX9_init_9 : decode cX9_init 9 = .ok (.invokespecial 9, 3) := by decide +kernel
theorem dX9_init_12 : decode cX9_init 12 = .ok (.putfield 10, 3) := by decide +kernel
theorem dX9_init_15 : decode cX9_init 15 = .ok (.aload_n 0, 1) := by decide +kernel
theorem dX9_init_16 : decode cX9_init 16 = .ok (.new 16, 3) := by decide +kernel
theorem dX9_init_19 : decode cX9_init 19 = .ok (.dup, 1) := by decide +kernel
theorem dX9_init_20 : decode cX9_init 20 = .ok (.invokespecial 18, 3) := by decide +kernel
theorem dX9_init_23 : decode cX9_init 23 = .ok (.putfield 19, 3) := by decide +kernel
theorem dX9_init_26 : decode cX9_init 26 = .ok (.aload_n 0, 1) := by decide +kernel
theorem dX9_init_27 : decode cX9_init 27 = .ok (.new 23, 3) := by decide +kernel
theorem dX9_init_30 : decode cX9_init 30 = .ok (.dup, 1) := by decide +kernel
theorem dX9_init_31 : decode cX9_init 31 = .ok (.invokespecial 25, 3) := by decide +kernel
theorem dX9_init_34 : decode cX9_init 34 = .ok (.putfield 26, 3) := by decide +kernel
theorem dX9_init_37 : decode cX9_init 37 = .ok (.aload_n 0, 1) := by decide +kernel
theorem dX9_init_38 : decode cX9_init 38 = .ok (.new 30, 3) := by decide +kernel
theorem dX9_init_41 : decode cX9_init 41 = .ok (.dup, 1) := by decide +kernel
theorem dX9_init_42 : decode cX9_init 42 = .ok (.invokespecial 32, 3) := by decide +kernel
theorem dX9_init_45 : decode cX9_init 45 = .ok (.putfield 33, 3) := by decide +kernel
theorem dX9_init_48 : decode cX9_init 48 = .ok (.aload_n 0, 1) := by decide +kernel
theorem dX9_init_49 : decode cX9_init 49 = .ok (.new 37, 3) := by decide +kernel
theorem dX9_init_52 : decode cX9_init 52 = .ok (.dup, 1) := by decide +kernel
theorem dX9_init_53 : decode cX9_init 53 = .ok (.invokespecial 39, 3) := by decide +kernel
theorem dX9_init_56 : decode cX9_init 56 = .ok (.putfield 40, 3) := by decide +kernel
theorem dX9_init_59 : decode cX9_init 59 = .ok (.aload_n 0, 1) := by decide +kernel
theorem dX9_init_60 : decode cX9_init 60 = .ok (.new 44, 3) := by decide +kernel
theorem dX9_init_63 : decode cX9_init 63 = .ok (.dup, 1) := by decide +kernel
theorem dX9_init_64 : decode cX9_init 64 = .ok (.invokespecial 46, 3) := by decide +kernel
theorem dX9_init_67 : decode cX9_init 67 = .ok (.putfield 47, 3) := by decide +kernel
theorem dX9_init_70 : decode cX9_init 70 = .ok (.aload_n 0, 1) := by decide +kernel
theorem dX9_init_71 : decode cX9_init 71 = .ok (.new 51, 3) := by decide +kernel
theorem dX9_init_74 : decode cX9_init 74 = .ok (.dup, 1) := by decide +kernel
theorem dX9_init_75 : decode cX9_init 75 = .ok (.invokespecial 53, 3) := by decide +kernel
theorem dX9_init_78 : decode cX9_init 78 = .ok (.putfield 54, 3) := by decide +kernel
theorem dX9_init_81 : decode cX9_init 81 = .ok (.aload_n 0, 1) := by decide +kernel
theorem dX9_init_82 : decode cX9_init 82 = .ok (.iconst 2, 1) := by decide +kernel
theorem dX9_init_83 : decode cX9_init 83 = .ok (.sipush 132, 3) := by decide +kernel
theorem dX9_init_86 : decode cX9_init 86 = .ok (.multianewarray 58 2, 4) := by decide +kernel
theorem dX9_init_90 : decode cX9_init 90 = .ok (.putfield 60, 3) := by decide +kernel
theorem dX9_init_93 : decode cX9_init 93 = .ok (.aload_n 0, 1) := by decide +kernel
theorem dX9_init_94 : decode cX9_init 94 = .ok (.iconst 2, 1) := by decide +kernel
theorem dX9_init_95 : decode cX9_init 95 = .ok (.newarray .int, 2) := by decide +kernel
theorem dX9_init_97 : decode cX9_init 97 = .ok (.putfield 63, 3) := by decide +kernel
theorem dX9_init_100 : decode cX9_init 100 = .ok (.aload_n 0, 1) := by decide +kernel
theorem dX9_init_101 : decode cX9_init 101 = .ok (.iconst 2, 1) := by decide +kernel
theorem dX9_init_102 : decode cX9_init 102 = .ok (.newarray .boolean, 2) := by decide +kernel
theorem dX9_init_104 : decode cX9_init 104 = .ok (.putfield 67, 3) := by decide +kernel
theorem dX9_init_107 : decode cX9_init 107 = .ok (.return_, 1) := by decide +kernel
set_option maxRecDepth 20000 in
theorem ggX9_told_X7_cell : GoodIn wsX9_told wsX7_cell := goodIn_r _ [11, 12, 198] (by decide +kernel) (by decide +kernel)
set_option maxRecDepth 20000 in
theorem gX9_told_X7_cell : GoodIn wsX9_told (wsV RX9 71 RX7 yX7_cell wsX7_cell) := goodIn_app (goodIn_of _ (by decide +kernel)) ggX9_told_X7_cell
set_option maxRecDepth 20000 in
theorem ggX9_told_X9_missingNow : GoodIn wsX9_told wsX9_missingNow := goodIn_r _ [17, 2, 1, 7, 8, 9, 10, 11, 12, 18, 19, 20, 21, 22, 23, 24, 25, 26, 27, 28, 29, 30, 31, 32, 33, 34, 35, 36, 37, 38, 39, 40, 41, 42, 43, 44, 45, 46, 47, 48, 49, 50, 51, 52, 53, 54, 16, 55, 56, 57, 58, 59, 60, 61, 62, 63, 64, 65, 66, 67, 68, 69, 70, 71, 72, 73, 74, 75, 76, 77, 78, 79, 80, 81, 82, 83, 84, 85, 86, 87, 88, 89, 90, 91, 92, 93, 94, 95, 96, 97, 98, 99, 100, 101, 102, 188, 189, 190, 191, 192, 193, 194, 195, 196, 197, 198, 199, 200, 201, 202, 203, 204, 205] (by decide +kernel) (by decide +kernel)
set_option maxRecDepth 20000 in
theorem gX9_told_X9_missingNow : GoodIn wsX9_told (wsV RX9 75 RX9 yX9_missingNow wsX9_missingNow) := goodIn_app (goodIn_of _ (by decide +kernel)) ggX9_told_X9_missingNow
set_option maxRecDepth 20000 in
theorem ggX9_told_X8_bestRule : GoodIn wsX9_told wsX8_bestRule := goodIn_r _ [106, 107, 19, 20, 21, 22, 23, 24, 25, 26, 27, 28, 29, 30, 31, 32, 8, 9, 10, 11, 12, 33, 34, 35, 36, 37, 38, 39, 40, 41, 42, 43, 44, 45, 46, 47, 48, 49, 50, 51, 52, 53, 54, 16, 55, 56, 57, 58, 59, 60, 61, 62, 63, 64, 65, 66, 67, 68, 69, 70, 71, 72, 73, 74, 75, 76, 77, 78, 79, 80, 81, 82, 83, 84, 85, 86, 87, 88, 89, 90, 91, 92, 93, 94, 95, 96, 97, 98, 99, 100, 101, 102, 199, 200, 201, 202, 198, 203, 204, 205] (by decide +kernel) (by decide +kernel)
set_option maxRecDepth 20000 in
theorem gX9_told_X8_bestRule : GoodIn wsX9_told (wsV RX9 79 RX8 yX8_bestRule wsX8_bestRule) := goodIn_app (goodIn_of _ (by decide +kernel)) ggX9_told_X8_bestRule
set_option maxRecDepth 20000 in
theorem ggX9_told_X8_enough : GoodIn wsX9_told wsX8_enough := goodIn_r _ [111, 112, 113, 114, 115, 45, 46, 47, 10, 48, 12, 49, 50, 51, 52, 53, 38, 39, 40, 54, 16, 55, 96, 97, 98, 99, 100, 101, 102, 198] (by decide +kernel) (by decide +kernel)
set_option maxRecDepth 20000 in
theorem gX9_told_X8_enough : GoodIn wsX9_told (wsV RX9 83 RX8 yX8_enough wsX8_enough) := goodIn_app (goodIn_of _ (by decide +kernel)) ggX9_told_X8_enough
set_option maxRecDepth 20000 in
theorem ggX9_told_X4_assign : GoodIn wsX9_told wsX4_assign := goodIn_r _ [120, 121, 122, 123, 8, 9, 10, 11, 12, 124, 38, 39, 40, 125, 126, 127, 119, 128, 129, 130, 113, 114, 115, 206, 207, 208, 198] (by decide +kernel) (by decide +kernel)
set_option maxRecDepth 20000 in
theorem gX9_told_X4_assign : GoodIn wsX9_told (wsV RX9 86 RX4 yX4_assign wsX4_assign) := goodIn_app (goodIn_of _ (by decide +kernel)) ggX9_told_X4_assign
set_option maxRecDepth 20000 in
theorem ggX9_told_X8_filledDots : GoodIn wsX9_told wsX8_filledDots := goodIn_r _ [134, 135, 136, 137, 21, 138, 24, 139, 140, 141, 142, 23, 143, 8, 9, 10, 11, 12, 26, 27, 28, 29, 30, 31, 32, 33, 34, 35, 36, 37, 38, 39, 40, 41, 42, 43, 44, 56, 57, 58, 59, 60, 50, 51, 52, 53, 54, 16, 55, 61, 62, 63, 64, 65, 66, 67, 68, 69, 70, 71, 72, 73, 74, 75, 76, 77, 78, 79, 80, 81, 82, 83, 84, 85, 86, 87, 88, 89, 90, 91, 144, 145, 146, 147, 96, 97, 98, 99, 100, 101, 102, 199, 200, 201, 198, 202, 203, 204, 205] (by decide +kernel) (by decide +kernel)
set_option maxRecDepth 20000 in
theorem gX9_told_X8_filledDots : GoodIn wsX9_told (wsV RX9 89 RX8 yX8_filledDots wsX8_filledDots) := goodIn_app (goodIn_of _ (by decide +kernel)) ggX9_told_X8_filledDots
set_option maxRecDepth 20000 in
theorem ggX9_told_X0_size : GoodIn wsX9_told wsX0_size := goodIn_r _ [152, 153, 209, 210, 211, 212] (by decide +kernel) (by decide +kernel)
set_option maxRecDepth 20000 in
theorem gX9_told_X0_size : GoodIn wsX9_told (wsV RX9 92 RX0 yX0_size wsX0_size) := goodIn_app (goodIn_of _ (by decide +kernel)) ggX9_told_X0_size
set_option maxRecDepth 20000 in
theorem ggX9_told_X9_firstWrong : GoodIn wsX9_told wsX9_firstWrong := goodIn_r _ [157, 4, 2, 1, 148, 149, 150, 151, 152, 153, 158, 159, 160, 161, 162, 163, 136, 137, 21, 138, 24, 139, 140, 141, 142, 23, 143, 8, 9, 10, 11, 12, 26, 27, 28, 29, 30, 31, 32, 33, 34, 35, 36, 37, 38, 39, 40, 41, 42, 43, 44, 56, 57, 58, 59, 60, 50, 51, 52, 53, 54, 16, 55, 61, 62, 63, 64, 65, 66, 67, 68, 69, 70, 71, 72, 73, 74, 75, 76, 77, 78, 79, 80, 81, 82, 83, 84, 85, 86, 87, 88, 89, 90, 91, 164, 165, 166, 167, 168, 169, 170, 171, 172, 173, 174, 175, 176, 177, 178, 179, 180, 181, 188, 189, 190, 191, 192, 193, 194, 195, 196, 197, 209, 210, 211, 212, 199, 200, 201, 198, 202, 203, 204, 205] (by decide +kernel) (by decide +kernel)
set_option maxRecDepth 20000 in
theorem gX9_told_X9_firstWrong : GoodIn wsX9_told (wsV RX9 95 RX9 yX9_firstWrong wsX9_firstWrong) := goodIn_app (goodIn_of _ (by decide +kernel)) ggX9_told_X9_firstWrong
set_option maxRecDepth 20000 in
theorem ggX9_told_X3_size : GoodIn wsX9_told wsX3_size := goodIn_r _ [186, 187, 213, 214, 215] (by decide +kernel) (by decide +kernel)
set_option maxRecDepth 20000 in
theorem gX9_told_X3_size : GoodIn wsX9_told (wsV RX9 98 RX3 yX3_size wsX3_size) := goodIn_app (goodIn_of _ (by decide +kernel)) ggX9_told_X3_size
theorem dX9_told_0 : decode cX9_told 0 = .ok (.iload_n 1, 1) := by decide +kernel
theorem dX9_told_1 : decode cX9_told 1 = .ok (.tableswitch 173 0 11 #[63, 72, 81, 90, 99, 104, 116, 128, 140, 152, 160, 165], 63) := by decide +kernel
theorem dX9_told_64 : decode cX9_told 64 = .ok (.aload_n 0, 1) := by decide +kernel
theorem dX9_told_65 : decode cX9_told 65 = .ok (.getfield 10, 3) := by decide +kernel
theorem dX9_told_68 : decode cX9_told 68 = .ok (.iconst 0, 1) := by decide +kernel
theorem dX9_told_69 : decode cX9_told 69 = .ok (.invokevirtual 71, 3) := by decide +kernel
theorem dX9_told_72 : decode cX9_told 72 = .ok (.ireturn, 1) := by decide +kernel
theorem dX9_told_73 : decode cX9_told 73 = .ok (.aload_n 0, 1) := by decide +kernel
theorem dX9_told_74 : decode cX9_told 74 = .ok (.getfield 10, 3) := by decide +kernel
theorem dX9_told_77 : decode cX9_told 77 = .ok (.iconst 1, 1) := by decide +kernel
theorem dX9_told_78 : decode cX9_told 78 = .ok (.invokevirtual 71, 3) := by decide +kernel
theorem dX9_told_81 : decode cX9_told 81 = .ok (.ireturn, 1) := by decide +kernel
theorem dX9_told_82 : decode cX9_told 82 = .ok (.aload_n 0, 1) := by decide +kernel
theorem dX9_told_83 : decode cX9_told 83 = .ok (.getfield 10, 3) := by decide +kernel
theorem dX9_told_86 : decode cX9_told 86 = .ok (.iconst 2, 1) := by decide +kernel
theorem dX9_told_87 : decode cX9_told 87 = .ok (.invokevirtual 71, 3) := by decide +kernel
theorem dX9_told_90 : decode cX9_told 90 = .ok (.ireturn, 1) := by decide +kernel
theorem dX9_told_91 : decode cX9_told 91 = .ok (.aload_n 0, 1) := by decide +kernel
theorem dX9_told_92 : decode cX9_told 92 = .ok (.getfield 10, 3) := by decide +kernel
theorem dX9_told_95 : decode cX9_told 95 = .ok (.iconst 3, 1) := by decide +kernel
theorem dX9_told_96 : decode cX9_told 96 = .ok (.invokevirtual 71, 3) := by decide +kernel
theorem dX9_told_99 : decode cX9_told 99 = .ok (.ireturn, 1) := by decide +kernel
theorem dX9_told_100 : decode cX9_told 100 = .ok (.aload_n 0, 1) := by decide +kernel
theorem dX9_told_101 : decode cX9_told 101 = .ok (.invokevirtual 75, 3) := by decide +kernel
theorem dX9_told_104 : decode cX9_told 104 = .ok (.ireturn, 1) := by decide +kernel
theorem dX9_told_105 : decode cX9_told 105 = .ok (.aload_n 0, 1) := by decide +kernel
theorem dX9_told_106 : decode cX9_told 106 = .ok (.getfield 19, 3) := by decide +kernel
theorem dX9_told_109 : decode cX9_told 109 = .ok (.aload_n 0, 1) := by decide +kernel
theorem dX9_told_110 : decode cX9_told 110 = .ok (.getfield 10, 3) := by decide +kernel
theorem dX9_told_113 : decode cX9_told 113 = .ok (.invokevirtual 79, 3) := by decide +kernel
theorem dX9_told_116 : decode cX9_told 116 = .ok (.ireturn, 1) := by decide +kernel
theorem dX9_told_117 : decode cX9_told 117 = .ok (.aload_n 0, 1) := by decide +kernel
theorem dX9_told_118 : decode cX9_told 118 = .ok (.getfield 19, 3) := by decide +kernel
theorem dX9_told_121 : decode cX9_told 121 = .ok (.aload_n 0, 1) := by decide +kernel
theorem dX9_told_122 : decode cX9_told 122 = .ok (.getfield 10, 3) := by decide +kernel
theorem dX9_told_125 : decode cX9_told 125 = .ok (.invokevirtual 83, 3) := by decide +kernel
theorem dX9_told_128 : decode cX9_told 128 = .ok (.ireturn, 1) := by decide +kernel
theorem dX9_told_129 : decode cX9_told 129 = .ok (.aload_n 0, 1) := by decide +kernel
theorem dX9_told_130 : decode cX9_told 130 = .ok (.getfield 26, 3) := by decide +kernel
theorem dX9_told_133 : decode cX9_told 133 = .ok (.aload_n 0, 1) := by decide +kernel
theorem dX9_told_134 : decode cX9_told 134 = .ok (.getfield 10, 3) := by decide +kernel
theorem dX9_told_137 : decode cX9_told 137 = .ok (.invokevirtual 86, 3) := by decide +kernel
theorem dX9_told_140 : decode cX9_told 140 = .ok (.ireturn, 1) := by decide +kernel
theorem dX9_told_141 : decode cX9_told 141 = .ok (.aload_n 0, 1) := by decide +kernel
theorem dX9_told_142 : decode cX9_told 142 = .ok (.getfield 19, 3) := by decide +kernel
theorem dX9_told_145 : decode cX9_told 145 = .ok (.aload_n 0, 1) := by decide +kernel
theorem dX9_told_146 : decode cX9_told 146 = .ok (.getfield 10, 3) := by decide +kernel
theorem dX9_told_149 : decode cX9_told 149 = .ok (.invokevirtual 89, 3) := by decide +kernel
theorem dX9_told_152 : decode cX9_told 152 = .ok (.ireturn, 1) := by decide +kernel
theorem dX9_told_153 : decode cX9_told 153 = .ok (.aload_n 0, 1) := by decide +kernel
theorem dX9_told_154 : decode cX9_told 154 = .ok (.getfield 47, 3) := by decide +kernel
theorem dX9_told_157 : decode cX9_told 157 = .ok (.invokevirtual 92, 3) := by decide +kernel
theorem dX9_told_160 : decode cX9_told 160 = .ok (.ireturn, 1) := by decide +kernel
theorem dX9_told_161 : decode cX9_told 161 = .ok (.aload_n 0, 1) := by decide +kernel
theorem dX9_told_162 : decode cX9_told 162 = .ok (.invokevirtual 95, 3) := by decide +kernel
theorem dX9_told_165 : decode cX9_told 165 = .ok (.ireturn, 1) := by decide +kernel
theorem dX9_told_166 : decode cX9_told 166 = .ok (.aload_n 0, 1) := by decide +kernel
theorem dX9_told_167 : decode cX9_told 167 = .ok (.getfield 40, 3) := by decide +kernel
theorem dX9_told_170 : decode cX9_told 170 = .ok (.invokevirtual 98, 3) := by decide +kernel
theorem dX9_told_173 : decode cX9_told 173 = .ok (.ireturn, 1) := by decide +kernel
theorem dX9_told_174 : decode cX9_told 174 = .ok (.ldc 99, 2) := by decide +kernel
theorem dX9_told_176 : decode cX9_told 176 = .ok (.ireturn, 1) := by decide +kernel
set_option maxRecDepth 20000 in
theorem ggX9_thing_X9_isThing : GoodIn wsX9_thing wsX9_isThing := goodIn_r _ [9, 2, 10, 11, 12, 13, 14, 15, 16, 17, 8, 18, 159, 160, 161, 162, 163, 164, 165, 166, 167, 168, 169] (by decide +kernel) (by decide +kernel)
set_option maxRecDepth 20000 in
theorem gX9_thing_X9_isThing : GoodIn wsX9_thing (wsV RX9 100 RX9 yX9_isThing wsX9_isThing) := goodIn_app (goodIn_of _ (by decide +kernel)) ggX9_thing_X9_isThing
set_option maxRecDepth 20000 in
theorem ggX9_thing_X7_field : GoodIn wsX9_thing wsX7_field := goodIn_r _ [22, 15, 169] (by decide +kernel) (by decide +kernel)
set_option maxRecDepth 20000 in
theorem gX9_thing_X7_field : GoodIn wsX9_thing (wsV RX9 105 RX7 yX7_field wsX7_field) := goodIn_app (goodIn_of _ (by decide +kernel)) ggX9_thing_X7_field
set_option maxRecDepth 20000 in
theorem ggX9_thing_X8_seenDots : GoodIn wsX9_thing wsX8_seenDots := goodIn_r _ [27, 28, 29, 30, 26, 31, 32, 33, 34, 35, 36, 37, 38, 11, 12, 13, 14, 15, 39, 40, 41, 42, 43, 44, 45, 46, 47, 48, 49, 50, 20, 21, 22, 51, 52, 53, 54, 55, 56, 57, 58, 59, 60, 61, 62, 63, 17, 8, 18, 64, 65, 66, 67, 68, 69, 70, 71, 72, 73, 74, 75, 76, 77, 78, 79, 80, 81, 82, 83, 84, 85, 86, 87, 88, 89, 90, 91, 92, 93, 94, 95, 96, 97, 98, 99, 100, 101, 102, 103, 104, 105, 170, 171, 172, 169, 173, 174, 175, 176] (by decide +kernel) (by decide +kernel)
set_option maxRecDepth 20000 in
theorem gX9_thing_X8_seenDots : GoodIn wsX9_thing (wsV RX9 109 RX8 yX8_seenDots wsX8_seenDots) := goodIn_app (goodIn_of _ (by decide +kernel)) ggX9_thing_X8_seenDots
set_option maxRecDepth 20000 in
theorem ggX9_thing_X8_coveredDots : GoodIn wsX9_thing wsX8_coveredDots := goodIn_r _ [109, 33, 34, 35, 26, 36, 37, 38, 11, 12, 13, 14, 15, 39, 40, 41, 42, 43, 44, 45, 46, 47, 48, 49, 50, 20, 21, 22, 51, 52, 53, 54, 55, 56, 57, 58, 59, 60, 61, 62, 63, 17, 8, 18, 77, 78, 28, 29, 30, 31, 32, 64, 65, 66, 67, 68, 69, 70, 71, 72, 73, 74, 75, 76, 79, 80, 81, 82, 83, 84, 85, 86, 87, 88, 89, 90, 91, 92, 93, 94, 95, 96, 97, 98, 110, 99, 100, 101, 102, 103, 104, 105, 170, 171, 172, 169, 173, 174, 175, 176] (by decide +kernel) (by decide +kernel)
set_option maxRecDepth 20000 in
theorem gX9_thing_X8_coveredDots : GoodIn wsX9_thing (wsV RX9 113 RX8 yX8_coveredDots wsX8_coveredDots) := goodIn_app (goodIn_of _ (by decide +kernel)) ggX9_thing_X8_coveredDots
set_option maxRecDepth 20000 in
theorem ggX9_thing_X8_droppedLines : GoodIn wsX9_thing wsX8_droppedLines := goodIn_r _ [114, 115, 60, 61, 13, 62, 63, 20, 21, 22, 15, 17, 8, 18, 33, 34, 35, 26, 36, 37, 38, 11, 12, 14, 39, 40, 41, 42, 43, 44, 45, 46, 47, 48, 49, 50, 51, 52, 53, 54, 55, 56, 57, 58, 59, 77, 78, 169, 170, 171, 172, 173] (by decide +kernel) (by decide +kernel)
set_option maxRecDepth 20000 in
theorem gX9_thing_X8_droppedLines : GoodIn wsX9_thing (wsV RX9 116 RX8 yX8_droppedLines wsX8_droppedLines) := goodIn_app (goodIn_of _ (by decide +kernel)) ggX9_thing_X8_droppedLines
set_option maxRecDepth 20000 in
theorem ggX9_thing_X9_holderOf : GoodIn wsX9_thing wsX9_holderOf := goodIn_r _ [119, 120, 2, 121, 122, 123, 124, 125, 126, 127, 128, 11, 12, 13, 14, 15, 129, 20, 21, 22, 130, 131, 132, 133, 134, 135, 136, 137, 138, 139, 140, 141, 142, 159, 160, 161, 162, 163, 164, 165, 166, 167, 168, 177, 178, 179, 169] (by decide +kernel) (by decide +kernel)
set_option maxRecDepth 20000 in
theorem gX9_thing_X9_holderOf : GoodIn wsX9_thing (wsV RX9 119 RX9 yX9_holderOf wsX9_holderOf) := goodIn_app (goodIn_of _ (by decide +kernel)) ggX9_thing_X9_holderOf
set_option maxRecDepth 20000 in
theorem ggX9_thing_X8_met : GoodIn wsX9_thing wsX8_met := goodIn_r _ [146, 33, 34, 35, 26, 36, 37, 38, 11, 12, 13, 14, 15, 39, 40, 41, 42, 43, 44, 45, 46, 47, 48, 49, 50, 20, 21, 22, 51, 52, 53, 54, 55, 56, 57, 58, 59, 60, 61, 62, 63, 17, 8, 18, 147, 148, 149, 77, 78, 110, 81, 82, 83, 84, 85, 86, 87, 88, 89, 90, 170, 171, 172, 169, 173] (by decide +kernel) (by decide +kernel)
set_option maxRecDepth 20000 in
theorem gX9_thing_X8_met : GoodIn wsX9_thing (wsV RX9 122 RX8 yX8_met wsX8_met) := goodIn_app (goodIn_of _ (by decide +kernel)) ggX9_thing_X8_met
set_option maxRecDepth 20000 in
theorem ggX9_thing_X8_wouldMeet : GoodIn wsX9_thing wsX8_wouldMeet := goodIn_r _ [153, 154, 155, 156, 13, 157, 15, 158, 60, 61, 62, 63, 20, 21, 22, 17, 8, 18, 147, 148, 26, 149, 77, 78, 110, 81, 82, 83, 84, 85, 86, 87, 88, 89, 90, 38, 11, 12, 14, 169] (by decide +kernel) (by decide +kernel)
set_option maxRecDepth 20000 in
theorem gX9_thing_X8_wouldMeet : GoodIn wsX9_thing (wsV RX9 125 RX8 yX8_wouldMeet wsX8_wouldMeet) := goodIn_app (goodIn_of _ (by decide +kernel)) ggX9_thing_X8_wouldMeet
theorem dX9_thing_0 : decode cX9_thing 0 = .ok (.aload_n 0, 1) := by decide +kernel
theorem dX9_thing_1 : decode cX9_thing 1 = .ok (.iload_n 1, 1) := by decide +kernel
theorem dX9_thing_2 : decode cX9_thing 2 = .ok (.invokevirtual 100, 3) := by decide +kernel
theorem dX9_thing_5 : decode cX9_thing 5 = .ok (.ifCond .ne 6, 3) := by decide +kernel
theorem dX9_thing_8 : decode cX9_thing 8 = .ok (.ldc 104, 2) := by decide +kernel
theorem dX9_thing_10 : decode cX9_thing 10 = .ok (.ireturn, 1) := by decide +kernel
theorem dX9_thing_11 : decode cX9_thing 11 = .ok (.iload_n 2, 1) := by decide +kernel
theorem dX9_thing_12 : decode cX9_thing 12 = .ok (.tableswitch 166 0 13 #[72, 72, 85, 85, 85, 85, 72, 72, 95, 108, 121, 134, 140, 153], 72) := by decide +kernel
theorem dX9_thing_84 : decode cX9_thing 84 = .ok (.aload_n 0, 1) := by decide +kernel
theorem dX9_thing_85 : decode cX9_thing 85 = .ok (.getfield 10, 3) := by decide +kernel
theorem dX9_thing_88 : decode cX9_thing 88 = .ok (.iload_n 1, 1) := by decide +kernel
theorem dX9_thing_89 : decode cX9_thing 89 = .ok (.iload_n 2, 1) := by decide +kernel
theorem dX9_thing_90 : decode cX9_thing 90 = .ok (.invokevirtual 105, 3) := by decide +kernel
theorem dX9_thing_93 : decode cX9_thing 93 = .ok (.bipush 8, 2) := by decide +kernel
theorem dX9_thing_95 : decode cX9_thing 95 = .ok (.iadd, 1) := by decide +kernel
theorem dX9_thing_96 : decode cX9_thing 96 = .ok (.ireturn, 1) := by decide +kernel
theorem dX9_thing_97 : decode cX9_thing 97 = .ok (.aload_n 0, 1) := by decide +kernel
theorem dX9_thing_98 : decode cX9_thing 98 = .ok (.getfield 10, 3) := by decide +kernel
theorem dX9_thing_101 : decode cX9_thing 101 = .ok (.iload_n 1, 1) := by decide +kernel
theorem dX9_thing_102 : decode cX9_thing 102 = .ok (.iload_n 2, 1) := by decide +kernel
theorem dX9_thing_103 : decode cX9_thing 103 = .ok (.invokevirtual 105, 3) := by decide +kernel
theorem dX9_thing_106 : decode cX9_thing 106 = .ok (.ireturn, 1) := by decide +kernel
theorem dX9_thing_107 : decode cX9_thing 107 = .ok (.aload_n 0, 1) := by decide +kernel
theorem dX9_thing_108 : decode cX9_thing 108 = .ok (.getfield 19, 3) := by decide +kernel
theorem dX9_thing_111 : decode cX9_thing 111 = .ok (.aload_n 0, 1) := by decide +kernel
theorem dX9_thing_112 : decode cX9_thing 112 = .ok (.getfield 10, 3) := by decide +kernel
theorem dX9_thing_115 : decode cX9_thing 115 = .ok (.iload_n 1, 1) := by decide +kernel
theorem dX9_thing_116 : decode cX9_thing 116 = .ok (.invokevirtual 109, 3) := by decide +kernel
theorem dX9_thing_119 : decode cX9_thing 119 = .ok (.ireturn, 1) := by decide +kernel
theorem dX9_thing_120 : decode cX9_thing 120 = .ok (.aload_n 0, 1) := by decide +kernel
theorem dX9_thing_121 : decode cX9_thing 121 = .ok (.getfield 19, 3) := by decide +kernel
theorem dX9_thing_124 : decode cX9_thing 124 = .ok (.aload_n 0, 1) := by decide +kernel
theorem dX9_thing_125 : decode cX9_thing 125 = .ok (.getfield 10, 3) := by decide +kernel
theorem dX9_thing_128 : decode cX9_thing 128 = .ok (.iload_n 1, 1) := by decide +kernel
theorem dX9_thing_129 : decode cX9_thing 129 = .ok (.invokevirtual 113, 3) := by decide +kernel
theorem dX9_thing_132 : decode cX9_thing 132 = .ok (.ireturn, 1) := by decide +kernel
theorem dX9_thing_133 : decode cX9_thing 133 = .ok (.aload_n 0, 1) := by decide +kernel
theorem dX9_thing_134 : decode cX9_thing 134 = .ok (.getfield 19, 3) := by decide +kernel
theorem dX9_thing_137 : decode cX9_thing 137 = .ok (.aload_n 0, 1) := by decide +kernel
theorem dX9_thing_138 : decode cX9_thing 138 = .ok (.getfield 10, 3) := by decide +kernel
theorem dX9_thing_141 : decode cX9_thing 141 = .ok (.iload_n 1, 1) := by decide +kernel
theorem dX9_thing_142 : decode cX9_thing 142 = .ok (.invokevirtual 116, 3) := by decide +kernel
theorem dX9_thing_145 : decode cX9_thing 145 = .ok (.ireturn, 1) := by decide +kernel
theorem dX9_thing_146 : decode cX9_thing 146 = .ok (.aload_n 0, 1) := by decide +kernel
theorem dX9_thing_147 : decode cX9_thing 147 = .ok (.iload_n 1, 1) := by decide +kernel
theorem dX9_thing_148 : decode cX9_thing 148 = .ok (.invokevirtual 119, 3) := by decide +kernel
theorem dX9_thing_151 : decode cX9_thing 151 = .ok (.ireturn, 1) := by decide +kernel
theorem dX9_thing_152 : decode cX9_thing 152 = .ok (.aload_n 0, 1) := by decide +kernel
theorem dX9_thing_153 : decode cX9_thing 153 = .ok (.getfield 19, 3) := by decide +kernel
theorem dX9_thing_156 : decode cX9_thing 156 = .ok (.aload_n 0, 1) := by decide +kernel
theorem dX9_thing_157 : decode cX9_thing 157 = .ok (.getfield 10, 3) := by decide +kernel
theorem dX9_thing_160 : decode cX9_thing 160 = .ok (.iload_n 1, 1) := by decide +kernel
theorem dX9_thing_161 : decode cX9_thing 161 = .ok (.invokevirtual 122, 3) := by decide +kernel
theorem dX9_thing_164 : decode cX9_thing 164 = .ok (.ireturn, 1) := by decide +kernel
theorem dX9_thing_165 : decode cX9_thing 165 = .ok (.aload_n 0, 1) := by decide +kernel
theorem dX9_thing_166 : decode cX9_thing 166 = .ok (.getfield 19, 3) := by decide +kernel
theorem dX9_thing_169 : decode cX9_thing 169 = .ok (.aload_n 0, 1) := by decide +kernel
theorem dX9_thing_170 : decode cX9_thing 170 = .ok (.getfield 10, 3) := by decide +kernel
theorem dX9_thing_173 : decode cX9_thing 173 = .ok (.iload_n 1, 1) := by decide +kernel
theorem dX9_thing_174 : decode cX9_thing 174 = .ok (.invokevirtual 125, 3) := by decide +kernel
theorem dX9_thing_177 : decode cX9_thing 177 = .ok (.ireturn, 1) := by decide +kernel
theorem dX9_thing_178 : decode cX9_thing 178 = .ok (.ldc 99, 2) := by decide +kernel
theorem dX9_thing_180 : decode cX9_thing 180 = .ok (.ireturn, 1) := by decide +kernel
set_option maxRecDepth 20000 in
theorem ggX9_dot_X9_isDot : GoodIn wsX9_dot wsX9_isDot := goodIn_r _ [7, 8, 9, 6, 10] (by decide +kernel) (by decide +kernel)
set_option maxRecDepth 20000 in
theorem gX9_dot_X9_isDot : GoodIn wsX9_dot (va_wsS RX9 128 yX9_isDot wsX9_isDot) := goodIn_app (goodIn_of _ (by decide +kernel)) ggX9_dot_X9_isDot
set_option maxRecDepth 20000 in
theorem ggX9_dot_X8_paintNow : GoodIn wsX9_dot wsX8_paintNow := goodIn_r _ [15, 16, 17, 18, 19, 14, 20, 21, 22, 23, 24, 25, 26, 27, 28, 29, 30, 31, 32, 33, 34, 35, 36, 37, 38, 39, 40, 41, 42, 43, 44, 45, 46, 47, 48, 49, 50, 51, 52, 53, 54, 55, 9, 6, 10, 56, 57, 58, 59, 60, 61, 62, 63, 64, 65, 66, 67, 68, 69, 70, 71, 72, 73, 74, 75, 76, 77, 78, 79, 80, 81, 82, 83, 84, 85, 86, 116, 117, 118, 119, 120, 121, 122, 123] (by decide +kernel) (by decide +kernel)
set_option maxRecDepth 20000 in
theorem gX9_dot_X8_paintNow : GoodIn wsX9_dot (wsV RX9 132 RX8 yX8_paintNow wsX8_paintNow) := goodIn_app (goodIn_of _ (by decide +kernel)) ggX9_dot_X8_paintNow
set_option maxRecDepth 20000 in
theorem ggX9_dot_X6_colourAt : GoodIn wsX9_dot wsX6_colourAt := goodIn_r _ [90, 91, 92, 93, 59, 94, 61, 69, 6, 70, 71, 40, 41, 25, 42, 27, 121, 122, 123, 119] (by decide +kernel) (by decide +kernel)
set_option maxRecDepth 20000 in
theorem gX9_dot_X6_colourAt : GoodIn wsX9_dot (wsV RX9 136 RX6 yX6_colourAt wsX6_colourAt) := goodIn_app (goodIn_of _ (by decide +kernel)) ggX9_dot_X6_colourAt
set_option maxRecDepth 20000 in
theorem ggX9_dot_X6_thingAt : GoodIn wsX9_dot wsX6_thingAt := goodIn_r _ [94, 61, 69, 6, 70, 121, 122, 123] (by decide +kernel) (by decide +kernel)
set_option maxRecDepth 20000 in
theorem gX9_dot_X6_thingAt : GoodIn wsX9_dot (wsV RX9 141 RX6 yX6_thingAt wsX6_thingAt) := goodIn_app (goodIn_of _ (by decide +kernel)) ggX9_dot_X6_thingAt
set_option maxRecDepth 20000 in
theorem ggX9_dot_X8_paintWhole : GoodIn wsX9_dot wsX8_paintWhole := goodIn_r _ [99, 100, 101, 102, 103, 25, 104, 27, 105, 52, 53, 54, 55, 40, 41, 42, 9, 6, 10, 56, 57, 58, 59, 60, 61, 62, 63, 64, 65, 66, 67, 68, 23, 24, 26, 69, 70, 71, 72, 73, 74, 75, 76, 77, 78, 79, 80, 81, 82, 83, 84, 85, 86, 116, 117, 118, 119, 121, 122, 123] (by decide +kernel) (by decide +kernel)
set_option maxRecDepth 20000 in
theorem gX9_dot_X8_paintWhole : GoodIn wsX9_dot (wsV RX9 144 RX8 yX8_paintWhole wsX8_paintWhole) := goodIn_app (goodIn_of _ (by decide +kernel)) ggX9_dot_X8_paintWhole
theorem dX9_dot_0 : decode cX9_dot 0 = .ok (.iload_n 1, 1) := by decide +kernel
theorem dX9_dot_1 : decode cX9_dot 1 = .ok (.iload_n 2, 1) := by decide +kernel
theorem dX9_dot_2 : decode cX9_dot 2 = .ok (.invokestatic 128, 3) := by decide +kernel
theorem dX9_dot_5 : decode cX9_dot 5 = .ok (.ifCond .ne 6, 3) := by decide +kernel
theorem dX9_dot_8 : decode cX9_dot 8 = .ok (.ldc 99, 2) := by decide +kernel
theorem dX9_dot_10 : decode cX9_dot 10 = .ok (.ireturn, 1) := by decide +kernel
theorem dX9_dot_11 : decode cX9_dot 11 = .ok (.iload_n 3, 1) := by decide +kernel
theorem dX9_dot_12 : decode cX9_dot 12 = .ok (.tableswitch 87 0 2 #[28, 49, 66], 28) := by decide +kernel
theorem dX9_dot_40 : decode cX9_dot 40 = .ok (.aload_n 0, 1) := by decide +kernel
theorem dX9_dot_41 : decode cX9_dot 41 = .ok (.getfield 19, 3) := by decide +kernel
theorem dX9_dot_44 : decode cX9_dot 44 = .ok (.aload_n 0, 1) := by decide +kernel
theorem dX9_dot_45 : decode cX9_dot 45 = .ok (.getfield 10, 3) := by decide +kernel
theorem dX9_dot_48 : decode cX9_dot 48 = .ok (.iload_n 1, 1) := by decide +kernel
theorem dX9_dot_49 : decode cX9_dot 49 = .ok (.invokevirtual 132, 3) := by decide +kernel
theorem dX9_dot_52 : decode cX9_dot 52 = .ok (.aload_n 0, 1) := by decide +kernel
theorem dX9_dot_53 : decode cX9_dot 53 = .ok (.getfield 10, 3) := by decide +kernel
theorem dX9_dot_56 : decode cX9_dot 56 = .ok (.iload_n 2, 1) := by decide +kernel
theorem dX9_dot_57 : decode cX9_dot 57 = .ok (.invokevirtual 136, 3) := by decide +kernel
theorem dX9_dot_60 : decode cX9_dot 60 = .ok (.ireturn, 1) := by decide +kernel
theorem dX9_dot_61 : decode cX9_dot 61 = .ok (.aload_n 0, 1) := by decide +kernel
theorem dX9_dot_62 : decode cX9_dot 62 = .ok (.getfield 19, 3) := by decide +kernel
theorem dX9_dot_65 : decode cX9_dot 65 = .ok (.aload_n 0, 1) := by decide +kernel
theorem dX9_dot_66 : decode cX9_dot 66 = .ok (.getfield 10, 3) := by decide +kernel
theorem dX9_dot_69 : decode cX9_dot 69 = .ok (.iload_n 1, 1) := by decide +kernel
theorem dX9_dot_70 : decode cX9_dot 70 = .ok (.invokevirtual 132, 3) := by decide +kernel
theorem dX9_dot_73 : decode cX9_dot 73 = .ok (.iload_n 2, 1) := by decide +kernel
theorem dX9_dot_74 : decode cX9_dot 74 = .ok (.invokevirtual 141, 3) := by decide +kernel
theorem dX9_dot_77 : decode cX9_dot 77 = .ok (.ireturn, 1) := by decide +kernel
theorem dX9_dot_78 : decode cX9_dot 78 = .ok (.aload_n 0, 1) := by decide +kernel
theorem dX9_dot_79 : decode cX9_dot 79 = .ok (.getfield 19, 3) := by decide +kernel
theorem dX9_dot_82 : decode cX9_dot 82 = .ok (.aload_n 0, 1) := by decide +kernel
theorem dX9_dot_83 : decode cX9_dot 83 = .ok (.getfield 10, 3) := by decide +kernel
theorem dX9_dot_86 : decode cX9_dot 86 = .ok (.iload_n 1, 1) := by decide +kernel
theorem dX9_dot_87 : decode cX9_dot 87 = .ok (.invokevirtual 144, 3) := by decide +kernel
theorem dX9_dot_90 : decode cX9_dot 90 = .ok (.aload_n 0, 1) := by decide +kernel
theorem dX9_dot_91 : decode cX9_dot 91 = .ok (.getfield 10, 3) := by decide +kernel
theorem dX9_dot_94 : decode cX9_dot 94 = .ok (.iload_n 2, 1) := by decide +kernel
theorem dX9_dot_95 : decode cX9_dot 95 = .ok (.invokevirtual 136, 3) := by decide +kernel
theorem dX9_dot_98 : decode cX9_dot 98 = .ok (.ireturn, 1) := by decide +kernel
theorem dX9_dot_99 : decode cX9_dot 99 = .ok (.ldc 99, 2) := by decide +kernel
theorem dX9_dot_101 : decode cX9_dot 101 = .ok (.ireturn, 1) := by decide +kernel
set_option maxRecDepth 20000 in
theorem ggX9_line_X9_isWithin : GoodIn wsX9_line wsX9_isWithin := goodIn_r _ [8] (by decide +kernel) (by decide +kernel)
set_option maxRecDepth 20000 in
theorem gX9_line_X9_isWithin : GoodIn wsX9_line (va_wsS RX9 147 yX9_isWithin wsX9_isWithin) := goodIn_app (goodIn_of _ (by decide +kernel)) ggX9_line_X9_isWithin
set_option maxRecDepth 20000 in
theorem ggX9_line_X8_paintNow : GoodIn wsX9_line wsX8_paintNow := goodIn_r _ [13, 14, 15, 16, 17, 12, 18, 19, 20, 21, 22, 23, 24, 25, 26, 27, 28, 29, 30, 31, 32, 33, 34, 35, 36, 37, 38, 39, 40, 41, 42, 43, 44, 45, 46, 47, 48, 49, 50, 51, 52, 53, 6, 7, 8, 54, 55, 56, 57, 58, 59, 60, 61, 62, 63, 64, 65, 66, 67, 68, 69, 70, 71, 72, 73, 74, 75, 76, 77, 78, 79, 80, 81, 82, 83, 84, 103, 104, 105, 106, 107, 108, 109, 110] (by decide +kernel) (by decide +kernel)
set_option maxRecDepth 20000 in
theorem gX9_line_X8_paintNow : GoodIn wsX9_line (wsV RX9 132 RX8 yX8_paintNow wsX8_paintNow) := goodIn_app (goodIn_of _ (by decide +kernel)) ggX9_line_X8_paintNow
set_option maxRecDepth 20000 in
theorem ggX9_line_X6_colourAt : GoodIn wsX9_line wsX6_colourAt := goodIn_r _ [88, 89, 90, 91, 57, 92, 59, 67, 7, 68, 69, 38, 39, 23, 40, 25, 108, 109, 110, 106] (by decide +kernel) (by decide +kernel)
set_option maxRecDepth 20000 in
theorem gX9_line_X6_colourAt : GoodIn wsX9_line (wsV RX9 136 RX6 yX6_colourAt wsX6_colourAt) := goodIn_app (goodIn_of _ (by decide +kernel)) ggX9_line_X6_colourAt
theorem dX9_line_0 : decode cX9_line 0 = .ok (.iload_n 1, 1) := by decide +kernel
theorem dX9_line_1 : decode cX9_line 1 = .ok (.iconst 0, 1) := by decide +kernel
theorem dX9_line_2 : decode cX9_line 2 = .ok (.bipush 23, 2) := by decide +kernel
theorem dX9_line_4 : decode cX9_line 4 = .ok (.invokestatic 147, 3) := by decide +kernel
theorem dX9_line_7 : decode cX9_line 7 = .ok (.ifCond .eq 12, 3) := by decide +kernel
theorem dX9_line_10 : decode cX9_line 10 = .ok (.iload_n 2, 1) := by decide +kernel
theorem dX9_line_11 : decode cX9_line 11 = .ok (.iconst 0, 1) := by decide +kernel
theorem dX9_line_12 : decode cX9_line 12 = .ok (.iconst 3, 1) := by decide +kernel
theorem dX9_line_13 : decode cX9_line 13 = .ok (.invokestatic 147, 3) := by decide +kernel
theorem dX9_line_16 : decode cX9_line 16 = .ok (.ifCond .ne 7, 3) := by decide +kernel
theorem dX9_line_19 : decode cX9_line 19 = .ok (.ldc2_w 151, 3) := by decide +kernel
theorem dX9_line_22 : decode cX9_line 22 = .ok (.lreturn, 1) := by decide +kernel
theorem dX9_line_23 : decode cX9_line 23 = .ok (.aload_n 0, 1) := by decide +kernel
theorem dX9_line_24 : decode cX9_line 24 = .ok (.getfield 19, 3) := by decide +kernel
theorem dX9_line_27 : decode cX9_line 27 = .ok (.aload_n 0, 1) := by decide +kernel
theorem dX9_line_28 : decode cX9_line 28 = .ok (.getfield 10, 3) := by decide +kernel
theorem dX9_line_31 : decode cX9_line 31 = .ok (.iload_n 1, 1) := by decide +kernel
theorem dX9_line_32 : decode cX9_line 32 = .ok (.invokevirtual 132, 3) := by decide +kernel
theorem dX9_line_35 : decode cX9_line 35 = .ok (.astore_n 3, 1) := by decide +kernel
theorem dX9_line_36 : decode cX9_line 36 = .ok (.lconst 0, 1) := by decide +kernel
theorem dX9_line_37 : decode cX9_line 37 = .ok (.lstore 4, 2) := by decide +kernel
theorem dX9_line_39 : decode cX9_line 39 = .ok (.iconst 0, 1) := by decide +kernel
theorem dX9_line_40 : decode cX9_line 40 = .ok (.istore 6, 2) := by decide +kernel
theorem dX9_line_42 : decode cX9_line 42 = .ok (.iload 6, 2) := by decide +kernel
theorem dX9_line_44 : decode cX9_line 44 = .ok (.bipush 8, 2) := by decide +kernel
theorem dX9_line_46 : decode cX9_line 46 = .ok (.if_icmp .ge 34, 3) := by decide +kernel
theorem dX9_line_49 : decode cX9_line 49 = .ok (.lload 4, 2) := by decide +kernel
theorem dX9_line_51 : decode cX9_line 51 = .ok (.ldc2_w 153, 3) := by decide +kernel
theorem dX9_line_54 : decode cX9_line 54 = .ok (.lmul, 1) := by decide +kernel
theorem dX9_line_55 : decode cX9_line 55 = .ok (.aload_n 3, 1) := by decide +kernel
theorem dX9_line_56 : decode cX9_line 56 = .ok (.aload_n 0, 1) := by decide +kernel
theorem dX9_line_57 : decode cX9_line 57 = .ok (.getfield 10, 3) := by decide +kernel
theorem dX9_line_60 : decode cX9_line 60 = .ok (.iload_n 2, 1) := by decide +kernel
theorem dX9_line_61 : decode cX9_line 61 = .ok (.bipush 8, 2) := by decide +kernel
theorem dX9_line_63 : decode cX9_line 63 = .ok (.imul, 1) := by decide +kernel
theorem dX9_line_64 : decode cX9_line 64 = .ok (.iload 6, 2) := by decide +kernel
theorem dX9_line_66 : decode cX9_line 66 = .ok (.iadd, 1) := by decide +kernel
theorem dX9_line_67 : decode cX9_line 67 = .ok (.invokevirtual 136, 3) := by decide +kernel
theorem dX9_line_70 : decode cX9_line 70 = .ok (.i2l, 1) := by decide +kernel
theorem dX9_line_71 : decode cX9_line 71 = .ok (.ladd, 1) := by decide +kernel
theorem dX9_line_72 : decode cX9_line 72 = .ok (.lstore 4, 2) := by decide +kernel
theorem dX9_line_74 : decode cX9_line 74 = .ok (.iinc 6 1, 3) := by decide +kernel
theorem dX9_line_77 : decode cX9_line 77 = .ok (.goto (-35), 3) := by decide +kernel
theorem dX9_line_80 : decode cX9_line 80 = .ok (.lload 4, 2) := by decide +kernel
theorem dX9_line_82 : decode cX9_line 82 = .ok (.lreturn, 1) := by decide +kernel
set_option maxRecDepth 20000 in
theorem ggX9_drawn_X9_isWithin : GoodIn wsX9_drawn wsX9_isWithin := goodIn_r _ [7] (by decide +kernel) (by decide +kernel)
set_option maxRecDepth 20000 in
theorem gX9_drawn_X9_isWithin : GoodIn wsX9_drawn (va_wsS RX9 147 yX9_isWithin wsX9_isWithin) := goodIn_app (goodIn_of _ (by decide +kernel)) ggX9_drawn_X9_isWithin
set_option maxRecDepth 20000 in
theorem ggX9_drawn_X8_drawnSet : GoodIn wsX9_drawn wsX8_drawnSet := goodIn_r _ [12, 13, 14, 15, 16, 17, 18, 19, 20, 21, 22, 23, 24, 25, 26, 27, 28, 29, 30, 31, 32, 33, 34, 35, 36, 37, 38, 39, 40, 41, 42, 43, 44, 45, 46, 47, 5, 6, 7, 63, 64, 65, 66, 67] (by decide +kernel) (by decide +kernel)
set_option maxRecDepth 20000 in
theorem gX9_drawn_X8_drawnSet : GoodIn wsX9_drawn (wsV RX9 155 RX8 yX8_drawnSet wsX8_drawnSet) := goodIn_app (goodIn_of _ (by decide +kernel)) ggX9_drawn_X8_drawnSet
set_option maxRecDepth 20000 in
theorem ggX9_drawn_X7_setOn : GoodIn wsX9_drawn wsX7_setOn := goodIn_r _ [51, 19, 52, 44, 45, 17, 46, 47, 32, 33, 34, 5, 6, 7, 66] (by decide +kernel) (by decide +kernel)
set_option maxRecDepth 20000 in
theorem gX9_drawn_X7_setOn : GoodIn wsX9_drawn (wsV RX9 158 RX7 yX7_setOn wsX7_setOn) := goodIn_app (goodIn_of _ (by decide +kernel)) ggX9_drawn_X7_setOn
theorem dX9_drawn_0 : decode cX9_drawn 0 = .ok (.iload_n 1, 1) := by decide +kernel
theorem dX9_drawn_1 : decode cX9_drawn 1 = .ok (.iconst 0, 1) := by decide +kernel
theorem dX9_drawn_2 : decode cX9_drawn 2 = .ok (.bipush 23, 2) := by decide +kernel
theorem dX9_drawn_4 : decode cX9_drawn 4 = .ok (.invokestatic 147, 3) := by decide +kernel
theorem dX9_drawn_7 : decode cX9_drawn 7 = .ok (.ifCond .eq 12, 3) := by decide +kernel
theorem dX9_drawn_10 : decode cX9_drawn 10 = .ok (.iload_n 2, 1) := by decide +kernel
theorem dX9_drawn_11 : decode cX9_drawn 11 = .ok (.iconst 0, 1) := by decide +kernel
theorem dX9_drawn_12 : decode cX9_drawn 12 = .ok (.iconst 1, 1) := by decide +kernel
theorem dX9_drawn_13 : decode cX9_drawn 13 = .ok (.invokestatic 147, 3) := by decide +kernel
theorem dX9_drawn_16 : decode cX9_drawn 16 = .ok (.ifCond .ne 6, 3) := by decide +kernel
theorem dX9_drawn_19 : decode cX9_drawn 19 = .ok (.ldc 99, 2) := by decide +kernel
theorem dX9_drawn_21 : decode cX9_drawn 21 = .ok (.ireturn, 1) := by decide +kernel
theorem dX9_drawn_22 : decode cX9_drawn 22 = .ok (.aload_n 0, 1) := by decide +kernel
theorem dX9_drawn_23 : decode cX9_drawn 23 = .ok (.getfield 19, 3) := by decide +kernel
theorem dX9_drawn_26 : decode cX9_drawn 26 = .ok (.aload_n 0, 1) := by decide +kernel
theorem dX9_drawn_27 : decode cX9_drawn 27 = .ok (.getfield 10, 3) := by decide +kernel
theorem dX9_drawn_30 : decode cX9_drawn 30 = .ok (.iload_n 1, 1) := by decide +kernel
theorem dX9_drawn_31 : decode cX9_drawn 31 = .ok (.invokevirtual 155, 3) := by decide +kernel
theorem dX9_drawn_34 : decode cX9_drawn 34 = .ok (.istore_n 3, 1) := by decide +kernel
theorem dX9_drawn_35 : decode cX9_drawn 35 = .ok (.iload_n 2, 1) := by decide +kernel
theorem dX9_drawn_36 : decode cX9_drawn 36 = .ok (.ifCond .ne 7, 3) := by decide +kernel
theorem dX9_drawn_39 : decode cX9_drawn 39 = .ok (.iload_n 3, 1) := by decide +kernel
theorem dX9_drawn_40 : decode cX9_drawn 40 = .ok (.goto 15, 3) := by decide +kernel
theorem dX9_drawn_43 : decode cX9_drawn 43 = .ok (.aload_n 0, 1) := by decide +kernel
theorem dX9_drawn_44 : decode cX9_drawn 44 = .ok (.getfield 10, 3) := by decide +kernel
theorem dX9_drawn_47 : decode cX9_drawn 47 = .ok (.iload_n 1, 1) := by decide +kernel
theorem dX9_drawn_48 : decode cX9_drawn 48 = .ok (.invokevirtual 158, 3) := by decide +kernel
theorem dX9_drawn_51 : decode cX9_drawn 51 = .ok (.iload_n 3, 1) := by decide +kernel
theorem dX9_drawn_52 : decode cX9_drawn 52 = .ok (.iconst (-1), 1) := by decide +kernel
theorem dX9_drawn_53 : decode cX9_drawn 53 = .ok (.ixor, 1) := by decide +kernel
theorem dX9_drawn_54 : decode cX9_drawn 54 = .ok (.iand, 1) := by decide +kernel
theorem dX9_drawn_55 : decode cX9_drawn 55 = .ok (.ireturn, 1) := by decide +kernel
set_option maxRecDepth 20000 in
theorem ggX9_pictureRow_X9_isPicture : GoodIn wsX9_pictureRow wsX9_isPicture := goodIn_r _ [7, 8, 9, 6, 10] (by decide +kernel) (by decide +kernel)
set_option maxRecDepth 20000 in
theorem gX9_pictureRow_X9_isPicture : GoodIn wsX9_pictureRow (va_wsS RX9 161 yX9_isPicture wsX9_isPicture) := goodIn_app (goodIn_of _ (by decide +kernel)) ggX9_pictureRow_X9_isPicture
set_option maxRecDepth 20000 in
theorem ggX9_pictureRow_X9_isWithin : GoodIn wsX9_pictureRow wsX9_isWithin := goodIn_r _ [10] (by decide +kernel) (by decide +kernel)
set_option maxRecDepth 20000 in
theorem gX9_pictureRow_X9_isWithin : GoodIn wsX9_pictureRow (va_wsS RX9 147 yX9_isWithin wsX9_isWithin) := goodIn_app (goodIn_of _ (by decide +kernel)) ggX9_pictureRow_X9_isWithin
set_option maxRecDepth 20000 in
theorem ggX9_pictureRow_X7_bits : GoodIn wsX9_pictureRow wsX7_bits := goodIn_r _ [15, 16, 27] (by decide +kernel) (by decide +kernel)
set_option maxRecDepth 20000 in
theorem gX9_pictureRow_X7_bits : GoodIn wsX9_pictureRow (wsV RX9 164 RX7 yX7_bits wsX7_bits) := goodIn_app (goodIn_of _ (by decide +kernel)) ggX9_pictureRow_X7_bits
theorem dX9_pictureRow_0 : decode cX9_pictureRow 0 = .ok (.iload_n 1, 1) := by decide +kernel
theorem dX9_pictureRow_1 : decode cX9_pictureRow 1 = .ok (.invokestatic 161, 3) := by decide +kernel
theorem dX9_pictureRow_4 : decode cX9_pictureRow 4 = .ok (.ifCond .ne 6, 3) := by decide +kernel
theorem dX9_pictureRow_7 : decode cX9_pictureRow 7 = .ok (.ldc 104, 2) := by decide +kernel
theorem dX9_pictureRow_9 : decode cX9_pictureRow 9 = .ok (.ireturn, 1) := by decide +kernel
theorem dX9_pictureRow_10 : decode cX9_pictureRow 10 = .ok (.iload_n 2, 1) := by decide +kernel
theorem dX9_pictureRow_11 : decode cX9_pictureRow 11 = .ok (.iconst 0, 1) := by decide +kernel
theorem dX9_pictureRow_12 : decode cX9_pictureRow 12 = .ok (.bipush 7, 2) := by decide +kernel
theorem dX9_pictureRow_14 : decode cX9_pictureRow 14 = .ok (.invokestatic 147, 3) := by decide +kernel
theorem dX9_pictureRow_17 : decode cX9_pictureRow 17 = .ok (.ifCond .ne 6, 3) := by decide +kernel
theorem dX9_pictureRow_20 : decode cX9_pictureRow 20 = .ok (.ldc 99, 2) := by decide +kernel
theorem dX9_pictureRow_22 : decode cX9_pictureRow 22 = .ok (.ireturn, 1) := by decide +kernel
theorem dX9_pictureRow_23 : decode cX9_pictureRow 23 = .ok (.aload_n 0, 1) := by decide +kernel
theorem dX9_pictureRow_24 : decode cX9_pictureRow 24 = .ok (.getfield 10, 3) := by decide +kernel
theorem dX9_pictureRow_27 : decode cX9_pictureRow 27 = .ok (.iload_n 1, 1) := by decide +kernel
theorem dX9_pictureRow_28 : decode cX9_pictureRow 28 = .ok (.iload_n 2, 1) := by decide +kernel
theorem dX9_pictureRow_29 : decode cX9_pictureRow 29 = .ok (.invokevirtual 164, 3) := by decide +kernel
theorem dX9_pictureRow_32 : decode cX9_pictureRow 32 = .ok (.ireturn, 1) := by decide +kernel
set_option maxRecDepth 20000 in
theorem ggX9_row_X9_isPicture : GoodIn wsX9_row wsX9_isPicture := goodIn_r _ [8, 9, 10, 7, 11] (by decide +kernel) (by decide +kernel)
set_option maxRecDepth 20000 in
theorem gX9_row_X9_isPicture : GoodIn wsX9_row (va_wsS RX9 161 yX9_isPicture wsX9_isPicture) := goodIn_app (goodIn_of _ (by decide +kernel)) ggX9_row_X9_isPicture
set_option maxRecDepth 20000 in
theorem ggX9_row_X9_isWithin : GoodIn wsX9_row wsX9_isWithin := goodIn_r _ [11] (by decide +kernel) (by decide +kernel)
set_option maxRecDepth 20000 in
theorem gX9_row_X9_isWithin : GoodIn wsX9_row (va_wsS RX9 147 yX9_isWithin wsX9_isWithin) := goodIn_app (goodIn_of _ (by decide +kernel)) ggX9_row_X9_isWithin
set_option maxRecDepth 20000 in
theorem ggX9_row_X7_bits : GoodIn wsX9_row wsX7_bits := goodIn_r _ [16, 17, 52] (by decide +kernel) (by decide +kernel)
set_option maxRecDepth 20000 in
theorem gX9_row_X7_bits : GoodIn wsX9_row (wsV RX9 164 RX7 yX7_bits wsX7_bits) := goodIn_app (goodIn_of _ (by decide +kernel)) ggX9_row_X7_bits
set_option maxRecDepth 20000 in
theorem ggX9_row_X3_remember : GoodIn wsX9_row wsX3_remember := goodIn_r _ [22, 23, 24, 25, 26, 27, 28, 29, 30, 31, 32, 15, 33, 17, 34, 35, 36, 37, 53, 54, 55, 52] (by decide +kernel) (by decide +kernel)
set_option maxRecDepth 20000 in
theorem gX9_row_X3_remember : GoodIn wsX9_row (wsV RX9 167 RX3 yX3_remember wsX3_remember) := goodIn_app (goodIn_of _ (by decide +kernel)) ggX9_row_X3_remember
set_option maxRecDepth 20000 in
theorem ggX9_row_X7_setBits : GoodIn wsX9_row wsX7_setBits := goodIn_r _ [41, 17, 52] (by decide +kernel) (by decide +kernel)
set_option maxRecDepth 20000 in
theorem gX9_row_X7_setBits : GoodIn wsX9_row (wsV RX9 171 RX7 yX7_setBits wsX7_setBits) := goodIn_app (goodIn_of _ (by decide +kernel)) ggX9_row_X7_setBits
theorem dX9_row_0 : decode cX9_row 0 = .ok (.iload_n 1, 1) := by decide +kernel
theorem dX9_row_1 : decode cX9_row 1 = .ok (.invokestatic 161, 3) := by decide +kernel
theorem dX9_row_4 : decode cX9_row 4 = .ok (.ifCond .ne 6, 3) := by decide +kernel
theorem dX9_row_7 : decode cX9_row 7 = .ok (.ldc 104, 2) := by decide +kernel
theorem dX9_row_9 : decode cX9_row 9 = .ok (.ireturn, 1) := by decide +kernel
theorem dX9_row_10 : decode cX9_row 10 = .ok (.iload_n 2, 1) := by decide +kernel
theorem dX9_row_11 : decode cX9_row 11 = .ok (.iconst 0, 1) := by decide +kernel
theorem dX9_row_12 : decode cX9_row 12 = .ok (.bipush 7, 2) := by decide +kernel
theorem dX9_row_14 : decode cX9_row 14 = .ok (.invokestatic 147, 3) := by decide +kernel
theorem dX9_row_17 : decode cX9_row 17 = .ok (.ifCond .eq 14, 3) := by decide +kernel
theorem dX9_row_20 : decode cX9_row 20 = .ok (.iload_n 3, 1) := by decide +kernel
theorem dX9_row_21 : decode cX9_row 21 = .ok (.iconst 0, 1) := by decide +kernel
theorem dX9_row_22 : decode cX9_row 22 = .ok (.sipush 255, 3) := by decide +kernel
theorem dX9_row_25 : decode cX9_row 25 = .ok (.invokestatic 147, 3) := by decide +kernel
theorem dX9_row_28 : decode cX9_row 28 = .ok (.ifCond .ne 6, 3) := by decide +kernel
theorem dX9_row_31 : decode cX9_row 31 = .ok (.ldc 99, 2) := by decide +kernel
theorem dX9_row_33 : decode cX9_row 33 = .ok (.ireturn, 1) := by decide +kernel
theorem dX9_row_34 : decode cX9_row 34 = .ok (.aload_n 0, 1) := by decide +kernel
theorem dX9_row_35 : decode cX9_row 35 = .ok (.getfield 10, 3) := by decide +kernel
theorem dX9_row_38 : decode cX9_row 38 = .ok (.iload_n 1, 1) := by decide +kernel
theorem dX9_row_39 : decode cX9_row 39 = .ok (.iload_n 2, 1) := by decide +kernel
theorem dX9_row_40 : decode cX9_row 40 = .ok (.invokevirtual 164, 3) := by decide +kernel
theorem dX9_row_43 : decode cX9_row 43 = .ok (.istore 4, 2) := by decide +kernel
theorem dX9_row_45 : decode cX9_row 45 = .ok (.aload_n 0, 1) := by decide +kernel
theorem dX9_row_46 : decode cX9_row 46 = .ok (.getfield 40, 3) := by decide +kernel
theorem dX9_row_49 : decode cX9_row 49 = .ok (.aload_n 0, 1) := by decide +kernel
theorem dX9_row_50 : decode cX9_row 50 = .ok (.getfield 10, 3) := by decide +kernel
theorem dX9_row_53 : decode cX9_row 53 = .ok (.invokevirtual 167, 3) := by decide +kernel
theorem dX9_row_56 : decode cX9_row 56 = .ok (.aload_n 0, 1) := by decide +kernel
theorem dX9_row_57 : decode cX9_row 57 = .ok (.getfield 10, 3) := by decide +kernel
theorem dX9_row_60 : decode cX9_row 60 = .ok (.iload_n 1, 1) := by decide +kernel
theorem dX9_row_61 : decode cX9_row 61 = .ok (.iload_n 2, 1) := by decide +kernel
theorem dX9_row_62 : decode cX9_row 62 = .ok (.iload_n 3, 1) := by decide +kernel
theorem dX9_row_63 : decode cX9_row 63 = .ok (.invokevirtual 171, 3) := by decide +kernel
theorem dX9_row_66 : decode cX9_row 66 = .ok (.iload 4, 2) := by decide +kernel
theorem dX9_row_68 : decode cX9_row 68 = .ok (.ireturn, 1) := by decide +kernel
set_option maxRecDepth 20000 in
theorem ggX9_put_X9_isPicture : GoodIn wsX9_put wsX9_isPicture := goodIn_r _ [9, 10, 11, 8, 12] (by decide +kernel) (by decide +kernel)
set_option maxRecDepth 20000 in
theorem gX9_put_X9_isPicture : GoodIn wsX9_put (va_wsS RX9 161 yX9_isPicture wsX9_isPicture) := goodIn_app (goodIn_of _ (by decide +kernel)) ggX9_put_X9_isPicture
set_option maxRecDepth 20000 in
theorem ggX9_put_X9_isPlace : GoodIn wsX9_put wsX9_isPlace := goodIn_r _ [15, 10, 11, 8, 12] (by decide +kernel) (by decide +kernel)
set_option maxRecDepth 20000 in
theorem gX9_put_X9_isPlace : GoodIn wsX9_put (va_wsS RX9 175 yX9_isPlace wsX9_isPlace) := goodIn_app (goodIn_of _ (by decide +kernel)) ggX9_put_X9_isPlace
set_option maxRecDepth 20000 in
theorem ggX9_put_X9_isManner : GoodIn wsX9_put wsX9_isManner := goodIn_r _ [18, 10, 11, 8, 12] (by decide +kernel) (by decide +kernel)
set_option maxRecDepth 20000 in
theorem gX9_put_X9_isManner : GoodIn wsX9_put (va_wsS RX9 178 yX9_isManner wsX9_isManner) := goodIn_app (goodIn_of _ (by decide +kernel)) ggX9_put_X9_isManner
set_option maxRecDepth 20000 in
theorem ggX9_put_X9_isWithin : GoodIn wsX9_put wsX9_isWithin := goodIn_r _ [12] (by decide +kernel) (by decide +kernel)
set_option maxRecDepth 20000 in
theorem gX9_put_X9_isWithin : GoodIn wsX9_put (va_wsS RX9 147 yX9_isWithin wsX9_isWithin) := goodIn_app (goodIn_of _ (by decide +kernel)) ggX9_put_X9_isWithin
set_option maxRecDepth 20000 in
theorem ggX9_put_X7_isFull : GoodIn wsX9_put wsX7_isFull := goodIn_r _ [23, 24, 63] (by decide +kernel) (by decide +kernel)
set_option maxRecDepth 20000 in
theorem gX9_put_X7_isFull : GoodIn wsX9_put (wsV RX9 181 RX7 yX7_isFull wsX7_isFull) := goodIn_app (goodIn_of _ (by decide +kernel)) ggX9_put_X7_isFull
set_option maxRecDepth 20000 in
theorem ggX9_put_X3_remember : GoodIn wsX9_put wsX3_remember := goodIn_r _ [29, 30, 31, 32, 33, 34, 35, 36, 37, 38, 39, 22, 40, 24, 41, 42, 43, 44, 64, 65, 66, 63] (by decide +kernel) (by decide +kernel)
set_option maxRecDepth 20000 in
theorem gX9_put_X3_remember : GoodIn wsX9_put (wsV RX9 167 RX3 yX3_remember wsX3_remember) := goodIn_app (goodIn_of _ (by decide +kernel)) ggX9_put_X3_remember
set_option maxRecDepth 20000 in
theorem ggX9_put_X7_add : GoodIn wsX9_put wsX7_add := goodIn_r _ [48, 24, 49, 50, 51, 22, 52, 63] (by decide +kernel) (by decide +kernel)
set_option maxRecDepth 20000 in
theorem gX9_put_X7_add : GoodIn wsX9_put (wsV RX9 186 RX7 yX7_add wsX7_add) := goodIn_app (goodIn_of _ (by decide +kernel)) ggX9_put_X7_add
theorem dX9_put_0 : decode cX9_put 0 = .ok (.iload_n 3, 1) := by decide +kernel
theorem dX9_put_1 : decode cX9_put 1 = .ok (.invokestatic 161, 3) := by decide +kernel
theorem dX9_put_4 : decode cX9_put 4 = .ok (.ifCond .ne 6, 3) := by decide +kernel
theorem dX9_put_7 : decode cX9_put 7 = .ok (.ldc 104, 2) := by decide +kernel
theorem dX9_put_9 : decode cX9_put 9 = .ok (.ireturn, 1) := by decide +kernel
theorem dX9_put_10 : decode cX9_put 10 = .ok (.iload_n 1, 1) := by decide +kernel
theorem dX9_put_11 : decode cX9_put 11 = .ok (.iload_n 2, 1) := by decide +kernel
theorem dX9_put_12 : decode cX9_put 12 = .ok (.invokestatic 175, 3) := by decide +kernel
theorem dX9_put_15 : decode cX9_put 15 = .ok (.ifCond .eq 24, 3) := by decide +kernel
theorem dX9_put_18 : decode cX9_put 18 = .ok (.iload 4, 2) := by decide +kernel
theorem dX9_put_20 : decode cX9_put 20 = .ok (.iload 5, 2) := by decide +kernel
theorem dX9_put_22 : decode cX9_put 22 = .ok (.invokestatic 178, 3) := by decide +kernel
theorem dX9_put_25 : decode cX9_put 25 = .ok (.ifCond .eq 14, 3) := by decide +kernel
theorem dX9_put_28 : decode cX9_put 28 = .ok (.iload 6, 2) := by decide +kernel
theorem dX9_put_30 : decode cX9_put 30 = .ok (.iconst 1, 1) := by decide +kernel
theorem dX9_put_31 : decode cX9_put 31 = .ok (.bipush 7, 2) := by decide +kernel
theorem dX9_put_33 : decode cX9_put 33 = .ok (.invokestatic 147, 3) := by decide +kernel
theorem dX9_put_36 : decode cX9_put 36 = .ok (.ifCond .ne 6, 3) := by decide +kernel
theorem dX9_put_39 : decode cX9_put 39 = .ok (.ldc 99, 2) := by decide +kernel
theorem dX9_put_41 : decode cX9_put 41 = .ok (.ireturn, 1) := by decide +kernel
theorem dX9_put_42 : decode cX9_put 42 = .ok (.aload_n 0, 1) := by decide +kernel
theorem dX9_put_43 : decode cX9_put 43 = .ok (.getfield 10, 3) := by decide +kernel
theorem dX9_put_46 : decode cX9_put 46 = .ok (.invokevirtual 181, 3) := by decide +kernel
theorem dX9_put_49 : decode cX9_put 49 = .ok (.ifCond .eq 6, 3) := by decide +kernel
theorem dX9_put_52 : decode cX9_put 52 = .ok (.ldc 185, 2) := by decide +kernel
theorem dX9_put_54 : decode cX9_put 54 = .ok (.ireturn, 1) := by decide +kernel
theorem dX9_put_55 : decode cX9_put 55 = .ok (.aload_n 0, 1) := by decide +kernel
theorem dX9_put_56 : decode cX9_put 56 = .ok (.getfield 40, 3) := by decide +kernel
theorem dX9_put_59 : decode cX9_put 59 = .ok (.aload_n 0, 1) := by decide +kernel
theorem dX9_put_60 : decode cX9_put 60 = .ok (.getfield 10, 3) := by decide +kernel
theorem dX9_put_63 : decode cX9_put 63 = .ok (.invokevirtual 167, 3) := by decide +kernel
theorem dX9_put_66 : decode cX9_put 66 = .ok (.aload_n 0, 1) := by decide +kernel
theorem dX9_put_67 : decode cX9_put 67 = .ok (.getfield 10, 3) := by decide +kernel
theorem dX9_put_70 : decode cX9_put 70 = .ok (.iload_n 1, 1) := by decide +kernel
theorem dX9_put_71 : decode cX9_put 71 = .ok (.iload_n 2, 1) := by decide +kernel
theorem dX9_put_72 : decode cX9_put 72 = .ok (.iload_n 3, 1) := by decide +kernel
theorem dX9_put_73 : decode cX9_put 73 = .ok (.iload 4, 2) := by decide +kernel
theorem dX9_put_75 : decode cX9_put 75 = .ok (.iload 5, 2) := by decide +kernel
theorem dX9_put_77 : decode cX9_put 77 = .ok (.iload 6, 2) := by decide +kernel
theorem dX9_put_79 : decode cX9_put 79 = .ok (.invokevirtual 186, 3) := by decide +kernel
theorem dX9_put_82 : decode cX9_put 82 = .ok (.ireturn, 1) := by decide +kernel
set_option maxRecDepth 20000 in
theorem ggX9_move_X9_isThing : GoodIn wsX9_move wsX9_isThing := goodIn_r _ [9, 4, 10, 11, 12, 13, 14, 15, 16, 17, 8, 18, 58, 59, 60, 61, 62, 63, 64, 65, 66, 67, 68] (by decide +kernel) (by decide +kernel)
set_option maxRecDepth 20000 in
theorem gX9_move_X9_isThing : GoodIn wsX9_move (wsV RX9 100 RX9 yX9_isThing wsX9_isThing) := goodIn_app (goodIn_of _ (by decide +kernel)) ggX9_move_X9_isThing
set_option maxRecDepth 20000 in
theorem ggX9_move_X9_isPlace : GoodIn wsX9_move wsX9_isPlace := goodIn_r _ [21, 16, 17, 8, 18] (by decide +kernel) (by decide +kernel)
set_option maxRecDepth 20000 in
theorem gX9_move_X9_isPlace : GoodIn wsX9_move (va_wsS RX9 175 yX9_isPlace wsX9_isPlace) := goodIn_app (goodIn_of _ (by decide +kernel)) ggX9_move_X9_isPlace
set_option maxRecDepth 20000 in
theorem ggX9_move_X3_remember : GoodIn wsX9_move wsX3_remember := goodIn_r _ [26, 27, 28, 29, 30, 31, 32, 33, 34, 35, 36, 13, 37, 15, 38, 39, 40, 41, 69, 70, 71, 68] (by decide +kernel) (by decide +kernel)
set_option maxRecDepth 20000 in
theorem gX9_move_X3_remember : GoodIn wsX9_move (wsV RX9 167 RX3 yX3_remember wsX3_remember) := goodIn_app (goodIn_of _ (by decide +kernel)) ggX9_move_X3_remember
set_option maxRecDepth 20000 in
theorem ggX9_move_X7_setField : GoodIn wsX9_move wsX7_setField := goodIn_r _ [45, 15, 68] (by decide +kernel) (by decide +kernel)
set_option maxRecDepth 20000 in
theorem gX9_move_X7_setField : GoodIn wsX9_move (wsV RX9 190 RX7 yX7_setField wsX7_setField) := goodIn_app (goodIn_of _ (by decide +kernel)) ggX9_move_X7_setField
set_option maxRecDepth 20000 in
theorem ggX9_move_X7_linesOf : GoodIn wsX9_move wsX7_linesOf := goodIn_r _ [49, 50, 51, 32, 52, 53, 31, 33, 54, 55, 56, 13, 57, 15, 68] (by decide +kernel) (by decide +kernel)
set_option maxRecDepth 20000 in
theorem gX9_move_X7_linesOf : GoodIn wsX9_move (wsV RX9 193 RX7 yX7_linesOf wsX7_linesOf) := goodIn_app (goodIn_of _ (by decide +kernel)) ggX9_move_X7_linesOf
theorem dX9_move_0 : decode cX9_move 0 = .ok (.aload_n 0, 1) := by decide +kernel
theorem dX9_move_1 : decode cX9_move 1 = .ok (.iload_n 1, 1) := by decide +kernel
theorem dX9_move_2 : decode cX9_move 2 = .ok (.invokevirtual 100, 3) := by decide +kernel
theorem dX9_move_5 : decode cX9_move 5 = .ok (.ifCond .ne 6, 3) := by decide +kernel
theorem dX9_move_8 : decode cX9_move 8 = .ok (.ldc 104, 2) := by decide +kernel
theorem dX9_move_10 : decode cX9_move 10 = .ok (.ireturn, 1) := by decide +kernel
theorem dX9_move_11 : decode cX9_move 11 = .ok (.iload_n 2, 1) := by decide +kernel
theorem dX9_move_12 : decode cX9_move 12 = .ok (.iload_n 3, 1) := by decide +kernel
theorem dX9_move_13 : decode cX9_move 13 = .ok (.invokestatic 175, 3) := by decide +kernel
theorem dX9_move_16 : decode cX9_move 16 = .ok (.ifCond .ne 6, 3) := by decide +kernel
theorem dX9_move_19 : decode cX9_move 19 = .ok (.ldc 99, 2) := by decide +kernel
theorem dX9_move_21 : decode cX9_move 21 = .ok (.ireturn, 1) := by decide +kernel
theorem dX9_move_22 : decode cX9_move 22 = .ok (.aload_n 0, 1) := by decide +kernel
theorem dX9_move_23 : decode cX9_move 23 = .ok (.getfield 40, 3) := by decide +kernel
theorem dX9_move_26 : decode cX9_move 26 = .ok (.aload_n 0, 1) := by decide +kernel
theorem dX9_move_27 : decode cX9_move 27 = .ok (.getfield 10, 3) := by decide +kernel
theorem dX9_move_30 : decode cX9_move 30 = .ok (.invokevirtual 167, 3) := by decide +kernel
theorem dX9_move_33 : decode cX9_move 33 = .ok (.aload_n 0, 1) := by decide +kernel
theorem dX9_move_34 : decode cX9_move 34 = .ok (.getfield 10, 3) := by decide +kernel
theorem dX9_move_37 : decode cX9_move 37 = .ok (.iload_n 1, 1) := by decide +kernel
theorem dX9_move_38 : decode cX9_move 38 = .ok (.iconst 0, 1) := by decide +kernel
theorem dX9_move_39 : decode cX9_move 39 = .ok (.iload_n 2, 1) := by decide +kernel
theorem dX9_move_40 : decode cX9_move 40 = .ok (.invokevirtual 190, 3) := by decide +kernel
theorem dX9_move_43 : decode cX9_move 43 = .ok (.aload_n 0, 1) := by decide +kernel
theorem dX9_move_44 : decode cX9_move 44 = .ok (.getfield 10, 3) := by decide +kernel
theorem dX9_move_47 : decode cX9_move 47 = .ok (.iload_n 1, 1) := by decide +kernel
theorem dX9_move_48 : decode cX9_move 48 = .ok (.iconst 1, 1) := by decide +kernel
theorem dX9_move_49 : decode cX9_move 49 = .ok (.iload_n 3, 1) := by decide +kernel
theorem dX9_move_50 : decode cX9_move 50 = .ok (.invokevirtual 190, 3) := by decide +kernel
theorem dX9_move_53 : decode cX9_move 53 = .ok (.aload_n 0, 1) := by decide +kernel
theorem dX9_move_54 : decode cX9_move 54 = .ok (.getfield 10, 3) := by decide +kernel
theorem dX9_move_57 : decode cX9_move 57 = .ok (.iload_n 1, 1) := by decide +kernel
theorem dX9_move_58 : decode cX9_move 58 = .ok (.invokevirtual 193, 3) := by decide +kernel
theorem dX9_move_61 : decode cX9_move 61 = .ok (.ireturn, 1) := by decide +kernel
set_option maxRecDepth 20000 in
theorem ggX9_turn_X9_isThing : GoodIn wsX9_turn wsX9_isThing := goodIn_r _ [10, 4, 11, 12, 13, 14, 15, 16, 17, 18, 9, 19, 133, 134, 135, 136, 137, 138, 139, 140, 141, 142, 143] (by decide +kernel) (by decide +kernel)
set_option maxRecDepth 20000 in
theorem gX9_turn_X9_isThing : GoodIn wsX9_turn (wsV RX9 100 RX9 yX9_isThing wsX9_isThing) := goodIn_app (goodIn_of _ (by decide +kernel)) ggX9_turn_X9_isThing
set_option maxRecDepth 20000 in
theorem ggX9_turn_X9_isManner : GoodIn wsX9_turn wsX9_isManner := goodIn_r _ [22, 17, 18, 9, 19] (by decide +kernel) (by decide +kernel)
set_option maxRecDepth 20000 in
theorem gX9_turn_X9_isManner : GoodIn wsX9_turn (va_wsS RX9 178 yX9_isManner wsX9_isManner) := goodIn_app (goodIn_of _ (by decide +kernel)) ggX9_turn_X9_isManner
set_option maxRecDepth 20000 in
theorem ggX9_turn_X3_remember : GoodIn wsX9_turn wsX3_remember := goodIn_r _ [27, 28, 29, 30, 31, 32, 33, 34, 35, 36, 37, 14, 38, 16, 39, 40, 41, 42, 144, 145, 146, 143] (by decide +kernel) (by decide +kernel)
set_option maxRecDepth 20000 in
theorem gX9_turn_X3_remember : GoodIn wsX9_turn (wsV RX9 167 RX3 yX3_remember wsX3_remember) := goodIn_app (goodIn_of _ (by decide +kernel)) ggX9_turn_X3_remember
set_option maxRecDepth 20000 in
theorem ggX9_turn_X7_setField : GoodIn wsX9_turn wsX7_setField := goodIn_r _ [46, 16, 143] (by decide +kernel) (by decide +kernel)
set_option maxRecDepth 20000 in
theorem gX9_turn_X7_setField : GoodIn wsX9_turn (wsV RX9 190 RX7 yX7_setField wsX7_setField) := goodIn_app (goodIn_of _ (by decide +kernel)) ggX9_turn_X7_setField
set_option maxRecDepth 20000 in
theorem ggX9_turn_X8_seenDots : GoodIn wsX9_turn wsX8_seenDots := goodIn_r _ [51, 52, 53, 54, 50, 55, 56, 57, 58, 59, 60, 61, 62, 12, 13, 14, 15, 16, 63, 64, 65, 66, 67, 68, 69, 70, 71, 72, 73, 74, 75, 76, 77, 78, 79, 80, 81, 82, 83, 84, 85, 86, 87, 88, 89, 90, 18, 9, 19, 91, 92, 93, 94, 95, 96, 97, 98, 99, 100, 101, 102, 103, 104, 105, 106, 107, 108, 109, 110, 111, 112, 113, 114, 115, 116, 117, 118, 119, 120, 121, 122, 123, 124, 125, 126, 127, 128, 129, 130, 131, 132, 147, 148, 149, 143, 150, 151, 152, 153] (by decide +kernel) (by decide +kernel)
set_option maxRecDepth 20000 in
theorem gX9_turn_X8_seenDots : GoodIn wsX9_turn (wsV RX9 109 RX8 yX8_seenDots wsX8_seenDots) := goodIn_app (goodIn_of _ (by decide +kernel)) ggX9_turn_X8_seenDots
theorem dX9_turn_0 : decode cX9_turn 0 = .ok (.aload_n 0, 1) := by decide +kernel
theorem dX9_turn_1 : decode cX9_turn 1 = .ok (.iload_n 1, 1) := by decide +kernel
theorem dX9_turn_2 : decode cX9_turn 2 = .ok (.invokevirtual 100, 3) := by decide +kernel
theorem dX9_turn_5 : decode cX9_turn 5 = .ok (.ifCond .ne 6, 3) := by decide +kernel
theorem dX9_turn_8 : decode cX9_turn 8 = .ok (.ldc 104, 2) := by decide +kernel
theorem dX9_turn_10 : decode cX9_turn 10 = .ok (.ireturn, 1) := by decide +kernel
theorem dX9_turn_11 : decode cX9_turn 11 = .ok (.iload_n 2, 1) := by decide +kernel
theorem dX9_turn_12 : decode cX9_turn 12 = .ok (.iload_n 3, 1) := by decide +kernel
theorem dX9_turn_13 : decode cX9_turn 13 = .ok (.invokestatic 178, 3) := by decide +kernel
theorem dX9_turn_16 : decode cX9_turn 16 = .ok (.ifCond .ne 6, 3) := by decide +kernel
theorem dX9_turn_19 : decode cX9_turn 19 = .ok (.ldc 99, 2) := by decide +kernel
theorem dX9_turn_21 : decode cX9_turn 21 = .ok (.ireturn, 1) := by decide +kernel
theorem dX9_turn_22 : decode cX9_turn 22 = .ok (.aload_n 0, 1) := by decide +kernel
theorem dX9_turn_23 : decode cX9_turn 23 = .ok (.getfield 40, 3) := by decide +kernel
theorem dX9_turn_26 : decode cX9_turn 26 = .ok (.aload_n 0, 1) := by decide +kernel
theorem dX9_turn_27 : decode cX9_turn 27 = .ok (.getfield 10, 3) := by decide +kernel
theorem dX9_turn_30 : decode cX9_turn 30 = .ok (.invokevirtual 167, 3) := by decide +kernel
theorem dX9_turn_33 : decode cX9_turn 33 = .ok (.aload_n 0, 1) := by decide +kernel
theorem dX9_turn_34 : decode cX9_turn 34 = .ok (.getfield 10, 3) := by decide +kernel
theorem dX9_turn_37 : decode cX9_turn 37 = .ok (.iload_n 1, 1) := by decide +kernel
theorem dX9_turn_38 : decode cX9_turn 38 = .ok (.iconst 3, 1) := by decide +kernel
theorem dX9_turn_39 : decode cX9_turn 39 = .ok (.iload_n 2, 1) := by decide +kernel
theorem dX9_turn_40 : decode cX9_turn 40 = .ok (.invokevirtual 190, 3) := by decide +kernel
theorem dX9_turn_43 : decode cX9_turn 43 = .ok (.aload_n 0, 1) := by decide +kernel
theorem dX9_turn_44 : decode cX9_turn 44 = .ok (.getfield 10, 3) := by decide +kernel
theorem dX9_turn_47 : decode cX9_turn 47 = .ok (.iload_n 1, 1) := by decide +kernel
theorem dX9_turn_48 : decode cX9_turn 48 = .ok (.iconst 4, 1) := by decide +kernel
theorem dX9_turn_49 : decode cX9_turn 49 = .ok (.iload_n 3, 1) := by decide +kernel
theorem dX9_turn_50 : decode cX9_turn 50 = .ok (.invokevirtual 190, 3) := by decide +kernel
theorem dX9_turn_53 : decode cX9_turn 53 = .ok (.aload_n 0, 1) := by decide +kernel
theorem dX9_turn_54 : decode cX9_turn 54 = .ok (.getfield 19, 3) := by decide +kernel
theorem dX9_turn_57 : decode cX9_turn 57 = .ok (.aload_n 0, 1) := by decide +kernel
theorem dX9_turn_58 : decode cX9_turn 58 = .ok (.getfield 10, 3) := by decide +kernel
theorem dX9_turn_61 : decode cX9_turn 61 = .ok (.iload_n 1, 1) := by decide +kernel
theorem dX9_turn_62 : decode cX9_turn 62 = .ok (.invokevirtual 109, 3) := by decide +kernel
theorem dX9_turn_65 : decode cX9_turn 65 = .ok (.ireturn, 1) := by decide +kernel
set_option maxRecDepth 20000 in
theorem ggX9_speed_X9_isThing : GoodIn wsX9_speed wsX9_isThing := goodIn_r _ [9, 4, 10, 11, 12, 13, 14, 15, 16, 17, 8, 18, 43, 44, 45, 46, 47, 48, 49, 50, 51, 52, 53] (by decide +kernel) (by decide +kernel)
set_option maxRecDepth 20000 in
theorem gX9_speed_X9_isThing : GoodIn wsX9_speed (wsV RX9 100 RX9 yX9_isThing wsX9_isThing) := goodIn_app (goodIn_of _ (by decide +kernel)) ggX9_speed_X9_isThing
set_option maxRecDepth 20000 in
theorem ggX9_speed_X9_isWithin : GoodIn wsX9_speed wsX9_isWithin := goodIn_r _ [18] (by decide +kernel) (by decide +kernel)
set_option maxRecDepth 20000 in
theorem gX9_speed_X9_isWithin : GoodIn wsX9_speed (va_wsS RX9 147 yX9_isWithin wsX9_isWithin) := goodIn_app (goodIn_of _ (by decide +kernel)) ggX9_speed_X9_isWithin
set_option maxRecDepth 20000 in
theorem ggX9_speed_X3_remember : GoodIn wsX9_speed wsX3_remember := goodIn_r _ [23, 24, 25, 26, 27, 28, 29, 30, 31, 32, 33, 13, 34, 15, 35, 36, 37, 38, 54, 55, 56, 53] (by decide +kernel) (by decide +kernel)
set_option maxRecDepth 20000 in
theorem gX9_speed_X3_remember : GoodIn wsX9_speed (wsV RX9 167 RX3 yX3_remember wsX3_remember) := goodIn_app (goodIn_of _ (by decide +kernel)) ggX9_speed_X3_remember
set_option maxRecDepth 20000 in
theorem ggX9_speed_X7_setField : GoodIn wsX9_speed wsX7_setField := goodIn_r _ [42, 15, 53] (by decide +kernel) (by decide +kernel)
set_option maxRecDepth 20000 in
theorem gX9_speed_X7_setField : GoodIn wsX9_speed (wsV RX9 190 RX7 yX7_setField wsX7_setField) := goodIn_app (goodIn_of _ (by decide +kernel)) ggX9_speed_X7_setField
theorem dX9_speed_0 : decode cX9_speed 0 = .ok (.aload_n 0, 1) := by decide +kernel
theorem dX9_speed_1 : decode cX9_speed 1 = .ok (.iload_n 1, 1) := by decide +kernel
theorem dX9_speed_2 : decode cX9_speed 2 = .ok (.invokevirtual 100, 3) := by decide +kernel
theorem dX9_speed_5 : decode cX9_speed 5 = .ok (.ifCond .ne 6, 3) := by decide +kernel
theorem dX9_speed_8 : decode cX9_speed 8 = .ok (.ldc 104, 2) := by decide +kernel
theorem dX9_speed_10 : decode cX9_speed 10 = .ok (.ireturn, 1) := by decide +kernel
theorem dX9_speed_11 : decode cX9_speed 11 = .ok (.iload_n 2, 1) := by decide +kernel
theorem dX9_speed_12 : decode cX9_speed 12 = .ok (.bipush (-8), 2) := by decide +kernel
theorem dX9_speed_14 : decode cX9_speed 14 = .ok (.bipush 8, 2) := by decide +kernel
theorem dX9_speed_16 : decode cX9_speed 16 = .ok (.invokestatic 147, 3) := by decide +kernel
theorem dX9_speed_19 : decode cX9_speed 19 = .ok (.ifCond .eq 14, 3) := by decide +kernel
theorem dX9_speed_22 : decode cX9_speed 22 = .ok (.iload_n 3, 1) := by decide +kernel
theorem dX9_speed_23 : decode cX9_speed 23 = .ok (.bipush (-8), 2) := by decide +kernel
theorem dX9_speed_25 : decode cX9_speed 25 = .ok (.bipush 8, 2) := by decide +kernel
theorem dX9_speed_27 : decode cX9_speed 27 = .ok (.invokestatic 147, 3) := by decide +kernel
theorem dX9_speed_30 : decode cX9_speed 30 = .ok (.ifCond .ne 6, 3) := by decide +kernel
theorem dX9_speed_33 : decode cX9_speed 33 = .ok (.ldc 99, 2) := by decide +kernel
theorem dX9_speed_35 : decode cX9_speed 35 = .ok (.ireturn, 1) := by decide +kernel
theorem dX9_speed_36 : decode cX9_speed 36 = .ok (.aload_n 0, 1) := by decide +kernel
theorem dX9_speed_37 : decode cX9_speed 37 = .ok (.getfield 40, 3) := by decide +kernel
theorem dX9_speed_40 : decode cX9_speed 40 = .ok (.aload_n 0, 1) := by decide +kernel
theorem dX9_speed_41 : decode cX9_speed 41 = .ok (.getfield 10, 3) := by decide +kernel
theorem dX9_speed_44 : decode cX9_speed 44 = .ok (.invokevirtual 167, 3) := by decide +kernel
theorem dX9_speed_47 : decode cX9_speed 47 = .ok (.aload_n 0, 1) := by decide +kernel
theorem dX9_speed_48 : decode cX9_speed 48 = .ok (.getfield 10, 3) := by decide +kernel
theorem dX9_speed_51 : decode cX9_speed 51 = .ok (.iload_n 1, 1) := by decide +kernel
theorem dX9_speed_52 : decode cX9_speed 52 = .ok (.bipush 6, 2) := by decide +kernel
theorem dX9_speed_54 : decode cX9_speed 54 = .ok (.iload_n 2, 1) := by decide +kernel
theorem dX9_speed_55 : decode cX9_speed 55 = .ok (.invokevirtual 190, 3) := by decide +kernel
theorem dX9_speed_58 : decode cX9_speed 58 = .ok (.aload_n 0, 1) := by decide +kernel
theorem dX9_speed_59 : decode cX9_speed 59 = .ok (.getfield 10, 3) := by decide +kernel
theorem dX9_speed_62 : decode cX9_speed 62 = .ok (.iload_n 1, 1) := by decide +kernel
theorem dX9_speed_63 : decode cX9_speed 63 = .ok (.bipush 7, 2) := by decide +kernel
theorem dX9_speed_65 : decode cX9_speed 65 = .ok (.iload_n 3, 1) := by decide +kernel
theorem dX9_speed_66 : decode cX9_speed 66 = .ok (.invokevirtual 190, 3) := by decide +kernel
theorem dX9_speed_69 : decode cX9_speed 69 = .ok (.iconst 1, 1) := by decide +kernel
theorem dX9_speed_70 : decode cX9_speed 70 = .ok (.ireturn, 1) := by decide +kernel
set_option maxRecDepth 20000 in
theorem ggX9_take_X9_isThing : GoodIn wsX9_take wsX9_isThing := goodIn_r _ [8, 3, 9, 10, 11, 12, 13, 14, 15, 16, 7, 17, 42, 43, 44, 45, 46, 47, 48, 49, 50, 51, 52] (by decide +kernel) (by decide +kernel)
set_option maxRecDepth 20000 in
theorem gX9_take_X9_isThing : GoodIn wsX9_take (wsV RX9 100 RX9 yX9_isThing wsX9_isThing) := goodIn_app (goodIn_of _ (by decide +kernel)) ggX9_take_X9_isThing
set_option maxRecDepth 20000 in
theorem ggX9_take_X3_remember : GoodIn wsX9_take wsX3_remember := goodIn_r _ [22, 23, 24, 25, 26, 27, 28, 29, 30, 31, 32, 12, 33, 14, 34, 35, 36, 37, 53, 54, 55, 52] (by decide +kernel) (by decide +kernel)
set_option maxRecDepth 20000 in
theorem gX9_take_X3_remember : GoodIn wsX9_take (wsV RX9 167 RX3 yX3_remember wsX3_remember) := goodIn_app (goodIn_of _ (by decide +kernel)) ggX9_take_X3_remember
set_option maxRecDepth 20000 in
theorem ggX9_take_X7_removeThing : GoodIn wsX9_take wsX7_removeThing := goodIn_r _ [41, 14, 34, 35, 36, 37, 52] (by decide +kernel) (by decide +kernel)
set_option maxRecDepth 20000 in
theorem gX9_take_X7_removeThing : GoodIn wsX9_take (wsV RX9 196 RX7 yX7_removeThing wsX7_removeThing) := goodIn_app (goodIn_of _ (by decide +kernel)) ggX9_take_X7_removeThing
set_option maxRecDepth 20000 in
theorem ggX9_take_X7_cell : GoodIn wsX9_take wsX7_cell := goodIn_r _ [13, 14, 52] (by decide +kernel) (by decide +kernel)
set_option maxRecDepth 20000 in
theorem gX9_take_X7_cell : GoodIn wsX9_take (wsV RX9 71 RX7 yX7_cell wsX7_cell) := goodIn_app (goodIn_of _ (by decide +kernel)) ggX9_take_X7_cell
theorem dX9_take_0 : decode cX9_take 0 = .ok (.aload_n 0, 1) := by decide +kernel
theorem dX9_take_1 : decode cX9_take 1 = .ok (.iload_n 1, 1) := by decide +kernel
theorem dX9_take_2 : decode cX9_take 2 = .ok (.invokevirtual 100, 3) := by decide +kernel
theorem dX9_take_5 : decode cX9_take 5 = .ok (.ifCond .ne 6, 3) := by decide +kernel
theorem dX9_take_8 : decode cX9_take 8 = .ok (.ldc 104, 2) := by decide +kernel
theorem dX9_take_10 : decode cX9_take 10 = .ok (.ireturn, 1) := by decide +kernel
theorem dX9_take_11 : decode cX9_take 11 = .ok (.aload_n 0, 1) := by decide +kernel
theorem dX9_take_12 : decode cX9_take 12 = .ok (.getfield 40, 3) := by decide +kernel
theorem dX9_take_15 : decode cX9_take 15 = .ok (.aload_n 0, 1) := by decide +kernel
theorem dX9_take_16 : decode cX9_take 16 = .ok (.getfield 10, 3) := by decide +kernel
theorem dX9_take_19 : decode cX9_take 19 = .ok (.invokevirtual 167, 3) := by decide +kernel
theorem dX9_take_22 : decode cX9_take 22 = .ok (.aload_n 0, 1) := by decide +kernel
theorem dX9_take_23 : decode cX9_take 23 = .ok (.getfield 10, 3) := by decide +kernel
theorem dX9_take_26 : decode cX9_take 26 = .ok (.iload_n 1, 1) := by decide +kernel
theorem dX9_take_27 : decode cX9_take 27 = .ok (.invokevirtual 196, 3) := by decide +kernel
theorem dX9_take_30 : decode cX9_take 30 = .ok (.aload_n 0, 1) := by decide +kernel
theorem dX9_take_31 : decode cX9_take 31 = .ok (.getfield 10, 3) := by decide +kernel
theorem dX9_take_34 : decode cX9_take 34 = .ok (.iconst 0, 1) := by decide +kernel
theorem dX9_take_35 : decode cX9_take 35 = .ok (.invokevirtual 71, 3) := by decide +kernel
theorem dX9_take_38 : decode cX9_take 38 = .ok (.ireturn, 1) := by decide +kernel
set_option maxRecDepth 20000 in
theorem ggX9_limit_X9_isWithin : GoodIn wsX9_limit wsX9_isWithin := goodIn_r _ [7] (by decide +kernel) (by decide +kernel)
set_option maxRecDepth 20000 in
theorem gX9_limit_X9_isWithin : GoodIn wsX9_limit (va_wsS RX9 147 yX9_isWithin wsX9_isWithin) := goodIn_app (goodIn_of _ (by decide +kernel)) ggX9_limit_X9_isWithin
set_option maxRecDepth 20000 in
theorem ggX9_limit_X3_remember : GoodIn wsX9_limit wsX3_remember := goodIn_r _ [12, 13, 14, 15, 16, 17, 18, 19, 20, 21, 22, 23, 24, 25, 26, 27, 28, 29, 136, 137, 138, 139] (by decide +kernel) (by decide +kernel)
set_option maxRecDepth 20000 in
theorem gX9_limit_X3_remember : GoodIn wsX9_limit (wsV RX9 167 RX3 yX3_remember wsX3_remember) := goodIn_app (goodIn_of _ (by decide +kernel)) ggX9_limit_X3_remember
set_option maxRecDepth 20000 in
theorem ggX9_limit_X7_setCell : GoodIn wsX9_limit wsX7_setCell := goodIn_r _ [33, 25, 139] (by decide +kernel) (by decide +kernel)
set_option maxRecDepth 20000 in
theorem gX9_limit_X7_setCell : GoodIn wsX9_limit (wsV RX9 200 RX7 yX7_setCell wsX7_setCell) := goodIn_app (goodIn_of _ (by decide +kernel)) ggX9_limit_X7_setCell
set_option maxRecDepth 20000 in
theorem ggX9_limit_X9_missingNow : GoodIn wsX9_limit wsX9_missingNow := goodIn_r _ [37, 38, 3, 39, 40, 41, 23, 42, 25, 43, 44, 45, 46, 47, 48, 49, 50, 51, 52, 53, 54, 55, 56, 57, 58, 59, 60, 61, 62, 63, 64, 65, 66, 67, 68, 69, 70, 71, 72, 73, 74, 75, 76, 77, 78, 5, 6, 7, 79, 80, 81, 82, 83, 84, 85, 86, 87, 88, 89, 90, 91, 92, 93, 94, 95, 96, 97, 98, 99, 100, 101, 102, 103, 104, 105, 106, 107, 108, 109, 110, 111, 112, 113, 114, 115, 116, 117, 118, 119, 120, 121, 122, 123, 124, 125, 126, 127, 128, 129, 130, 131, 132, 133, 134, 135, 139, 140, 141, 142, 143, 144, 145, 146] (by decide +kernel) (by decide +kernel)
set_option maxRecDepth 20000 in
theorem gX9_limit_X9_missingNow : GoodIn wsX9_limit (wsV RX9 75 RX9 yX9_missingNow wsX9_missingNow) := goodIn_app (goodIn_of _ (by decide +kernel)) ggX9_limit_X9_missingNow
theorem dX9_limit_0 : decode cX9_limit 0 = .ok (.iload_n 1, 1) := by decide +kernel
theorem dX9_limit_1 : decode cX9_limit 1 = .ok (.iconst 1, 1) := by decide +kernel
theorem dX9_limit_2 : decode cX9_limit 2 = .ok (.bipush 8, 2) := by decide +kernel
theorem dX9_limit_4 : decode cX9_limit 4 = .ok (.invokestatic 147, 3) := by decide +kernel
theorem dX9_limit_7 : decode cX9_limit 7 = .ok (.ifCond .ne 6, 3) := by decide +kernel
theorem dX9_limit_10 : decode cX9_limit 10 = .ok (.ldc 99, 2) := by decide +kernel
theorem dX9_limit_12 : decode cX9_limit 12 = .ok (.ireturn, 1) := by decide +kernel
theorem dX9_limit_13 : decode cX9_limit 13 = .ok (.aload_n 0, 1) := by decide +kernel
theorem dX9_limit_14 : decode cX9_limit 14 = .ok (.getfield 40, 3) := by decide +kernel
theorem dX9_limit_17 : decode cX9_limit 17 = .ok (.aload_n 0, 1) := by decide +kernel
theorem dX9_limit_18 : decode cX9_limit 18 = .ok (.getfield 10, 3) := by decide +kernel
theorem dX9_limit_21 : decode cX9_limit 21 = .ok (.invokevirtual 167, 3) := by decide +kernel
theorem dX9_limit_24 : decode cX9_limit 24 = .ok (.aload_n 0, 1) := by decide +kernel
theorem dX9_limit_25 : decode cX9_limit 25 = .ok (.getfield 10, 3) := by decide +kernel
theorem dX9_limit_28 : decode cX9_limit 28 = .ok (.iconst 1, 1) := by decide +kernel
theorem dX9_limit_29 : decode cX9_limit 29 = .ok (.iload_n 1, 1) := by decide +kernel
theorem dX9_limit_30 : decode cX9_limit 30 = .ok (.invokevirtual 200, 3) := by decide +kernel
theorem dX9_limit_33 : decode cX9_limit 33 = .ok (.aload_n 0, 1) := by decide +kernel
theorem dX9_limit_34 : decode cX9_limit 34 = .ok (.invokevirtual 75, 3) := by decide +kernel
theorem dX9_limit_37 : decode cX9_limit 37 = .ok (.ireturn, 1) := by decide +kernel
set_option maxRecDepth 20000 in
theorem ggX9_rule_X9_isWithin : GoodIn wsX9_rule wsX9_isWithin := goodIn_r _ [7] (by decide +kernel) (by decide +kernel)
set_option maxRecDepth 20000 in
theorem gX9_rule_X9_isWithin : GoodIn wsX9_rule (va_wsS RX9 147 yX9_isWithin wsX9_isWithin) := goodIn_app (goodIn_of _ (by decide +kernel)) ggX9_rule_X9_isWithin
set_option maxRecDepth 20000 in
theorem ggX9_rule_X3_remember : GoodIn wsX9_rule wsX3_remember := goodIn_r _ [12, 13, 14, 15, 16, 17, 18, 19, 20, 21, 22, 23, 24, 25, 26, 27, 28, 29, 136, 137, 138, 139] (by decide +kernel) (by decide +kernel)
set_option maxRecDepth 20000 in
theorem gX9_rule_X3_remember : GoodIn wsX9_rule (wsV RX9 167 RX3 yX3_remember wsX3_remember) := goodIn_app (goodIn_of _ (by decide +kernel)) ggX9_rule_X3_remember
set_option maxRecDepth 20000 in
theorem ggX9_rule_X7_setCell : GoodIn wsX9_rule wsX7_setCell := goodIn_r _ [33, 25, 139] (by decide +kernel) (by decide +kernel)
set_option maxRecDepth 20000 in
theorem gX9_rule_X7_setCell : GoodIn wsX9_rule (wsV RX9 200 RX7 yX7_setCell wsX7_setCell) := goodIn_app (goodIn_of _ (by decide +kernel)) ggX9_rule_X7_setCell
set_option maxRecDepth 20000 in
theorem ggX9_rule_X9_missingNow : GoodIn wsX9_rule wsX9_missingNow := goodIn_r _ [37, 38, 3, 39, 40, 41, 23, 42, 25, 43, 44, 45, 46, 47, 48, 49, 50, 51, 52, 53, 54, 55, 56, 57, 58, 59, 60, 61, 62, 63, 64, 65, 66, 67, 68, 69, 70, 71, 72, 73, 74, 75, 76, 77, 78, 5, 6, 7, 79, 80, 81, 82, 83, 84, 85, 86, 87, 88, 89, 90, 91, 92, 93, 94, 95, 96, 97, 98, 99, 100, 101, 102, 103, 104, 105, 106, 107, 108, 109, 110, 111, 112, 113, 114, 115, 116, 117, 118, 119, 120, 121, 122, 123, 124, 125, 126, 127, 128, 129, 130, 131, 132, 133, 134, 135, 139, 140, 141, 142, 143, 144, 145, 146] (by decide +kernel) (by decide +kernel)
set_option maxRecDepth 20000 in
theorem gX9_rule_X9_missingNow : GoodIn wsX9_rule (wsV RX9 75 RX9 yX9_missingNow wsX9_missingNow) := goodIn_app (goodIn_of _ (by decide +kernel)) ggX9_rule_X9_missingNow
theorem dX9_rule_0 : decode cX9_rule 0 = .ok (.iload_n 1, 1) := by decide +kernel
theorem dX9_rule_1 : decode cX9_rule 1 = .ok (.iconst 0, 1) := by decide +kernel
theorem dX9_rule_2 : decode cX9_rule 2 = .ok (.iconst 3, 1) := by decide +kernel
theorem dX9_rule_3 : decode cX9_rule 3 = .ok (.invokestatic 147, 3) := by decide +kernel
theorem dX9_rule_6 : decode cX9_rule 6 = .ok (.ifCond .ne 6, 3) := by decide +kernel
theorem dX9_rule_9 : decode cX9_rule 9 = .ok (.ldc 99, 2) := by decide +kernel
theorem dX9_rule_11 : decode cX9_rule 11 = .ok (.ireturn, 1) := by decide +kernel
theorem dX9_rule_12 : decode cX9_rule 12 = .ok (.aload_n 0, 1) := by decide +kernel
theorem dX9_rule_13 : decode cX9_rule 13 = .ok (.getfield 40, 3) := by decide +kernel
theorem dX9_rule_16 : decode cX9_rule 16 = .ok (.aload_n 0, 1) := by decide +kernel
theorem dX9_rule_17 : decode cX9_rule 17 = .ok (.getfield 10, 3) := by decide +kernel
theorem dX9_rule_20 : decode cX9_rule 20 = .ok (.invokevirtual 167, 3) := by decide +kernel
theorem dX9_rule_23 : decode cX9_rule 23 = .ok (.aload_n 0, 1) := by decide +kernel
theorem dX9_rule_24 : decode cX9_rule 24 = .ok (.getfield 10, 3) := by decide +kernel
theorem dX9_rule_27 : decode cX9_rule 27 = .ok (.iconst 2, 1) := by decide +kernel
theorem dX9_rule_28 : decode cX9_rule 28 = .ok (.iload_n 1, 1) := by decide +kernel
theorem dX9_rule_29 : decode cX9_rule 29 = .ok (.invokevirtual 200, 3) := by decide +kernel
theorem dX9_rule_32 : decode cX9_rule 32 = .ok (.aload_n 0, 1) := by decide +kernel
theorem dX9_rule_33 : decode cX9_rule 33 = .ok (.invokevirtual 75, 3) := by decide +kernel
theorem dX9_rule_36 : decode cX9_rule 36 = .ok (.ireturn, 1) := by decide +kernel
set_option maxRecDepth 20000 in
theorem ggX9_frame_X9_isWithin : GoodIn wsX9_frame wsX9_isWithin := goodIn_r _ [7] (by decide +kernel) (by decide +kernel)
set_option maxRecDepth 20000 in
theorem gX9_frame_X9_isWithin : GoodIn wsX9_frame (va_wsS RX9 147 yX9_isWithin wsX9_isWithin) := goodIn_app (goodIn_of _ (by decide +kernel)) ggX9_frame_X9_isWithin
set_option maxRecDepth 20000 in
theorem ggX9_frame_X3_remember : GoodIn wsX9_frame wsX3_remember := goodIn_r _ [12, 13, 14, 15, 16, 17, 18, 19, 20, 21, 22, 23, 24, 25, 26, 27, 28, 29, 63, 64, 65, 66] (by decide +kernel) (by decide +kernel)
set_option maxRecDepth 20000 in
theorem gX9_frame_X3_remember : GoodIn wsX9_frame (wsV RX9 167 RX3 yX3_remember wsX3_remember) := goodIn_app (goodIn_of _ (by decide +kernel)) ggX9_frame_X3_remember
set_option maxRecDepth 20000 in
theorem ggX9_frame_X7_goNextFrame : GoodIn wsX9_frame wsX7_goNextFrame := goodIn_r _ [33, 25, 34, 35, 36, 23, 37, 38, 39, 40, 41, 42, 43, 44, 45, 46, 47, 48, 66] (by decide +kernel) (by decide +kernel)
set_option maxRecDepth 20000 in
theorem gX9_frame_X7_goNextFrame : GoodIn wsX9_frame (wsV RX9 204 RX7 yX7_goNextFrame wsX7_goNextFrame) := goodIn_app (goodIn_of _ (by decide +kernel)) ggX9_frame_X7_goNextFrame
set_option maxRecDepth 20000 in
theorem ggX9_frame_X7_cell : GoodIn wsX9_frame wsX7_cell := goodIn_r _ [52, 25, 66] (by decide +kernel) (by decide +kernel)
set_option maxRecDepth 20000 in
theorem gX9_frame_X7_cell : GoodIn wsX9_frame (wsV RX9 71 RX7 yX7_cell wsX7_cell) := goodIn_app (goodIn_of _ (by decide +kernel)) ggX9_frame_X7_cell
theorem dX9_frame_0 : decode cX9_frame 0 = .ok (.iload_n 1, 1) := by decide +kernel
theorem dX9_frame_1 : decode cX9_frame 1 = .ok (.iconst 1, 1) := by decide +kernel
theorem dX9_frame_2 : decode cX9_frame 2 = .ok (.bipush 40, 2) := by decide +kernel
theorem dX9_frame_4 : decode cX9_frame 4 = .ok (.invokestatic 147, 3) := by decide +kernel
theorem dX9_frame_7 : decode cX9_frame 7 = .ok (.ifCond .ne 6, 3) := by decide +kernel
theorem dX9_frame_10 : decode cX9_frame 10 = .ok (.ldc 99, 2) := by decide +kernel
theorem dX9_frame_12 : decode cX9_frame 12 = .ok (.ireturn, 1) := by decide +kernel
theorem dX9_frame_13 : decode cX9_frame 13 = .ok (.aload_n 0, 1) := by decide +kernel
theorem dX9_frame_14 : decode cX9_frame 14 = .ok (.getfield 40, 3) := by decide +kernel
theorem dX9_frame_17 : decode cX9_frame 17 = .ok (.aload_n 0, 1) := by decide +kernel
theorem dX9_frame_18 : decode cX9_frame 18 = .ok (.getfield 10, 3) := by decide +kernel
theorem dX9_frame_21 : decode cX9_frame 21 = .ok (.invokevirtual 167, 3) := by decide +kernel
theorem dX9_frame_24 : decode cX9_frame 24 = .ok (.iconst 0, 1) := by decide +kernel
theorem dX9_frame_25 : decode cX9_frame 25 = .ok (.istore_n 2, 1) := by decide +kernel
theorem dX9_frame_26 : decode cX9_frame 26 = .ok (.iload_n 2, 1) := by decide +kernel
theorem dX9_frame_27 : decode cX9_frame 27 = .ok (.iload_n 1, 1) := by decide +kernel
theorem dX9_frame_28 : decode cX9_frame 28 = .ok (.if_icmp .ge 16, 3) := by decide +kernel
theorem dX9_frame_31 : decode cX9_frame 31 = .ok (.aload_n 0, 1) := by decide +kernel
theorem dX9_frame_32 : decode cX9_frame 32 = .ok (.getfield 10, 3) := by decide +kernel
theorem dX9_frame_35 : decode cX9_frame 35 = .ok (.invokevirtual 204, 3) := by decide +kernel
theorem dX9_frame_38 : decode cX9_frame 38 = .ok (.iinc 2 1, 3) := by decide +kernel
theorem dX9_frame_41 : decode cX9_frame 41 = .ok (.goto (-15), 3) := by decide +kernel
theorem dX9_frame_44 : decode cX9_frame 44 = .ok (.aload_n 0, 1) := by decide +kernel
theorem dX9_frame_45 : decode cX9_frame 45 = .ok (.getfield 10, 3) := by decide +kernel
theorem dX9_frame_48 : decode cX9_frame 48 = .ok (.iconst 3, 1) := by decide +kernel
theorem dX9_frame_49 : decode cX9_frame 49 = .ok (.invokevirtual 71, 3) := by decide +kernel
theorem dX9_frame_52 : decode cX9_frame 52 = .ok (.ireturn, 1) := by decide +kernel
set_option maxRecDepth 20000 in
theorem ggX9_drift_X9_isWithin : GoodIn wsX9_drift wsX9_isWithin := goodIn_r _ [8] (by decide +kernel) (by decide +kernel)
set_option maxRecDepth 20000 in
theorem gX9_drift_X9_isWithin : GoodIn wsX9_drift (va_wsS RX9 147 yX9_isWithin wsX9_isWithin) := goodIn_app (goodIn_of _ (by decide +kernel)) ggX9_drift_X9_isWithin
set_option maxRecDepth 20000 in
theorem ggX9_drift_X7_isFull : GoodIn wsX9_drift wsX7_isFull := goodIn_r _ [13, 14, 71] (by decide +kernel) (by decide +kernel)
set_option maxRecDepth 20000 in
theorem gX9_drift_X7_isFull : GoodIn wsX9_drift (wsV RX9 181 RX7 yX7_isFull wsX7_isFull) := goodIn_app (goodIn_of _ (by decide +kernel)) ggX9_drift_X7_isFull
set_option maxRecDepth 20000 in
theorem ggX9_drift_X3_remember : GoodIn wsX9_drift wsX3_remember := goodIn_r _ [19, 20, 21, 22, 23, 24, 25, 26, 27, 28, 29, 12, 30, 14, 31, 32, 33, 34, 72, 73, 74, 71] (by decide +kernel) (by decide +kernel)
set_option maxRecDepth 20000 in
theorem gX9_drift_X3_remember : GoodIn wsX9_drift (wsV RX9 167 RX3 yX3_remember wsX3_remember) := goodIn_app (goodIn_of _ (by decide +kernel)) ggX9_drift_X3_remember
set_option maxRecDepth 20000 in
theorem ggX9_drift_X1_addThing : GoodIn wsX9_drift wsX1_addThing := goodIn_r _ [39, 40, 41, 42, 38, 43, 44, 45, 46, 47, 48, 49, 50, 51, 12, 52, 14, 53, 54, 55, 56, 75, 71] (by decide +kernel) (by decide +kernel)
set_option maxRecDepth 20000 in
theorem gX9_drift_X1_addThing : GoodIn wsX9_drift (wsV RX9 207 RX1 yX1_addThing wsX1_addThing) := goodIn_app (goodIn_of _ (by decide +kernel)) ggX9_drift_X1_addThing
set_option maxRecDepth 20000 in
theorem ggX9_drift_X7_cell : GoodIn wsX9_drift wsX7_cell := goodIn_r _ [60, 14, 71] (by decide +kernel) (by decide +kernel)
set_option maxRecDepth 20000 in
theorem gX9_drift_X7_cell : GoodIn wsX9_drift (wsV RX9 71 RX7 yX7_cell wsX7_cell) := goodIn_app (goodIn_of _ (by decide +kernel)) ggX9_drift_X7_cell
theorem dX9_drift_0 : decode cX9_drift 0 = .ok (.iload_n 1, 1) := by decide +kernel
theorem dX9_drift_1 : decode cX9_drift 1 = .ok (.iconst 1, 1) := by decide +kernel
theorem dX9_drift_2 : decode cX9_drift 2 = .ok (.bipush 12, 2) := by decide +kernel
theorem dX9_drift_4 : decode cX9_drift 4 = .ok (.invokestatic 147, 3) := by decide +kernel
theorem dX9_drift_7 : decode cX9_drift 7 = .ok (.ifCond .ne 6, 3) := by decide +kernel
theorem dX9_drift_10 : decode cX9_drift 10 = .ok (.ldc 99, 2) := by decide +kernel
theorem dX9_drift_12 : decode cX9_drift 12 = .ok (.ireturn, 1) := by decide +kernel
theorem dX9_drift_13 : decode cX9_drift 13 = .ok (.iconst 0, 1) := by decide +kernel
theorem dX9_drift_14 : decode cX9_drift 14 = .ok (.istore_n 2, 1) := by decide +kernel
theorem dX9_drift_15 : decode cX9_drift 15 = .ok (.iload_n 2, 1) := by decide +kernel
theorem dX9_drift_16 : decode cX9_drift 16 = .ok (.iload_n 1, 1) := by decide +kernel
theorem dX9_drift_17 : decode cX9_drift 17 = .ok (.if_icmp .ge 41, 3) := by decide +kernel
theorem dX9_drift_20 : decode cX9_drift 20 = .ok (.aload_n 0, 1) := by decide +kernel
theorem dX9_drift_21 : decode cX9_drift 21 = .ok (.getfield 10, 3) := by decide +kernel
theorem dX9_drift_24 : decode cX9_drift 24 = .ok (.invokevirtual 181, 3) := by decide +kernel
theorem dX9_drift_27 : decode cX9_drift 27 = .ok (.ifCond .ne 31, 3) := by decide +kernel
theorem dX9_drift_30 : decode cX9_drift 30 = .ok (.aload_n 0, 1) := by decide +kernel
theorem dX9_drift_31 : decode cX9_drift 31 = .ok (.getfield 40, 3) := by decide +kernel
theorem dX9_drift_34 : decode cX9_drift 34 = .ok (.aload_n 0, 1) := by decide +kernel
theorem dX9_drift_35 : decode cX9_drift 35 = .ok (.getfield 10, 3) := by decide +kernel
theorem dX9_drift_38 : decode cX9_drift 38 = .ok (.invokevirtual 167, 3) := by decide +kernel
theorem dX9_drift_41 : decode cX9_drift 41 = .ok (.aload_n 0, 1) := by decide +kernel
theorem dX9_drift_42 : decode cX9_drift 42 = .ok (.getfield 54, 3) := by decide +kernel
theorem dX9_drift_45 : decode cX9_drift 45 = .ok (.aload_n 0, 1) := by decide +kernel
theorem dX9_drift_46 : decode cX9_drift 46 = .ok (.getfield 10, 3) := by decide +kernel
theorem dX9_drift_49 : decode cX9_drift 49 = .ok (.invokevirtual 207, 3) := by decide +kernel
theorem dX9_drift_52 : decode cX9_drift 52 = .ok (.iinc 2 1, 3) := by decide +kernel
theorem dX9_drift_55 : decode cX9_drift 55 = .ok (.goto (-40), 3) := by decide +kernel
theorem dX9_drift_58 : decode cX9_drift 58 = .ok (.aload_n 0, 1) := by decide +kernel
theorem dX9_drift_59 : decode cX9_drift 59 = .ok (.getfield 10, 3) := by decide +kernel
theorem dX9_drift_62 : decode cX9_drift 62 = .ok (.iconst 0, 1) := by decide +kernel
theorem dX9_drift_63 : decode cX9_drift 63 = .ok (.invokevirtual 71, 3) := by decide +kernel
theorem dX9_drift_66 : decode cX9_drift 66 = .ok (.ireturn, 1) := by decide +kernel
set_option maxRecDepth 20000 in
theorem ggX9_undo_X9_isWithin : GoodIn wsX9_undo wsX9_isWithin := goodIn_r _ [8] (by decide +kernel) (by decide +kernel)
set_option maxRecDepth 20000 in
theorem gX9_undo_X9_isWithin : GoodIn wsX9_undo (va_wsS RX9 147 yX9_isWithin wsX9_isWithin) := goodIn_app (goodIn_of _ (by decide +kernel)) ggX9_undo_X9_isWithin
set_option maxRecDepth 20000 in
theorem ggX9_undo_X3_size : GoodIn wsX9_undo wsX3_size := goodIn_r _ [13, 14, 49, 50, 51] (by decide +kernel) (by decide +kernel)
set_option maxRecDepth 20000 in
theorem gX9_undo_X3_size : GoodIn wsX9_undo (wsV RX9 98 RX3 yX3_size wsX3_size) := goodIn_app (goodIn_of _ (by decide +kernel)) ggX9_undo_X3_size
set_option maxRecDepth 20000 in
theorem ggX9_undo_X3_bringBack : GoodIn wsX9_undo wsX3_bringBack := goodIn_r _ [18, 19, 14, 20, 21, 22, 23, 24, 25, 26, 27, 28, 29, 30, 31, 32, 33, 34, 49, 50, 51, 52] (by decide +kernel) (by decide +kernel)
set_option maxRecDepth 20000 in
theorem gX9_undo_X3_bringBack : GoodIn wsX9_undo (wsV RX9 211 RX3 yX3_bringBack wsX3_bringBack) := goodIn_app (goodIn_of _ (by decide +kernel)) ggX9_undo_X3_bringBack
set_option maxRecDepth 20000 in
theorem ggX9_undo_X7_cell : GoodIn wsX9_undo wsX7_cell := goodIn_r _ [38, 30, 52] (by decide +kernel) (by decide +kernel)
set_option maxRecDepth 20000 in
theorem gX9_undo_X7_cell : GoodIn wsX9_undo (wsV RX9 71 RX7 yX7_cell wsX7_cell) := goodIn_app (goodIn_of _ (by decide +kernel)) ggX9_undo_X7_cell
theorem dX9_undo_0 : decode cX9_undo 0 = .ok (.iload_n 1, 1) := by decide +kernel
theorem dX9_undo_1 : decode cX9_undo 1 = .ok (.iconst 1, 1) := by decide +kernel
theorem dX9_undo_2 : decode cX9_undo 2 = .ok (.bipush 20, 2) := by decide +kernel
theorem dX9_undo_4 : decode cX9_undo 4 = .ok (.invokestatic 147, 3) := by decide +kernel
theorem dX9_undo_7 : decode cX9_undo 7 = .ok (.ifCond .ne 6, 3) := by decide +kernel
theorem dX9_undo_10 : decode cX9_undo 10 = .ok (.ldc 99, 2) := by decide +kernel
theorem dX9_undo_12 : decode cX9_undo 12 = .ok (.ireturn, 1) := by decide +kernel
theorem dX9_undo_13 : decode cX9_undo 13 = .ok (.iload_n 1, 1) := by decide +kernel
theorem dX9_undo_14 : decode cX9_undo 14 = .ok (.aload_n 0, 1) := by decide +kernel
theorem dX9_undo_15 : decode cX9_undo 15 = .ok (.getfield 40, 3) := by decide +kernel
theorem dX9_undo_18 : decode cX9_undo 18 = .ok (.invokevirtual 98, 3) := by decide +kernel
theorem dX9_undo_21 : decode cX9_undo 21 = .ok (.if_icmp .le 6, 3) := by decide +kernel
theorem dX9_undo_24 : decode cX9_undo 24 = .ok (.ldc 210, 2) := by decide +kernel
theorem dX9_undo_26 : decode cX9_undo 26 = .ok (.ireturn, 1) := by decide +kernel
theorem dX9_undo_27 : decode cX9_undo 27 = .ok (.aload_n 0, 1) := by decide +kernel
theorem dX9_undo_28 : decode cX9_undo 28 = .ok (.getfield 40, 3) := by decide +kernel
theorem dX9_undo_31 : decode cX9_undo 31 = .ok (.aload_n 0, 1) := by decide +kernel
theorem dX9_undo_32 : decode cX9_undo 32 = .ok (.getfield 10, 3) := by decide +kernel
theorem dX9_undo_35 : decode cX9_undo 35 = .ok (.iload_n 1, 1) := by decide +kernel
theorem dX9_undo_36 : decode cX9_undo 36 = .ok (.invokevirtual 211, 3) := by decide +kernel
theorem dX9_undo_39 : decode cX9_undo 39 = .ok (.aload_n 0, 1) := by decide +kernel
theorem dX9_undo_40 : decode cX9_undo 40 = .ok (.getfield 10, 3) := by decide +kernel
theorem dX9_undo_43 : decode cX9_undo 43 = .ok (.iconst 0, 1) := by decide +kernel
theorem dX9_undo_44 : decode cX9_undo 44 = .ok (.invokevirtual 71, 3) := by decide +kernel
theorem dX9_undo_47 : decode cX9_undo 47 = .ok (.ireturn, 1) := by decide +kernel
set_option maxRecDepth 20000 in
theorem ggX9_leftOut_X9_isThing : GoodIn wsX9_leftOut wsX9_isThing := goodIn_r _ [9, 4, 10, 11, 12, 13, 14, 15, 16, 17, 8, 18, 97, 98, 99, 100, 101, 102, 103, 104, 105, 106, 107] (by decide +kernel) (by decide +kernel)
set_option maxRecDepth 20000 in
theorem gX9_leftOut_X9_isThing : GoodIn wsX9_leftOut (wsV RX9 100 RX9 yX9_isThing wsX9_isThing) := goodIn_app (goodIn_of _ (by decide +kernel)) ggX9_leftOut_X9_isThing
set_option maxRecDepth 20000 in
theorem ggX9_leftOut_X9_isWithin : GoodIn wsX9_leftOut wsX9_isWithin := goodIn_r _ [18] (by decide +kernel) (by decide +kernel)
set_option maxRecDepth 20000 in
theorem gX9_leftOut_X9_isWithin : GoodIn wsX9_leftOut (va_wsS RX9 147 yX9_isWithin wsX9_isWithin) := goodIn_app (goodIn_of _ (by decide +kernel)) ggX9_leftOut_X9_isWithin
set_option maxRecDepth 20000 in
theorem ggX9_leftOut_X2_run : GoodIn wsX9_leftOut wsX2_run := goodIn_r _ [23, 24, 25, 26, 27, 28, 13, 29, 15, 30, 31, 32, 33, 34, 35, 36, 37, 38, 39, 40, 41, 42, 43, 44, 22, 45, 46, 47, 11, 12, 14, 48, 49, 50, 51, 52, 53, 54, 55, 56, 57, 58, 59, 60, 61, 62, 63, 64, 65, 66, 67, 68, 69, 70, 71, 72, 73, 74, 75, 17, 8, 18, 76, 77, 78, 79, 80, 81, 82, 83, 84, 85, 86, 87, 88, 89, 90, 91, 92, 108, 109, 110, 107, 111] (by decide +kernel) (by decide +kernel)
set_option maxRecDepth 20000 in
theorem gX9_leftOut_X2_run : GoodIn wsX9_leftOut (wsV RX9 215 RX2 yX2_run wsX2_run) := goodIn_app (goodIn_of _ (by decide +kernel)) ggX9_leftOut_X2_run
set_option maxRecDepth 20000 in
theorem ggX9_leftOut_X2_dropsOf : GoodIn wsX9_leftOut wsX2_dropsOf := goodIn_r _ [96, 25, 108, 109, 110] (by decide +kernel) (by decide +kernel)
set_option maxRecDepth 20000 in
theorem gX9_leftOut_X2_dropsOf : GoodIn wsX9_leftOut (wsV RX9 218 RX2 yX2_dropsOf wsX2_dropsOf) := goodIn_app (goodIn_of _ (by decide +kernel)) ggX9_leftOut_X2_dropsOf
theorem dX9_leftOut_0 : decode cX9_leftOut 0 = .ok (.aload_n 0, 1) := by decide +kernel
theorem dX9_leftOut_1 : decode cX9_leftOut 1 = .ok (.iload_n 1, 1) := by decide +kernel
theorem dX9_leftOut_2 : decode cX9_leftOut 2 = .ok (.invokevirtual 100, 3) := by decide +kernel
theorem dX9_leftOut_5 : decode cX9_leftOut 5 = .ok (.ifCond .ne 6, 3) := by decide +kernel
theorem dX9_leftOut_8 : decode cX9_leftOut 8 = .ok (.ldc 104, 2) := by decide +kernel
theorem dX9_leftOut_10 : decode cX9_leftOut 10 = .ok (.ireturn, 1) := by decide +kernel
theorem dX9_leftOut_11 : decode cX9_leftOut 11 = .ok (.iload_n 2, 1) := by decide +kernel
theorem dX9_leftOut_12 : decode cX9_leftOut 12 = .ok (.iconst 1, 1) := by decide +kernel
theorem dX9_leftOut_13 : decode cX9_leftOut 13 = .ok (.bipush 40, 2) := by decide +kernel
theorem dX9_leftOut_15 : decode cX9_leftOut 15 = .ok (.invokestatic 147, 3) := by decide +kernel
theorem dX9_leftOut_18 : decode cX9_leftOut 18 = .ok (.ifCond .ne 6, 3) := by decide +kernel
theorem dX9_leftOut_21 : decode cX9_leftOut 21 = .ok (.ldc 99, 2) := by decide +kernel
theorem dX9_leftOut_23 : decode cX9_leftOut 23 = .ok (.ireturn, 1) := by decide +kernel
theorem dX9_leftOut_24 : decode cX9_leftOut 24 = .ok (.aload_n 0, 1) := by decide +kernel
theorem dX9_leftOut_25 : decode cX9_leftOut 25 = .ok (.getfield 33, 3) := by decide +kernel
theorem dX9_leftOut_28 : decode cX9_leftOut 28 = .ok (.aload_n 0, 1) := by decide +kernel
theorem dX9_leftOut_29 : decode cX9_leftOut 29 = .ok (.getfield 10, 3) := by decide +kernel
theorem dX9_leftOut_32 : decode cX9_leftOut 32 = .ok (.iload_n 2, 1) := by decide +kernel
theorem dX9_leftOut_33 : decode cX9_leftOut 33 = .ok (.invokevirtual 215, 3) := by decide +kernel
theorem dX9_leftOut_36 : decode cX9_leftOut 36 = .ok (.aload_n 0, 1) := by decide +kernel
theorem dX9_leftOut_37 : decode cX9_leftOut 37 = .ok (.getfield 33, 3) := by decide +kernel
theorem dX9_leftOut_40 : decode cX9_leftOut 40 = .ok (.iload_n 1, 1) := by decide +kernel
theorem dX9_leftOut_41 : decode cX9_leftOut 41 = .ok (.invokevirtual 218, 3) := by decide +kernel
theorem dX9_leftOut_44 : decode cX9_leftOut 44 = .ok (.ireturn, 1) := by decide +kernel
set_option maxRecDepth 20000 in
theorem ggX9_worst_X9_isWithin : GoodIn wsX9_worst wsX9_isWithin := goodIn_r _ [7] (by decide +kernel) (by decide +kernel)
set_option maxRecDepth 20000 in
theorem gX9_worst_X9_isWithin : GoodIn wsX9_worst (va_wsS RX9 147 yX9_isWithin wsX9_isWithin) := goodIn_app (goodIn_of _ (by decide +kernel)) ggX9_worst_X9_isWithin
set_option maxRecDepth 20000 in
theorem ggX9_worst_X2_run : GoodIn wsX9_worst wsX2_run := goodIn_r _ [12, 13, 14, 15, 16, 17, 18, 19, 20, 21, 22, 23, 24, 25, 26, 27, 28, 29, 30, 31, 32, 33, 34, 35, 11, 36, 37, 38, 39, 40, 41, 42, 43, 44, 45, 46, 47, 48, 49, 50, 51, 52, 53, 54, 55, 56, 57, 58, 59, 60, 61, 62, 63, 64, 65, 66, 67, 68, 69, 5, 6, 7, 70, 71, 72, 73, 74, 75, 76, 77, 78, 79, 80, 81, 82, 83, 84, 85, 86, 101, 102, 103, 104, 105] (by decide +kernel) (by decide +kernel)
set_option maxRecDepth 20000 in
theorem gX9_worst_X2_run : GoodIn wsX9_worst (wsV RX9 215 RX2 yX2_run wsX2_run) := goodIn_app (goodIn_of _ (by decide +kernel)) ggX9_worst_X2_run
set_option maxRecDepth 20000 in
theorem ggX9_worst_X2_mostDropped : GoodIn wsX9_worst wsX2_mostDropped := goodIn_r _ [90, 14, 101, 102, 103] (by decide +kernel) (by decide +kernel)
set_option maxRecDepth 20000 in
theorem gX9_worst_X2_mostDropped : GoodIn wsX9_worst (wsV RX9 221 RX2 yX2_mostDropped wsX2_mostDropped) := goodIn_app (goodIn_of _ (by decide +kernel)) ggX9_worst_X2_mostDropped
theorem dX9_worst_0 : decode cX9_worst 0 = .ok (.iload_n 1, 1) := by decide +kernel
theorem dX9_worst_1 : decode cX9_worst 1 = .ok (.iconst 1, 1) := by decide +kernel
theorem dX9_worst_2 : decode cX9_worst 2 = .ok (.bipush 40, 2) := by decide +kernel
theorem dX9_worst_4 : decode cX9_worst 4 = .ok (.invokestatic 147, 3) := by decide +kernel
theorem dX9_worst_7 : decode cX9_worst 7 = .ok (.ifCond .ne 6, 3) := by decide +kernel
theorem dX9_worst_10 : decode cX9_worst 10 = .ok (.ldc 99, 2) := by decide +kernel
theorem dX9_worst_12 : decode cX9_worst 12 = .ok (.ireturn, 1) := by decide +kernel
theorem dX9_worst_13 : decode cX9_worst 13 = .ok (.aload_n 0, 1) := by decide +kernel
theorem dX9_worst_14 : decode cX9_worst 14 = .ok (.getfield 33, 3) := by decide +kernel
theorem dX9_worst_17 : decode cX9_worst 17 = .ok (.aload_n 0, 1) := by decide +kernel
theorem dX9_worst_18 : decode cX9_worst 18 = .ok (.getfield 10, 3) := by decide +kernel
theorem dX9_worst_21 : decode cX9_worst 21 = .ok (.iload_n 1, 1) := by decide +kernel
theorem dX9_worst_22 : decode cX9_worst 22 = .ok (.invokevirtual 215, 3) := by decide +kernel
theorem dX9_worst_25 : decode cX9_worst 25 = .ok (.aload_n 0, 1) := by decide +kernel
theorem dX9_worst_26 : decode cX9_worst 26 = .ok (.getfield 33, 3) := by decide +kernel
theorem dX9_worst_29 : decode cX9_worst 29 = .ok (.invokevirtual 221, 3) := by decide +kernel
theorem dX9_worst_32 : decode cX9_worst 32 = .ok (.ireturn, 1) := by decide +kernel
set_option maxRecDepth 20000 in
theorem ggX9_write_X9_isDot : GoodIn wsX9_write wsX9_isDot := goodIn_r _ [7, 8, 9, 6, 10] (by decide +kernel) (by decide +kernel)
set_option maxRecDepth 20000 in
theorem gX9_write_X9_isDot : GoodIn wsX9_write (va_wsS RX9 128 yX9_isDot wsX9_isDot) := goodIn_app (goodIn_of _ (by decide +kernel)) ggX9_write_X9_isDot
set_option maxRecDepth 20000 in
theorem ggX9_write_X9_isWithin : GoodIn wsX9_write wsX9_isWithin := goodIn_r _ [10] (by decide +kernel) (by decide +kernel)
set_option maxRecDepth 20000 in
theorem gX9_write_X9_isWithin : GoodIn wsX9_write (va_wsS RX9 147 yX9_isWithin wsX9_isWithin) := goodIn_app (goodIn_of _ (by decide +kernel)) ggX9_write_X9_isWithin
set_option maxRecDepth 20000 in
theorem ggX9_write_X0_isFull : GoodIn wsX9_write wsX0_isFull := goodIn_r _ [15, 16, 34, 35, 36, 37] (by decide +kernel) (by decide +kernel)
set_option maxRecDepth 20000 in
theorem gX9_write_X0_isFull : GoodIn wsX9_write (wsV RX9 224 RX0 yX0_isFull wsX0_isFull) := goodIn_app (goodIn_of _ (by decide +kernel)) ggX9_write_X0_isFull
set_option maxRecDepth 20000 in
theorem ggX9_write_X0_add : GoodIn wsX9_write wsX0_add := goodIn_r _ [20, 21, 16, 22, 23, 34, 35, 36, 37] (by decide +kernel) (by decide +kernel)
set_option maxRecDepth 20000 in
theorem gX9_write_X0_add : GoodIn wsX9_write (wsV RX9 225 RX0 yX0_add wsX0_add) := goodIn_app (goodIn_of _ (by decide +kernel)) ggX9_write_X0_add
theorem dX9_write_0 : decode cX9_write 0 = .ok (.iload_n 1, 1) := by decide +kernel
theorem dX9_write_1 : decode cX9_write 1 = .ok (.iload_n 2, 1) := by decide +kernel
theorem dX9_write_2 : decode cX9_write 2 = .ok (.invokestatic 128, 3) := by decide +kernel
theorem dX9_write_5 : decode cX9_write 5 = .ok (.ifCond .eq 13, 3) := by decide +kernel
theorem dX9_write_8 : decode cX9_write 8 = .ok (.iload_n 3, 1) := by decide +kernel
theorem dX9_write_9 : decode cX9_write 9 = .ok (.iconst 0, 1) := by decide +kernel
theorem dX9_write_10 : decode cX9_write 10 = .ok (.bipush 7, 2) := by decide +kernel
theorem dX9_write_12 : decode cX9_write 12 = .ok (.invokestatic 147, 3) := by decide +kernel
theorem dX9_write_15 : decode cX9_write 15 = .ok (.ifCond .ne 6, 3) := by decide +kernel
theorem dX9_write_18 : decode cX9_write 18 = .ok (.ldc 99, 2) := by decide +kernel
theorem dX9_write_20 : decode cX9_write 20 = .ok (.ireturn, 1) := by decide +kernel
theorem dX9_write_21 : decode cX9_write 21 = .ok (.aload_n 0, 1) := by decide +kernel
theorem dX9_write_22 : decode cX9_write 22 = .ok (.getfield 47, 3) := by decide +kernel
theorem dX9_write_25 : decode cX9_write 25 = .ok (.invokevirtual 224, 3) := by decide +kernel
theorem dX9_write_28 : decode cX9_write 28 = .ok (.ifCond .eq 6, 3) := by decide +kernel
theorem dX9_write_31 : decode cX9_write 31 = .ok (.ldc 185, 2) := by decide +kernel
theorem dX9_write_33 : decode cX9_write 33 = .ok (.ireturn, 1) := by decide +kernel
theorem dX9_write_34 : decode cX9_write 34 = .ok (.aload_n 0, 1) := by decide +kernel
theorem dX9_write_35 : decode cX9_write 35 = .ok (.getfield 47, 3) := by decide +kernel
theorem dX9_write_38 : decode cX9_write 38 = .ok (.iload_n 1, 1) := by decide +kernel
theorem dX9_write_39 : decode cX9_write 39 = .ok (.iload_n 2, 1) := by decide +kernel
theorem dX9_write_40 : decode cX9_write 40 = .ok (.iload_n 3, 1) := by decide +kernel
theorem dX9_write_41 : decode cX9_write 41 = .ok (.invokevirtual 225, 3) := by decide +kernel
theorem dX9_write_44 : decode cX9_write 44 = .ok (.ireturn, 1) := by decide +kernel
set_option maxRecDepth 20000 in
theorem ggX9_tear_X0_size : GoodIn wsX9_tear wsX0_size := goodIn_r _ [6, 7, 22, 23, 24, 25] (by decide +kernel) (by decide +kernel)
set_option maxRecDepth 20000 in
theorem gX9_tear_X0_size : GoodIn wsX9_tear (wsV RX9 92 RX0 yX0_size wsX0_size) := goodIn_app (goodIn_of _ (by decide +kernel)) ggX9_tear_X0_size
set_option maxRecDepth 20000 in
theorem ggX9_tear_X0_clear : GoodIn wsX9_tear wsX0_clear := goodIn_r _ [11, 7, 22, 23, 24, 25] (by decide +kernel) (by decide +kernel)
set_option maxRecDepth 20000 in
theorem gX9_tear_X0_clear : GoodIn wsX9_tear (wsV RX9 228 RX0 yX0_clear wsX0_clear) := goodIn_app (goodIn_of _ (by decide +kernel)) ggX9_tear_X0_clear
theorem dX9_tear_0 : decode cX9_tear 0 = .ok (.aload_n 0, 1) := by decide +kernel
theorem dX9_tear_1 : decode cX9_tear 1 = .ok (.getfield 47, 3) := by decide +kernel
theorem dX9_tear_4 : decode cX9_tear 4 = .ok (.invokevirtual 92, 3) := by decide +kernel
theorem dX9_tear_7 : decode cX9_tear 7 = .ok (.istore_n 1, 1) := by decide +kernel
theorem dX9_tear_8 : decode cX9_tear 8 = .ok (.aload_n 0, 1) := by decide +kernel
theorem dX9_tear_9 : decode cX9_tear 9 = .ok (.getfield 47, 3) := by decide +kernel
theorem dX9_tear_12 : decode cX9_tear 12 = .ok (.invokevirtual 228, 3) := by decide +kernel
theorem dX9_tear_15 : decode cX9_tear 15 = .ok (.iload_n 1, 1) := by decide +kernel
theorem dX9_tear_16 : decode cX9_tear 16 = .ok (.ireturn, 1) := by decide +kernel
set_option maxRecDepth 20000 in
theorem ggX9_seed_X1_value : GoodIn wsX9_seed wsX1_value := goodIn_r _ [7, 8, 23] (by decide +kernel) (by decide +kernel)
set_option maxRecDepth 20000 in
theorem gX9_seed_X1_value : GoodIn wsX9_seed (wsV RX9 231 RX1 yX1_value wsX1_value) := goodIn_app (goodIn_of _ (by decide +kernel)) ggX9_seed_X1_value
set_option maxRecDepth 20000 in
theorem ggX9_seed_X1_start : GoodIn wsX9_seed wsX1_start := goodIn_r _ [12, 8, 23] (by decide +kernel) (by decide +kernel)
set_option maxRecDepth 20000 in
theorem gX9_seed_X1_start : GoodIn wsX9_seed (wsV RX9 234 RX1 yX1_start wsX1_start) := goodIn_app (goodIn_of _ (by decide +kernel)) ggX9_seed_X1_start
theorem dX9_seed_0 : decode cX9_seed 0 = .ok (.iload_n 1, 1) := by decide +kernel
theorem dX9_seed_1 : decode cX9_seed 1 = .ok (.ifCond .ge 6, 3) := by decide +kernel
theorem dX9_seed_4 : decode cX9_seed 4 = .ok (.ldc 99, 2) := by decide +kernel
theorem dX9_seed_6 : decode cX9_seed 6 = .ok (.ireturn, 1) := by decide +kernel
theorem dX9_seed_7 : decode cX9_seed 7 = .ok (.aload_n 0, 1) := by decide +kernel
theorem dX9_seed_8 : decode cX9_seed 8 = .ok (.getfield 54, 3) := by decide +kernel
theorem dX9_seed_11 : decode cX9_seed 11 = .ok (.invokevirtual 231, 3) := by decide +kernel
theorem dX9_seed_14 : decode cX9_seed 14 = .ok (.istore_n 2, 1) := by decide +kernel
theorem dX9_seed_15 : decode cX9_seed 15 = .ok (.aload_n 0, 1) := by decide +kernel
theorem dX9_seed_16 : decode cX9_seed 16 = .ok (.getfield 54, 3) := by decide +kernel
theorem dX9_seed_19 : decode cX9_seed 19 = .ok (.iload_n 1, 1) := by decide +kernel
theorem dX9_seed_20 : decode cX9_seed 20 = .ok (.invokevirtual 234, 3) := by decide +kernel
theorem dX9_seed_23 : decode cX9_seed 23 = .ok (.iload_n 2, 1) := by decide +kernel
theorem dX9_seed_24 : decode cX9_seed 24 = .ok (.ireturn, 1) := by decide +kernel
set_option maxRecDepth 20000 in
theorem ggX9_keep_X9_isImage : GoodIn wsX9_keep wsX9_isImage := goodIn_r _ [11, 12, 13, 10, 14] (by decide +kernel) (by decide +kernel)
set_option maxRecDepth 20000 in
theorem gX9_keep_X9_isImage : GoodIn wsX9_keep (va_wsS RX9 237 yX9_isImage wsX9_isImage) := goodIn_app (goodIn_of _ (by decide +kernel)) ggX9_keep_X9_isImage
set_option maxRecDepth 20000 in
theorem ggX9_keep_X7_saveTo : GoodIn wsX9_keep wsX7_saveTo := goodIn_r _ [19, 20, 21, 22, 23, 24, 47] (by decide +kernel) (by decide +kernel)
set_option maxRecDepth 20000 in
theorem gX9_keep_X7_saveTo : GoodIn wsX9_keep (wsV RX9 240 RX7 yX7_saveTo wsX7_saveTo) := goodIn_app (goodIn_of _ (by decide +kernel)) ggX9_keep_X7_saveTo
set_option maxRecDepth 20000 in
theorem ggX9_keep_X1_value : GoodIn wsX9_keep wsX1_value := goodIn_r _ [29, 30, 48] (by decide +kernel) (by decide +kernel)
set_option maxRecDepth 20000 in
theorem gX9_keep_X1_value : GoodIn wsX9_keep (wsV RX9 231 RX1 yX1_value wsX1_value) := goodIn_app (goodIn_of _ (by decide +kernel)) ggX9_keep_X1_value
set_option maxRecDepth 20000 in
theorem ggX9_keep_X3_clear : GoodIn wsX9_keep wsX3_clear := goodIn_r _ [35, 36, 49, 50, 51] (by decide +kernel) (by decide +kernel)
set_option maxRecDepth 20000 in
theorem gX9_keep_X3_clear : GoodIn wsX9_keep (wsV RX9 244 RX3 yX3_clear wsX3_clear) := goodIn_app (goodIn_of _ (by decide +kernel)) ggX9_keep_X3_clear
theorem dX9_keep_0 : decode cX9_keep 0 = .ok (.iload_n 1, 1) := by decide +kernel
theorem dX9_keep_1 : decode cX9_keep 1 = .ok (.invokestatic 237, 3) := by decide +kernel
theorem dX9_keep_4 : decode cX9_keep 4 = .ok (.ifCond .ne 6, 3) := by decide +kernel
theorem dX9_keep_7 : decode cX9_keep 7 = .ok (.ldc 104, 2) := by decide +kernel
theorem dX9_keep_9 : decode cX9_keep 9 = .ok (.ireturn, 1) := by decide +kernel
theorem dX9_keep_10 : decode cX9_keep 10 = .ok (.aload_n 0, 1) := by decide +kernel
theorem dX9_keep_11 : decode cX9_keep 11 = .ok (.getfield 10, 3) := by decide +kernel
theorem dX9_keep_14 : decode cX9_keep 14 = .ok (.aload_n 0, 1) := by decide +kernel
theorem dX9_keep_15 : decode cX9_keep 15 = .ok (.getfield 60, 3) := by decide +kernel
theorem dX9_keep_18 : decode cX9_keep 18 = .ok (.iload_n 1, 1) := by decide +kernel
theorem dX9_keep_19 : decode cX9_keep 19 = .ok (.aaload, 1) := by decide +kernel
theorem dX9_keep_20 : decode cX9_keep 20 = .ok (.invokevirtual 240, 3) := by decide +kernel
theorem dX9_keep_23 : decode cX9_keep 23 = .ok (.aload_n 0, 1) := by decide +kernel
theorem dX9_keep_24 : decode cX9_keep 24 = .ok (.getfield 63, 3) := by decide +kernel
theorem dX9_keep_27 : decode cX9_keep 27 = .ok (.iload_n 1, 1) := by decide +kernel
theorem dX9_keep_28 : decode cX9_keep 28 = .ok (.aload_n 0, 1) := by decide +kernel
theorem dX9_keep_29 : decode cX9_keep 29 = .ok (.getfield 54, 3) := by decide +kernel
theorem dX9_keep_32 : decode cX9_keep 32 = .ok (.invokevirtual 231, 3) := by decide +kernel
theorem dX9_keep_35 : decode cX9_keep 35 = .ok (.iastore, 1) := by decide +kernel
theorem dX9_keep_36 : decode cX9_keep 36 = .ok (.aload_n 0, 1) := by decide +kernel
theorem dX9_keep_37 : decode cX9_keep 37 = .ok (.getfield 67, 3) := by decide +kernel
theorem dX9_keep_40 : decode cX9_keep 40 = .ok (.iload_n 1, 1) := by decide +kernel
theorem dX9_keep_41 : decode cX9_keep 41 = .ok (.iconst 1, 1) := by decide +kernel
theorem dX9_keep_42 : decode cX9_keep 42 = .ok (.bastore, 1) := by decide +kernel
theorem dX9_keep_43 : decode cX9_keep 43 = .ok (.aload_n 0, 1) := by decide +kernel
theorem dX9_keep_44 : decode cX9_keep 44 = .ok (.getfield 40, 3) := by decide +kernel
theorem dX9_keep_47 : decode cX9_keep 47 = .ok (.invokevirtual 244, 3) := by decide +kernel
theorem dX9_keep_50 : decode cX9_keep 50 = .ok (.iconst 1, 1) := by decide +kernel
theorem dX9_keep_51 : decode cX9_keep 51 = .ok (.ireturn, 1) := by decide +kernel
set_option maxRecDepth 20000 in
theorem ggX9_goBack_X9_isImage : GoodIn wsX9_goBack wsX9_isImage := goodIn_r _ [12, 13, 14, 11, 15] (by decide +kernel) (by decide +kernel)
set_option maxRecDepth 20000 in
theorem gX9_goBack_X9_isImage : GoodIn wsX9_goBack (va_wsS RX9 237 yX9_isImage wsX9_isImage) := goodIn_app (goodIn_of _ (by decide +kernel)) ggX9_goBack_X9_isImage
set_option maxRecDepth 20000 in
theorem ggX9_goBack_X7_loadFrom : GoodIn wsX9_goBack wsX7_loadFrom := goodIn_r _ [20, 21, 22, 23, 24, 25, 48] (by decide +kernel) (by decide +kernel)
set_option maxRecDepth 20000 in
theorem gX9_goBack_X7_loadFrom : GoodIn wsX9_goBack (wsV RX9 245 RX7 yX7_loadFrom wsX7_loadFrom) := goodIn_app (goodIn_of _ (by decide +kernel)) ggX9_goBack_X7_loadFrom
set_option maxRecDepth 20000 in
theorem ggX9_goBack_X1_start : GoodIn wsX9_goBack wsX1_start := goodIn_r _ [30, 31, 49] (by decide +kernel) (by decide +kernel)
set_option maxRecDepth 20000 in
theorem gX9_goBack_X1_start : GoodIn wsX9_goBack (wsV RX9 234 RX1 yX1_start wsX1_start) := goodIn_app (goodIn_of _ (by decide +kernel)) ggX9_goBack_X1_start
set_option maxRecDepth 20000 in
theorem ggX9_goBack_X3_clear : GoodIn wsX9_goBack wsX3_clear := goodIn_r _ [36, 37, 50, 51, 52] (by decide +kernel) (by decide +kernel)
set_option maxRecDepth 20000 in
theorem gX9_goBack_X3_clear : GoodIn wsX9_goBack (wsV RX9 244 RX3 yX3_clear wsX3_clear) := goodIn_app (goodIn_of _ (by decide +kernel)) ggX9_goBack_X3_clear
theorem dX9_goBack_0 : decode cX9_goBack 0 = .ok (.iload_n 1, 1) := by decide +kernel
theorem dX9_goBack_1 : decode cX9_goBack 1 = .ok (.invokestatic 237, 3) := by decide +kernel
theorem dX9_goBack_4 : decode cX9_goBack 4 = .ok (.ifCond .ne 6, 3) := by decide +kernel
theorem dX9_goBack_7 : decode cX9_goBack 7 = .ok (.ldc 104, 2) := by decide +kernel
theorem dX9_goBack_9 : decode cX9_goBack 9 = .ok (.ireturn, 1) := by decide +kernel
theorem dX9_goBack_10 : decode cX9_goBack 10 = .ok (.aload_n 0, 1) := by decide +kernel
theorem dX9_goBack_11 : decode cX9_goBack 11 = .ok (.getfield 67, 3) := by decide +kernel
theorem dX9_goBack_14 : decode cX9_goBack 14 = .ok (.iload_n 1, 1) := by decide +kernel
theorem dX9_goBack_15 : decode cX9_goBack 15 = .ok (.baload, 1) := by decide +kernel
theorem dX9_goBack_16 : decode cX9_goBack 16 = .ok (.ifCond .ne 6, 3) := by decide +kernel
theorem dX9_goBack_19 : decode cX9_goBack 19 = .ok (.ldc 210, 2) := by decide +kernel
theorem dX9_goBack_21 : decode cX9_goBack 21 = .ok (.ireturn, 1) := by decide +kernel
theorem dX9_goBack_22 : decode cX9_goBack 22 = .ok (.aload_n 0, 1) := by decide +kernel
theorem dX9_goBack_23 : decode cX9_goBack 23 = .ok (.getfield 10, 3) := by decide +kernel
theorem dX9_goBack_26 : decode cX9_goBack 26 = .ok (.aload_n 0, 1) := by decide +kernel
theorem dX9_goBack_27 : decode cX9_goBack 27 = .ok (.getfield 60, 3) := by decide +kernel
theorem dX9_goBack_30 : decode cX9_goBack 30 = .ok (.iload_n 1, 1) := by decide +kernel
theorem dX9_goBack_31 : decode cX9_goBack 31 = .ok (.aaload, 1) := by decide +kernel
theorem dX9_goBack_32 : decode cX9_goBack 32 = .ok (.invokevirtual 245, 3) := by decide +kernel
theorem dX9_goBack_35 : decode cX9_goBack 35 = .ok (.aload_n 0, 1) := by decide +kernel
theorem dX9_goBack_36 : decode cX9_goBack 36 = .ok (.getfield 54, 3) := by decide +kernel
theorem dX9_goBack_39 : decode cX9_goBack 39 = .ok (.aload_n 0, 1) := by decide +kernel
theorem dX9_goBack_40 : decode cX9_goBack 40 = .ok (.getfield 63, 3) := by decide +kernel
theorem dX9_goBack_43 : decode cX9_goBack 43 = .ok (.iload_n 1, 1) := by decide +kernel
theorem dX9_goBack_44 : decode cX9_goBack 44 = .ok (.iaload, 1) := by decide +kernel
theorem dX9_goBack_45 : decode cX9_goBack 45 = .ok (.invokevirtual 234, 3) := by decide +kernel
theorem dX9_goBack_48 : decode cX9_goBack 48 = .ok (.aload_n 0, 1) := by decide +kernel
theorem dX9_goBack_49 : decode cX9_goBack 49 = .ok (.getfield 40, 3) := by decide +kernel
theorem dX9_goBack_52 : decode cX9_goBack 52 = .ok (.invokevirtual 244, 3) := by decide +kernel
theorem dX9_goBack_55 : decode cX9_goBack 55 = .ok (.iconst 1, 1) := by decide +kernel
theorem dX9_goBack_56 : decode cX9_goBack 56 = .ok (.ireturn, 1) := by decide +kernel
theorem dX9_isWithin_0 : decode cX9_isWithin 0 = .ok (.iload_n 0, 1) := by decide +kernel
theorem dX9_isWithin_1 : decode cX9_isWithin 1 = .ok (.iload_n 1, 1) := by decide +kernel
theorem dX9_isWithin_2 : decode cX9_isWithin 2 = .ok (.if_icmp .lt 12, 3) := by decide +kernel
theorem dX9_isWithin_5 : decode cX9_isWithin 5 = .ok (.iload_n 0, 1) := by decide +kernel
theorem dX9_isWithin_6 : decode cX9_isWithin 6 = .ok (.iload_n 2, 1) := by decide +kernel
theorem dX9_isWithin_7 : decode cX9_isWithin 7 = .ok (.if_icmp .gt 7, 3) := by decide +kernel
theorem dX9_isWithin_10 : decode cX9_isWithin 10 = .ok (.iconst 1, 1) := by decide +kernel
theorem dX9_isWithin_11 : decode cX9_isWithin 11 = .ok (.goto 4, 3) := by decide +kernel
theorem dX9_isWithin_14 : decode cX9_isWithin 14 = .ok (.iconst 0, 1) := by decide +kernel
theorem dX9_isWithin_15 : decode cX9_isWithin 15 = .ok (.ireturn, 1) := by decide +kernel
set_option maxRecDepth 20000 in
theorem ggX9_isPicture_X9_isWithin : GoodIn wsX9_isPicture wsX9_isWithin := goodIn_r _ [4] (by decide +kernel) (by decide +kernel)
set_option maxRecDepth 20000 in
theorem gX9_isPicture_X9_isWithin : GoodIn wsX9_isPicture (va_wsS RX9 147 yX9_isWithin wsX9_isWithin) := goodIn_app (goodIn_of _ (by decide +kernel)) ggX9_isPicture_X9_isWithin
theorem dX9_isPicture_0 : decode cX9_isPicture 0 = .ok (.iload_n 0, 1) := by decide +kernel
theorem dX9_isPicture_1 : decode cX9_isPicture 1 = .ok (.iconst 0, 1) := by decide +kernel
theorem dX9_isPicture_2 : decode cX9_isPicture 2 = .ok (.iconst 3, 1) := by decide +kernel
theorem dX9_isPicture_3 : decode cX9_isPicture 3 = .ok (.invokestatic 147, 3) := by decide +kernel
theorem dX9_isPicture_6 : decode cX9_isPicture 6 = .ok (.ireturn, 1) := by decide +kernel
set_option maxRecDepth 20000 in
theorem ggX9_isImage_X9_isWithin : GoodIn wsX9_isImage wsX9_isWithin := goodIn_r _ [4] (by decide +kernel) (by decide +kernel)
set_option maxRecDepth 20000 in
theorem gX9_isImage_X9_isWithin : GoodIn wsX9_isImage (va_wsS RX9 147 yX9_isWithin wsX9_isWithin) := goodIn_app (goodIn_of _ (by decide +kernel)) ggX9_isImage_X9_isWithin
theorem dX9_isImage_0 : decode cX9_isImage 0 = .ok (.iload_n 0, 1) := by decide +kernel
theorem dX9_isImage_1 : decode cX9_isImage 1 = .ok (.iconst 0, 1) := by decide +kernel
theorem dX9_isImage_2 : decode cX9_isImage 2 = .ok (.iconst 1, 1) := by decide +kernel
theorem dX9_isImage_3 : decode cX9_isImage 3 = .ok (.invokestatic 147, 3) := by decide +kernel
theorem dX9_isImage_6 : decode cX9_isImage 6 = .ok (.ireturn, 1) := by decide +kernel
set_option maxRecDepth 20000 in
theorem ggX9_isDot_X9_isWithin : GoodIn wsX9_isDot wsX9_isWithin := goodIn_r _ [4] (by decide +kernel) (by decide +kernel)
set_option maxRecDepth 20000 in
theorem gX9_isDot_X9_isWithin : GoodIn wsX9_isDot (va_wsS RX9 147 yX9_isWithin wsX9_isWithin) := goodIn_app (goodIn_of _ (by decide +kernel)) ggX9_isDot_X9_isWithin
theorem dX9_isDot_0 : decode cX9_isDot 0 = .ok (.iload_n 0, 1) := by decide +kernel
theorem dX9_isDot_1 : decode cX9_isDot 1 = .ok (.iconst 0, 1) := by decide +kernel
theorem dX9_isDot_2 : decode cX9_isDot 2 = .ok (.bipush 23, 2) := by decide +kernel
theorem dX9_isDot_4 : decode cX9_isDot 4 = .ok (.invokestatic 147, 3) := by decide +kernel
theorem dX9_isDot_7 : decode cX9_isDot 7 = .ok (.ifCond .eq 17, 3) := by decide +kernel
theorem dX9_isDot_10 : decode cX9_isDot 10 = .ok (.iload_n 1, 1) := by decide +kernel
theorem dX9_isDot_11 : decode cX9_isDot 11 = .ok (.iconst 0, 1) := by decide +kernel
theorem dX9_isDot_12 : decode cX9_isDot 12 = .ok (.bipush 31, 2) := by decide +kernel
theorem dX9_isDot_14 : decode cX9_isDot 14 = .ok (.invokestatic 147, 3) := by decide +kernel
theorem dX9_isDot_17 : decode cX9_isDot 17 = .ok (.ifCond .eq 7, 3) := by decide +kernel
theorem dX9_isDot_20 : decode cX9_isDot 20 = .ok (.iconst 1, 1) := by decide +kernel
theorem dX9_isDot_21 : decode cX9_isDot 21 = .ok (.goto 4, 3) := by decide +kernel
theorem dX9_isDot_24 : decode cX9_isDot 24 = .ok (.iconst 0, 1) := by decide +kernel
theorem dX9_isDot_25 : decode cX9_isDot 25 = .ok (.ireturn, 1) := by decide +kernel
set_option maxRecDepth 20000 in
theorem ggX9_isPlace_X9_isWithin : GoodIn wsX9_isPlace wsX9_isWithin := goodIn_r _ [4] (by decide +kernel) (by decide +kernel)
set_option maxRecDepth 20000 in
theorem gX9_isPlace_X9_isWithin : GoodIn wsX9_isPlace (va_wsS RX9 147 yX9_isWithin wsX9_isWithin) := goodIn_app (goodIn_of _ (by decide +kernel)) ggX9_isPlace_X9_isWithin
theorem dX9_isPlace_0 : decode cX9_isPlace 0 = .ok (.iload_n 0, 1) := by decide +kernel
theorem dX9_isPlace_1 : decode cX9_isPlace 1 = .ok (.bipush (-8), 2) := by decide +kernel
theorem dX9_isPlace_3 : decode cX9_isPlace 3 = .ok (.bipush 31, 2) := by decide +kernel
theorem dX9_isPlace_5 : decode cX9_isPlace 5 = .ok (.invokestatic 147, 3) := by decide +kernel
theorem dX9_isPlace_8 : decode cX9_isPlace 8 = .ok (.ifCond .eq 18, 3) := by decide +kernel
theorem dX9_isPlace_11 : decode cX9_isPlace 11 = .ok (.iload_n 1, 1) := by decide +kernel
theorem dX9_isPlace_12 : decode cX9_isPlace 12 = .ok (.bipush (-8), 2) := by decide +kernel
theorem dX9_isPlace_14 : decode cX9_isPlace 14 = .ok (.bipush 23, 2) := by decide +kernel
theorem dX9_isPlace_16 : decode cX9_isPlace 16 = .ok (.invokestatic 147, 3) := by decide +kernel
theorem dX9_isPlace_19 : decode cX9_isPlace 19 = .ok (.ifCond .eq 7, 3) := by decide +kernel
theorem dX9_isPlace_22 : decode cX9_isPlace 22 = .ok (.iconst 1, 1) := by decide +kernel
theorem dX9_isPlace_23 : decode cX9_isPlace 23 = .ok (.goto 4, 3) := by decide +kernel
theorem dX9_isPlace_26 : decode cX9_isPlace 26 = .ok (.iconst 0, 1) := by decide +kernel
theorem dX9_isPlace_27 : decode cX9_isPlace 27 = .ok (.ireturn, 1) := by decide +kernel
set_option maxRecDepth 20000 in
theorem ggX9_isManner_X9_isWithin : GoodIn wsX9_isManner wsX9_isWithin := goodIn_r _ [4] (by decide +kernel) (by decide +kernel)
set_option maxRecDepth 20000 in
theorem gX9_isManner_X9_isWithin : GoodIn wsX9_isManner (va_wsS RX9 147 yX9_isWithin wsX9_isWithin) := goodIn_app (goodIn_of _ (by decide +kernel)) ggX9_isManner_X9_isWithin
theorem dX9_isManner_0 : decode cX9_isManner 0 = .ok (.iload_n 0, 1) := by decide +kernel
theorem dX9_isManner_1 : decode cX9_isManner 1 = .ok (.iconst 0, 1) := by decide +kernel
theorem dX9_isManner_2 : decode cX9_isManner 2 = .ok (.iconst 3, 1) := by decide +kernel
theorem dX9_isManner_3 : decode cX9_isManner 3 = .ok (.invokestatic 147, 3) := by decide +kernel
theorem dX9_isManner_6 : decode cX9_isManner 6 = .ok (.ifCond .eq 16, 3) := by decide +kernel
theorem dX9_isManner_9 : decode cX9_isManner 9 = .ok (.iload_n 1, 1) := by decide +kernel
theorem dX9_isManner_10 : decode cX9_isManner 10 = .ok (.iconst 0, 1) := by decide +kernel
theorem dX9_isManner_11 : decode cX9_isManner 11 = .ok (.iconst 3, 1) := by decide +kernel
theorem dX9_isManner_12 : decode cX9_isManner 12 = .ok (.invokestatic 147, 3) := by decide +kernel
theorem dX9_isManner_15 : decode cX9_isManner 15 = .ok (.ifCond .eq 7, 3) := by decide +kernel
theorem dX9_isManner_18 : decode cX9_isManner 18 = .ok (.iconst 1, 1) := by decide +kernel
theorem dX9_isManner_19 : decode cX9_isManner 19 = .ok (.goto 4, 3) := by decide +kernel
theorem dX9_isManner_22 : decode cX9_isManner 22 = .ok (.iconst 0, 1) := by decide +kernel
theorem dX9_isManner_23 : decode cX9_isManner 23 = .ok (.ireturn, 1) := by decide +kernel
theorem dX9_isInSet_0 : decode cX9_isInSet 0 = .ok (.iload_n 0, 1) := by decide +kernel
theorem dX9_isInSet_1 : decode cX9_isInSet 1 = .ok (.iload_n 1, 1) := by decide +kernel
theorem dX9_isInSet_2 : decode cX9_isInSet 2 = .ok (.iushr, 1) := by decide +kernel
theorem dX9_isInSet_3 : decode cX9_isInSet 3 = .ok (.iconst 1, 1) := by decide +kernel
theorem dX9_isInSet_4 : decode cX9_isInSet 4 = .ok (.iand, 1) := by decide +kernel
theorem dX9_isInSet_5 : decode cX9_isInSet 5 = .ok (.iconst 1, 1) := by decide +kernel
theorem dX9_isInSet_6 : decode cX9_isInSet 6 = .ok (.if_icmp .ne 7, 3) := by decide +kernel
theorem dX9_isInSet_9 : decode cX9_isInSet 9 = .ok (.iconst 1, 1) := by decide +kernel
theorem dX9_isInSet_10 : decode cX9_isInSet 10 = .ok (.goto 4, 3) := by decide +kernel
theorem dX9_isInSet_13 : decode cX9_isInSet 13 = .ok (.iconst 0, 1) := by decide +kernel
theorem dX9_isInSet_14 : decode cX9_isInSet 14 = .ok (.ireturn, 1) := by decide +kernel
set_option maxRecDepth 20000 in
theorem ggX9_isThing_X7_cell : GoodIn wsX9_isThing wsX7_cell := goodIn_r _ [6, 7, 22] (by decide +kernel) (by decide +kernel)
set_option maxRecDepth 20000 in
theorem gX9_isThing_X7_cell : GoodIn wsX9_isThing (wsV RX9 71 RX7 yX7_cell wsX7_cell) := goodIn_app (goodIn_of _ (by decide +kernel)) ggX9_isThing_X7_cell
set_option maxRecDepth 20000 in
theorem ggX9_isThing_X9_isWithin : GoodIn wsX9_isThing wsX9_isWithin := goodIn_r _ [11] (by decide +kernel) (by decide +kernel)
set_option maxRecDepth 20000 in
theorem gX9_isThing_X9_isWithin : GoodIn wsX9_isThing (va_wsS RX9 147 yX9_isWithin wsX9_isWithin) := goodIn_app (goodIn_of _ (by decide +kernel)) ggX9_isThing_X9_isWithin
theorem dX9_isThing_0 : decode cX9_isThing 0 = .ok (.iload_n 1, 1) := by decide +kernel
theorem dX9_isThing_1 : decode cX9_isThing 1 = .ok (.iconst 0, 1) := by decide +kernel
theorem dX9_isThing_2 : decode cX9_isThing 2 = .ok (.aload_n 0, 1) := by decide +kernel
theorem dX9_isThing_3 : decode cX9_isThing 3 = .ok (.getfield 10, 3) := by decide +kernel
theorem dX9_isThing_6 : decode cX9_isThing 6 = .ok (.iconst 0, 1) := by decide +kernel
theorem dX9_isThing_7 : decode cX9_isThing 7 = .ok (.invokevirtual 71, 3) := by decide +kernel
theorem dX9_isThing_10 : decode cX9_isThing 10 = .ok (.iconst 1, 1) := by decide +kernel
theorem dX9_isThing_11 : decode cX9_isThing 11 = .ok (.isub, 1) := by decide +kernel
theorem dX9_isThing_12 : decode cX9_isThing 12 = .ok (.invokestatic 147, 3) := by decide +kernel
theorem dX9_isThing_15 : decode cX9_isThing 15 = .ok (.ireturn, 1) := by decide +kernel
set_option maxRecDepth 20000 in
theorem ggX9_missingNow_X7_cell : GoodIn wsX9_missingNow wsX7_cell := goodIn_r _ [7, 8, 105] (by decide +kernel) (by decide +kernel)
set_option maxRecDepth 20000 in
theorem gX9_missingNow_X7_cell : GoodIn wsX9_missingNow (wsV RX9 71 RX7 yX7_cell wsX7_cell) := goodIn_app (goodIn_of _ (by decide +kernel)) ggX9_missingNow_X7_cell
set_option maxRecDepth 20000 in
theorem ggX9_missingNow_X8_missing : GoodIn wsX9_missingNow wsX8_missing := goodIn_r _ [13, 14, 15, 16, 17, 18, 19, 20, 21, 22, 23, 4, 5, 6, 7, 8, 24, 25, 26, 27, 28, 29, 30, 31, 32, 33, 34, 35, 36, 37, 38, 39, 40, 41, 42, 43, 44, 45, 46, 47, 48, 49, 50, 51, 52, 53, 54, 55, 56, 57, 58, 59, 60, 61, 62, 63, 64, 65, 66, 67, 68, 69, 70, 71, 72, 73, 74, 75, 76, 77, 78, 79, 80, 81, 82, 83, 84, 85, 86, 87, 88, 89, 90, 91, 92, 93, 94, 106, 107, 108, 109, 105, 110, 111, 112] (by decide +kernel) (by decide +kernel)
set_option maxRecDepth 20000 in
theorem gX9_missingNow_X8_missing : GoodIn wsX9_missingNow (wsV RX9 248 RX8 yX8_missing wsX8_missing) := goodIn_app (goodIn_of _ (by decide +kernel)) ggX9_missingNow_X8_missing
theorem dX9_missingNow_0 : decode cX9_missingNow 0 = .ok (.aload_n 0, 1) := by decide +kernel
theorem dX9_missingNow_1 : decode cX9_missingNow 1 = .ok (.getfield 19, 3) := by decide +kernel
theorem dX9_missingNow_4 : decode cX9_missingNow 4 = .ok (.aload_n 0, 1) := by decide +kernel
theorem dX9_missingNow_5 : decode cX9_missingNow 5 = .ok (.getfield 10, 3) := by decide +kernel
theorem dX9_missingNow_8 : decode cX9_missingNow 8 = .ok (.aload_n 0, 1) := by decide +kernel
theorem dX9_missingNow_9 : decode cX9_missingNow 9 = .ok (.getfield 10, 3) := by decide +kernel
theorem dX9_missingNow_12 : decode cX9_missingNow 12 = .ok (.iconst 2, 1) := by decide +kernel
theorem dX9_missingNow_13 : decode cX9_missingNow 13 = .ok (.invokevirtual 71, 3) := by decide +kernel
theorem dX9_missingNow_16 : decode cX9_missingNow 16 = .ok (.invokevirtual 248, 3) := by decide +kernel
theorem dX9_missingNow_19 : decode cX9_missingNow 19 = .ok (.ireturn, 1) := by decide +kernel
set_option maxRecDepth 20000 in
theorem ggX9_holderOf_X4_assign : GoodIn wsX9_holderOf wsX4_assign := goodIn_r _ [7, 8, 9, 10, 11, 12, 13, 14, 15, 16, 17, 18, 19, 20, 21, 22, 6, 23, 24, 25, 26, 27, 28, 43, 44, 45, 46] (by decide +kernel) (by decide +kernel)
set_option maxRecDepth 20000 in
theorem gX9_holderOf_X4_assign : GoodIn wsX9_holderOf (wsV RX9 86 RX4 yX4_assign wsX4_assign) := goodIn_app (goodIn_of _ (by decide +kernel)) ggX9_holderOf_X4_assign
set_option maxRecDepth 20000 in
theorem ggX9_holderOf_X4_holderOf : GoodIn wsX9_holderOf wsX4_holderOf := goodIn_r _ [32, 9, 43, 44, 45] (by decide +kernel) (by decide +kernel)
set_option maxRecDepth 20000 in
theorem gX9_holderOf_X4_holderOf : GoodIn wsX9_holderOf (wsV RX9 251 RX4 yX4_holderOf wsX4_holderOf) := goodIn_app (goodIn_of _ (by decide +kernel)) ggX9_holderOf_X4_holderOf
theorem dX9_holderOf_0 : decode cX9_holderOf 0 = .ok (.aload_n 0, 1) := by decide +kernel
theorem dX9_holderOf_1 : decode cX9_holderOf 1 = .ok (.getfield 26, 3) := by decide +kernel
theorem dX9_holderOf_4 : decode cX9_holderOf 4 = .ok (.aload_n 0, 1) := by decide +kernel
theorem dX9_holderOf_5 : decode cX9_holderOf 5 = .ok (.getfield 10, 3) := by decide +kernel
theorem dX9_holderOf_8 : decode cX9_holderOf 8 = .ok (.invokevirtual 86, 3) := by decide +kernel
theorem dX9_holderOf_11 : decode cX9_holderOf 11 = .ok (.pop, 1) := by decide +kernel
theorem dX9_holderOf_12 : decode cX9_holderOf 12 = .ok (.aload_n 0, 1) := by decide +kernel
theorem dX9_holderOf_13 : decode cX9_holderOf 13 = .ok (.getfield 26, 3) := by decide +kernel
theorem dX9_holderOf_16 : decode cX9_holderOf 16 = .ok (.iload_n 1, 1) := by decide +kernel
theorem dX9_holderOf_17 : decode cX9_holderOf 17 = .ok (.invokevirtual 251, 3) := by decide +kernel
theorem dX9_holderOf_20 : decode cX9_holderOf 20 = .ok (.ireturn, 1) := by decide +kernel
set_option maxRecDepth 20000 in
theorem ggX9_firstWrong_X0_size : GoodIn wsX9_firstWrong wsX0_size := goodIn_r _ [8, 9, 122, 123, 124, 125] (by decide +kernel) (by decide +kernel)
set_option maxRecDepth 20000 in
theorem gX9_firstWrong_X0_size : GoodIn wsX9_firstWrong (wsV RX9 92 RX0 yX0_size wsX0_size) := goodIn_app (goodIn_of _ (by decide +kernel)) ggX9_firstWrong_X0_size
set_option maxRecDepth 20000 in
theorem ggX9_firstWrong_X0_lineOf : GoodIn wsX9_firstWrong wsX0_lineOf := goodIn_r _ [13, 14, 122, 123, 124, 125] (by decide +kernel) (by decide +kernel)
set_option maxRecDepth 20000 in
theorem gX9_firstWrong_X0_lineOf : GoodIn wsX9_firstWrong (wsV RX9 252 RX0 yX0_lineOf wsX0_lineOf) := goodIn_app (goodIn_of _ (by decide +kernel)) ggX9_firstWrong_X0_lineOf
set_option maxRecDepth 20000 in
theorem ggX9_firstWrong_X8_paintNow : GoodIn wsX9_firstWrong wsX8_paintNow := goodIn_r _ [19, 20, 21, 22, 23, 18, 24, 25, 26, 27, 28, 29, 30, 31, 32, 33, 34, 35, 36, 37, 38, 39, 40, 41, 42, 43, 44, 45, 46, 47, 48, 49, 50, 51, 52, 53, 54, 55, 56, 57, 58, 59, 60, 61, 62, 63, 64, 65, 66, 67, 68, 69, 70, 71, 72, 73, 74, 75, 76, 77, 78, 79, 80, 81, 82, 83, 84, 85, 86, 87, 88, 89, 90, 91, 92, 93, 126, 127, 128, 129, 130, 131, 132, 133] (by decide +kernel) (by decide +kernel)
set_option maxRecDepth 20000 in
theorem gX9_firstWrong_X8_paintNow : GoodIn wsX9_firstWrong (wsV RX9 132 RX8 yX8_paintNow wsX8_paintNow) := goodIn_app (goodIn_of _ (by decide +kernel)) ggX9_firstWrong_X8_paintNow
set_option maxRecDepth 20000 in
theorem ggX9_firstWrong_X0_columnOf : GoodIn wsX9_firstWrong wsX0_columnOf := goodIn_r _ [97, 98, 122, 123, 124, 125] (by decide +kernel) (by decide +kernel)
set_option maxRecDepth 20000 in
theorem gX9_firstWrong_X0_columnOf : GoodIn wsX9_firstWrong (wsV RX9 255 RX0 yX0_columnOf wsX0_columnOf) := goodIn_app (goodIn_of _ (by decide +kernel)) ggX9_firstWrong_X0_columnOf
set_option maxRecDepth 20000 in
theorem ggX9_firstWrong_X6_colourAt : GoodIn wsX9_firstWrong wsX6_colourAt := goodIn_r _ [102, 103, 104, 105, 66, 106, 68, 76, 61, 77, 78, 44, 45, 29, 46, 31, 131, 132, 133, 129] (by decide +kernel) (by decide +kernel)
set_option maxRecDepth 20000 in
theorem gX9_firstWrong_X6_colourAt : GoodIn wsX9_firstWrong (wsV RX9 136 RX6 yX6_colourAt wsX6_colourAt) := goodIn_app (goodIn_of _ (by decide +kernel)) ggX9_firstWrong_X6_colourAt
set_option maxRecDepth 20000 in
theorem ggX9_firstWrong_X0_colourOf : GoodIn wsX9_firstWrong wsX0_colourOf := goodIn_r _ [110, 111, 122, 123, 124, 125] (by decide +kernel) (by decide +kernel)
set_option maxRecDepth 20000 in
theorem gX9_firstWrong_X0_colourOf : GoodIn wsX9_firstWrong (wsV RX9 258 RX0 yX0_colourOf wsX0_colourOf) := goodIn_app (goodIn_of _ (by decide +kernel)) ggX9_firstWrong_X0_colourOf
theorem dX9_firstWrong_0 : decode cX9_firstWrong 0 = .ok (.iconst 0, 1) := by decide +kernel
theorem dX9_firstWrong_1 : decode cX9_firstWrong 1 = .ok (.istore_n 1, 1) := by decide +kernel
theorem dX9_firstWrong_2 : decode cX9_firstWrong 2 = .ok (.iload_n 1, 1) := by decide +kernel
theorem dX9_firstWrong_3 : decode cX9_firstWrong 3 = .ok (.aload_n 0, 1) := by decide +kernel
theorem dX9_firstWrong_4 : decode cX9_firstWrong 4 = .ok (.getfield 47, 3) := by decide +kernel
theorem dX9_firstWrong_7 : decode cX9_firstWrong 7 = .ok (.invokevirtual 92, 3) := by decide +kernel
theorem dX9_firstWrong_10 : decode cX9_firstWrong 10 = .ok (.if_icmp .ge 58, 3) := by decide +kernel
theorem dX9_firstWrong_13 : decode cX9_firstWrong 13 = .ok (.aload_n 0, 1) := by decide +kernel
theorem dX9_firstWrong_14 : decode cX9_firstWrong 14 = .ok (.getfield 19, 3) := by decide +kernel
theorem dX9_firstWrong_17 : decode cX9_firstWrong 17 = .ok (.aload_n 0, 1) := by decide +kernel
theorem dX9_firstWrong_18 : decode cX9_firstWrong 18 = .ok (.getfield 10, 3) := by decide +kernel
theorem dX9_firstWrong_21 : decode cX9_firstWrong 21 = .ok (.aload_n 0, 1) := by decide +kernel
theorem dX9_firstWrong_22 : decode cX9_firstWrong 22 = .ok (.getfield 47, 3) := by decide +kernel
theorem dX9_firstWrong_25 : decode cX9_firstWrong 25 = .ok (.iload_n 1, 1) := by decide +kernel
theorem dX9_firstWrong_26 : decode cX9_firstWrong 26 = .ok (.invokevirtual 252, 3) := by decide +kernel
theorem dX9_firstWrong_29 : decode cX9_firstWrong 29 = .ok (.invokevirtual 132, 3) := by decide +kernel
theorem dX9_firstWrong_32 : decode cX9_firstWrong 32 = .ok (.astore_n 2, 1) := by decide +kernel
theorem dX9_firstWrong_33 : decode cX9_firstWrong 33 = .ok (.aload_n 2, 1) := by decide +kernel
theorem dX9_firstWrong_34 : decode cX9_firstWrong 34 = .ok (.aload_n 0, 1) := by decide +kernel
theorem dX9_firstWrong_35 : decode cX9_firstWrong 35 = .ok (.getfield 10, 3) := by decide +kernel
theorem dX9_firstWrong_38 : decode cX9_firstWrong 38 = .ok (.aload_n 0, 1) := by decide +kernel
theorem dX9_firstWrong_39 : decode cX9_firstWrong 39 = .ok (.getfield 47, 3) := by decide +kernel
theorem dX9_firstWrong_42 : decode cX9_firstWrong 42 = .ok (.iload_n 1, 1) := by decide +kernel
theorem dX9_firstWrong_43 : decode cX9_firstWrong 43 = .ok (.invokevirtual 255, 3) := by decide +kernel
theorem dX9_firstWrong_46 : decode cX9_firstWrong 46 = .ok (.invokevirtual 136, 3) := by decide +kernel
theorem dX9_firstWrong_49 : decode cX9_firstWrong 49 = .ok (.aload_n 0, 1) := by decide +kernel
theorem dX9_firstWrong_50 : decode cX9_firstWrong 50 = .ok (.getfield 47, 3) := by decide +kernel
theorem dX9_firstWrong_53 : decode cX9_firstWrong 53 = .ok (.iload_n 1, 1) := by decide +kernel
theorem dX9_firstWrong_54 : decode cX9_firstWrong 54 = .ok (.invokevirtual 258, 3) := by decide +kernel
theorem dX9_firstWrong_57 : decode cX9_firstWrong 57 = .ok (.if_icmp .eq 5, 3) := by decide +kernel
theorem dX9_firstWrong_60 : decode cX9_firstWrong 60 = .ok (.iload_n 1, 1) := by decide +kernel
theorem dX9_firstWrong_61 : decode cX9_firstWrong 61 = .ok (.ireturn, 1) := by decide +kernel
theorem dX9_firstWrong_62 : decode cX9_firstWrong 62 = .ok (.iinc 1 1, 3) := by decide +kernel
theorem dX9_firstWrong_65 : decode cX9_firstWrong 65 = .ok (.goto (-63), 3) := by decide +kernel
theorem dX9_firstWrong_68 : decode cX9_firstWrong 68 = .ok (.iconst (-1), 1) := by decide +kernel
theorem dX9_firstWrong_69 : decode cX9_firstWrong 69 = .ok (.ireturn, 1) := by decide +kernel
theorem dJ6_bitCount_0f7a4_0 : decode cJ6_bitCount_0f7a4 0 = .ok (.iload_n 0, 1) := by decide +kernel
theorem dJ6_bitCount_0f7a4_1 : decode cJ6_bitCount_0f7a4 1 = .ok (.iload_n 0, 1) := by decide +kernel
theorem dJ6_bitCount_0f7a4_2 : decode cJ6_bitCount_0f7a4 2 = .ok (.iconst 1, 1) := by decide +kernel
theorem dJ6_bitCount_0f7a4_3 : decode cJ6_bitCount_0f7a4 3 = .ok (.iushr, 1) := by decide +kernel
theorem dJ6_bitCount_0f7a4_4 : decode cJ6_bitCount_0f7a4 4 = .ok (.ldc_w 265, 3) := by decide +kernel
theorem dJ6_bitCount_0f7a4_7 : decode cJ6_bitCount_0f7a4 7 = .ok (.iand, 1) := by decide +kernel
theorem dJ6_bitCount_0f7a4_8 : decode cJ6_bitCount_0f7a4 8 = .ok (.isub, 1) := by decide +kernel
theorem dJ6_bitCount_0f7a4_9 : decode cJ6_bitCount_0f7a4 9 = .ok (.istore_n 0, 1) := by decide +kernel
theorem dJ6_bitCount_0f7a4_10 : decode cJ6_bitCount_0f7a4 10 = .ok (.iload_n 0, 1) := by decide +kernel
theorem dJ6_bitCount_0f7a4_11 : decode cJ6_bitCount_0f7a4 11 = .ok (.ldc_w 266, 3) := by decide +kernel
theorem dJ6_bitCount_0f7a4_14 : decode cJ6_bitCount_0f7a4 14 = .ok (.iand, 1) := by decide +kernel
theorem dJ6_bitCount_0f7a4_15 : decode cJ6_bitCount_0f7a4 15 = .ok (.iload_n 0, 1) := by decide +kernel
theorem dJ6_bitCount_0f7a4_16 : decode cJ6_bitCount_0f7a4 16 = .ok (.iconst 2, 1) := by decide +kernel
theorem dJ6_bitCount_0f7a4_17 : decode cJ6_bitCount_0f7a4 17 = .ok (.iushr, 1) := by decide +kernel
theorem dJ6_bitCount_0f7a4_18 : decode cJ6_bitCount_0f7a4 18 = .ok (.ldc_w 266, 3) := by decide +kernel
theorem dJ6_bitCount_0f7a4_21 : decode cJ6_bitCount_0f7a4 21 = .ok (.iand, 1) := by decide +kernel
theorem dJ6_bitCount_0f7a4_22 : decode cJ6_bitCount_0f7a4 22 = .ok (.iadd, 1) := by decide +kernel
theorem dJ6_bitCount_0f7a4_23 : decode cJ6_bitCount_0f7a4 23 = .ok (.istore_n 0, 1) := by decide +kernel
theorem dJ6_bitCount_0f7a4_24 : decode cJ6_bitCount_0f7a4 24 = .ok (.iload_n 0, 1) := by decide +kernel
theorem dJ6_bitCount_0f7a4_25 : decode cJ6_bitCount_0f7a4 25 = .ok (.iload_n 0, 1) := by decide +kernel
theorem dJ6_bitCount_0f7a4_26 : decode cJ6_bitCount_0f7a4 26 = .ok (.iconst 4, 1) := by decide +kernel
theorem dJ6_bitCount_0f7a4_27 : decode cJ6_bitCount_0f7a4 27 = .ok (.iushr, 1) := by decide +kernel
theorem dJ6_bitCount_0f7a4_28 : decode cJ6_bitCount_0f7a4 28 = .ok (.iadd, 1) := by decide +kernel
theorem dJ6_bitCount_0f7a4_29 : decode cJ6_bitCount_0f7a4 29 = .ok (.ldc_w 267, 3) := by decide +kernel
theorem dJ6_bitCount_0f7a4_32 : decode cJ6_bitCount_0f7a4 32 = .ok (.iand, 1) := by decide +kernel
theorem dJ6_bitCount_0f7a4_33 : decode cJ6_bitCount_0f7a4 33 = .ok (.istore_n 0, 1) := by decide +kernel
theorem dJ6_bitCount_0f7a4_34 : decode cJ6_bitCount_0f7a4 34 = .ok (.iload_n 0, 1) := by decide +kernel
theorem dJ6_bitCount_0f7a4_35 : decode cJ6_bitCount_0f7a4 35 = .ok (.iload_n 0, 1) := by decide +kernel
theorem dJ6_bitCount_0f7a4_36 : decode cJ6_bitCount_0f7a4 36 = .ok (.bipush 8, 2) := by decide +kernel
theorem dJ6_bitCount_0f7a4_38 : decode cJ6_bitCount_0f7a4 38 = .ok (.iushr, 1) := by decide +kernel
theorem dJ6_bitCount_0f7a4_39 : decode cJ6_bitCount_0f7a4 39 = .ok (.iadd, 1) := by decide +kernel
theorem dJ6_bitCount_0f7a4_40 : decode cJ6_bitCount_0f7a4 40 = .ok (.istore_n 0, 1) := by decide +kernel
theorem dJ6_bitCount_0f7a4_41 : decode cJ6_bitCount_0f7a4 41 = .ok (.iload_n 0, 1) := by decide +kernel
theorem dJ6_bitCount_0f7a4_42 : decode cJ6_bitCount_0f7a4 42 = .ok (.iload_n 0, 1) := by decide +kernel
theorem dJ6_bitCount_0f7a4_43 : decode cJ6_bitCount_0f7a4 43 = .ok (.bipush 16, 2) := by decide +kernel
theorem dJ6_bitCount_0f7a4_45 : decode cJ6_bitCount_0f7a4 45 = .ok (.iushr, 1) := by decide +kernel
theorem dJ6_bitCount_0f7a4_46 : decode cJ6_bitCount_0f7a4 46 = .ok (.iadd, 1) := by decide +kernel
theorem dJ6_bitCount_0f7a4_47 : decode cJ6_bitCount_0f7a4 47 = .ok (.istore_n 0, 1) := by decide +kernel
theorem dJ6_bitCount_0f7a4_48 : decode cJ6_bitCount_0f7a4 48 = .ok (.iload_n 0, 1) := by decide +kernel
theorem dJ6_bitCount_0f7a4_49 : decode cJ6_bitCount_0f7a4 49 = .ok (.bipush 63, 2) := by decide +kernel
theorem dJ6_bitCount_0f7a4_51 : decode cJ6_bitCount_0f7a4 51 = .ok (.iand, 1) := by decide +kernel
theorem dJ6_bitCount_0f7a4_52 : decode cJ6_bitCount_0f7a4 52 = .ok (.ireturn, 1) := by decide +kernel
theorem dJ9_floorMod_7cf53_0 : decode cJ9_floorMod_7cf53 0 = .ok (.iload_n 0, 1) := by decide +kernel
theorem dJ9_floorMod_7cf53_1 : decode cJ9_floorMod_7cf53 1 = .ok (.iload_n 1, 1) := by decide +kernel
theorem dJ9_floorMod_7cf53_2 : decode cJ9_floorMod_7cf53 2 = .ok (.irem, 1) := by decide +kernel
theorem dJ9_floorMod_7cf53_3 : decode cJ9_floorMod_7cf53 3 = .ok (.istore_n 2, 1) := by decide +kernel
theorem dJ9_floorMod_7cf53_4 : decode cJ9_floorMod_7cf53 4 = .ok (.iload_n 0, 1) := by decide +kernel
theorem dJ9_floorMod_7cf53_5 : decode cJ9_floorMod_7cf53 5 = .ok (.iload_n 1, 1) := by decide +kernel
theorem dJ9_floorMod_7cf53_6 : decode cJ9_floorMod_7cf53 6 = .ok (.ixor, 1) := by decide +kernel
theorem dJ9_floorMod_7cf53_7 : decode cJ9_floorMod_7cf53 7 = .ok (.ifCond .ge 11, 3) := by decide +kernel
theorem dJ9_floorMod_7cf53_10 : decode cJ9_floorMod_7cf53 10 = .ok (.iload_n 2, 1) := by decide +kernel
theorem dJ9_floorMod_7cf53_11 : decode cJ9_floorMod_7cf53 11 = .ok (.ifCond .eq 7, 3) := by decide +kernel
theorem dJ9_floorMod_7cf53_14 : decode cJ9_floorMod_7cf53 14 = .ok (.iload_n 2, 1) := by decide +kernel
theorem dJ9_floorMod_7cf53_15 : decode cJ9_floorMod_7cf53 15 = .ok (.iload_n 1, 1) := by decide +kernel
theorem dJ9_floorMod_7cf53_16 : decode cJ9_floorMod_7cf53 16 = .ok (.iadd, 1) := by decide +kernel
theorem dJ9_floorMod_7cf53_17 : decode cJ9_floorMod_7cf53 17 = .ok (.ireturn, 1) := by decide +kernel
theorem dJ9_floorMod_7cf53_18 : decode cJ9_floorMod_7cf53 18 = .ok (.iload_n 2, 1) := by decide +kernel
theorem dJ9_floorMod_7cf53_19 : decode cJ9_floorMod_7cf53 19 = .ok (.ireturn, 1) := by decide +kernel
theorem dJ9_max_7cf53_0 : decode cJ9_max_7cf53 0 = .ok (.iload_n 0, 1) := by decide +kernel
theorem dJ9_max_7cf53_1 : decode cJ9_max_7cf53 1 = .ok (.iload_n 1, 1) := by decide +kernel
theorem dJ9_max_7cf53_2 : decode cJ9_max_7cf53 2 = .ok (.if_icmp .lt 7, 3) := by decide +kernel
theorem dJ9_max_7cf53_5 : decode cJ9_max_7cf53 5 = .ok (.iload_n 0, 1) := by decide +kernel
theorem dJ9_max_7cf53_6 : decode cJ9_max_7cf53 6 = .ok (.goto 4, 3) := by decide +kernel
theorem dJ9_max_7cf53_9 : decode cJ9_max_7cf53 9 = .ok (.iload_n 1, 1) := by decide +kernel
theorem dJ9_max_7cf53_10 : decode cJ9_max_7cf53 10 = .ok (.ireturn, 1) := by decide +kernel
theorem dJ9_min_7cf53_0 : decode cJ9_min_7cf53 0 = .ok (.iload_n 0, 1) := by decide +kernel
theorem dJ9_min_7cf53_1 : decode cJ9_min_7cf53 1 = .ok (.iload_n 1, 1) := by decide +kernel
theorem dJ9_min_7cf53_2 : decode cJ9_min_7cf53 2 = .ok (.if_icmp .gt 7, 3) := by decide +kernel
theorem dJ9_min_7cf53_5 : decode cJ9_min_7cf53 5 = .ok (.iload_n 0, 1) := by decide +kernel
theorem dJ9_min_7cf53_6 : decode cJ9_min_7cf53 6 = .ok (.goto 4, 3) := by decide +kernel
theorem dJ9_min_7cf53_9 : decode cJ9_min_7cf53 9 = .ok (.iload_n 1, 1) := by decide +kernel
theorem dJ9_min_7cf53_10 : decode cJ9_min_7cf53 10 = .ok (.ireturn, 1) := by decide +kernel
theorem dJ7_fill_53178_0 : decode cJ7_fill_53178 0 = .ok (.iconst 0, 1) := by decide +kernel
theorem dJ7_fill_53178_1 : decode cJ7_fill_53178 1 = .ok (.istore_n 2, 1) := by decide +kernel
theorem dJ7_fill_53178_2 : decode cJ7_fill_53178 2 = .ok (.aload_n 0, 1) := by decide +kernel
theorem dJ7_fill_53178_3 : decode cJ7_fill_53178 3 = .ok (.arraylength, 1) := by decide +kernel
theorem dJ7_fill_53178_4 : decode cJ7_fill_53178 4 = .ok (.istore_n 3, 1) := by decide +kernel
theorem dJ7_fill_53178_5 : decode cJ7_fill_53178 5 = .ok (.iload_n 2, 1) := by decide +kernel
theorem dJ7_fill_53178_6 : decode cJ7_fill_53178 6 = .ok (.iload_n 3, 1) := by decide +kernel
theorem dJ7_fill_53178_7 : decode cJ7_fill_53178 7 = .ok (.if_icmp .ge 13, 3) := by decide +kernel
theorem dJ7_fill_53178_10 : decode cJ7_fill_53178 10 = .ok (.aload_n 0, 1) := by decide +kernel
theorem dJ7_fill_53178_11 : decode cJ7_fill_53178 11 = .ok (.iload_n 2, 1) := by decide +kernel
theorem dJ7_fill_53178_12 : decode cJ7_fill_53178 12 = .ok (.iload_n 1, 1) := by decide +kernel
theorem dJ7_fill_53178_13 : decode cJ7_fill_53178 13 = .ok (.iastore, 1) := by decide +kernel
theorem dJ7_fill_53178_14 : decode cJ7_fill_53178 14 = .ok (.iinc 2 1, 3) := by decide +kernel
theorem dJ7_fill_53178_17 : decode cJ7_fill_53178 17 = .ok (.goto (-12), 3) := by decide +kernel
theorem dJ7_fill_53178_20 : decode cJ7_fill_53178 20 = .ok (.return_, 1) := by decide +kernel
