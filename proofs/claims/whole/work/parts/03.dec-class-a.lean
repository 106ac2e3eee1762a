theorem dX0_init_0 : decode cX0_init 0 = .ok (.aload_n 0, 1) := by decide +kernel
theorem dX0_init_1 : decode cX0_init 1 = .ok (.invokespecial 3, 3) := by decide +kernel
theorem dX0_init_4 : decode cX0_init 4 = .ok (.aload_n 0, 1) := by decide +kernel
theorem dX0_init_5 : decode cX0_init 5 = .ok (.bipush 20, 2) := by decide +kernel
theorem dX0_init_7 : decode cX0_init 7 = .ok (.newarray .int, 2) := by decide +kernel
theorem dX0_init_9 : decode cX0_init 9 = .ok (.putfield 9, 3) := by decide +kernel
theorem dX0_init_12 : decode cX0_init 12 = .ok (.aload_n 0, 1) := by decide +kernel
theorem dX0_init_13 : decode cX0_init 13 = .ok (.bipush 20, 2) := by decide +kernel
theorem dX0_init_15 : decode cX0_init 15 = .ok (.newarray .int, 2) := by decide +kernel
theorem dX0_init_17 : decode cX0_init 17 = .ok (.putfield 15, 3) := by decide +kernel
theorem dX0_init_20 : decode cX0_init 20 = .ok (.aload_n 0, 1) := by decide +kernel
theorem dX0_init_21 : decode cX0_init 21 = .ok (.bipush 20, 2) := by decide +kernel
theorem dX0_init_23 : decode cX0_init 23 = .ok (.newarray .int, 2) := by decide +kernel
theorem dX0_init_25 : decode cX0_init 25 = .ok (.putfield 18, 3) := by decide +kernel
theorem dX0_init_28 : decode cX0_init 28 = .ok (.return_, 1) := by decide +kernel
theorem dX0_size_0 : decode cX0_size 0 = .ok (.aload_n 0, 1) := by decide +kernel
theorem dX0_size_1 : decode cX0_size 1 = .ok (.getfield 21, 3) := by decide +kernel
theorem dX0_size_4 : decode cX0_size 4 = .ok (.ireturn, 1) := by decide +kernel
theorem dX0_isFull_0 : decode cX0_isFull 0 = .ok (.aload_n 0, 1) := by decide +kernel
theorem dX0_isFull_1 : decode cX0_isFull 1 = .ok (.getfield 21, 3) := by decide +kernel
theorem dX0_isFull_4 : decode cX0_isFull 4 = .ok (.bipush 20, 2) := by decide +kernel
theorem dX0_isFull_6 : decode cX0_isFull 6 = .ok (.if_icmp .lt 7, 3) := by decide +kernel
theorem dX0_isFull_9 : decode cX0_isFull 9 = .ok (.iconst 1, 1) := by decide +kernel
theorem dX0_isFull_10 : decode cX0_isFull 10 = .ok (.goto 4, 3) := by decide +kernel
theorem dX0_isFull_13 : decode cX0_isFull 13 = .ok (.iconst 0, 1) := by decide +kernel
theorem dX0_isFull_14 : decode cX0_isFull 14 = .ok (.ireturn, 1) := by decide +kernel
theorem dX0_clear_0 : decode cX0_clear 0 = .ok (.aload_n 0, 1) := by decide +kernel
theorem dX0_clear_1 : decode cX0_clear 1 = .ok (.iconst 0, 1) := by decide +kernel
theorem dX0_clear_2 : decode cX0_clear 2 = .ok (.putfield 21, 3) := by decide +kernel
theorem dX0_clear_5 : decode cX0_clear 5 = .ok (.return_, 1) := by decide +kernel
theorem dX0_add_0 : decode cX0_add 0 = .ok (.aload_n 0, 1) := by decide +kernel
theorem dX0_add_1 : decode cX0_add 1 = .ok (.getfield 9, 3) := by decide +kernel
theorem dX0_add_4 : decode cX0_add 4 = .ok (.aload_n 0, 1) := by decide +kernel
theorem dX0_add_5 : decode cX0_add 5 = .ok (.getfield 21, 3) := by decide +kernel
theorem dX0_add_8 : decode cX0_add 8 = .ok (.iload_n 1, 1) := by decide +kernel
theorem dX0_add_9 : decode cX0_add 9 = .ok (.iastore, 1) := by decide +kernel
theorem dX0_add_10 : decode cX0_add 10 = .ok (.aload_n 0, 1) := by decide +kernel
theorem dX0_add_11 : decode cX0_add 11 = .ok (.getfield 15, 3) := by decide +kernel
theorem dX0_add_14 : decode cX0_add 14 = .ok (.aload_n 0, 1) := by decide +kernel
theorem dX0_add_15 : decode cX0_add 15 = .ok (.getfield 21, 3) := by decide +kernel
theorem dX0_add_18 : decode cX0_add 18 = .ok (.iload_n 2, 1) := by decide +kernel
theorem dX0_add_19 : decode cX0_add 19 = .ok (.iastore, 1) := by decide +kernel
theorem dX0_add_20 : decode cX0_add 20 = .ok (.aload_n 0, 1) := by decide +kernel
theorem dX0_add_21 : decode cX0_add 21 = .ok (.getfield 18, 3) := by decide +kernel
theorem dX0_add_24 : decode cX0_add 24 = .ok (.aload_n 0, 1) := by decide +kernel
theorem dX0_add_25 : decode cX0_add 25 = .ok (.getfield 21, 3) := by decide +kernel
theorem dX0_add_28 : decode cX0_add 28 = .ok (.iload_n 3, 1) := by decide +kernel
theorem dX0_add_29 : decode cX0_add 29 = .ok (.iastore, 1) := by decide +kernel
theorem dX0_add_30 : decode cX0_add 30 = .ok (.aload_n 0, 1) := by decide +kernel
theorem dX0_add_31 : decode cX0_add 31 = .ok (.dup, 1) := by decide +kernel
theorem dX0_add_32 : decode cX0_add 32 = .ok (.getfield 21, 3) := by decide +kernel
theorem dX0_add_35 : decode cX0_add 35 = .ok (.iconst 1, 1) := by decide +kernel
theorem dX0_add_36 : decode cX0_add 36 = .ok (.iadd, 1) := by decide +kernel
theorem dX0_add_37 : decode cX0_add 37 = .ok (.putfield 21, 3) := by decide +kernel
theorem dX0_add_40 : decode cX0_add 40 = .ok (.aload_n 0, 1) := by decide +kernel
theorem dX0_add_41 : decode cX0_add 41 = .ok (.getfield 21, 3) := by decide +kernel
theorem dX0_add_44 : decode cX0_add 44 = .ok (.ireturn, 1) := by decide +kernel
theorem dX0_lineOf_0 : decode cX0_lineOf 0 = .ok (.aload_n 0, 1) := by decide +kernel
theorem dX0_lineOf_1 : decode cX0_lineOf 1 = .ok (.getfield 9, 3) := by decide +kernel
theorem dX0_lineOf_4 : decode cX0_lineOf 4 = .ok (.iload_n 1, 1) := by decide +kernel
theorem dX0_lineOf_5 : decode cX0_lineOf 5 = .ok (.iaload, 1) := by decide +kernel
theorem dX0_lineOf_6 : decode cX0_lineOf 6 = .ok (.ireturn, 1) := by decide +kernel
theorem dX0_columnOf_0 : decode cX0_columnOf 0 = .ok (.aload_n 0, 1) := by decide +kernel
theorem dX0_columnOf_1 : decode cX0_columnOf 1 = .ok (.getfield 15, 3) := by decide +kernel
theorem dX0_columnOf_4 : decode cX0_columnOf 4 = .ok (.iload_n 1, 1) := by decide +kernel
theorem dX0_columnOf_5 : decode cX0_columnOf 5 = .ok (.iaload, 1) := by decide +kernel
theorem dX0_columnOf_6 : decode cX0_columnOf 6 = .ok (.ireturn, 1) := by decide +kernel
theorem dX0_colourOf_0 : decode cX0_colourOf 0 = .ok (.aload_n 0, 1) := by decide +kernel
theorem dX0_colourOf_1 : decode cX0_colourOf 1 = .ok (.getfield 18, 3) := by decide +kernel
theorem dX0_colourOf_4 : decode cX0_colourOf 4 = .ok (.iload_n 1, 1) := by decide +kernel
theorem dX0_colourOf_5 : decode cX0_colourOf 5 = .ok (.iaload, 1) := by decide +kernel
theorem dX0_colourOf_6 : decode cX0_colourOf 6 = .ok (.ireturn, 1) := by decide +kernel
theorem dX1_init_0 : decode cX1_init 0 = .ok (.aload_n 0, 1) := by decide +kernel
theorem dX1_init_1 : decode cX1_init 1 = .ok (.invokespecial 3, 3) := by decide +kernel
theorem dX1_init_4 : decode cX1_init 4 = .ok (.return_, 1) := by decide +kernel
theorem dX1_value_0 : decode cX1_value 0 = .ok (.aload_n 0, 1) := by decide +kernel
theorem dX1_value_1 : decode cX1_value 1 = .ok (.getfield 9, 3) := by decide +kernel
theorem dX1_value_4 : decode cX1_value 4 = .ok (.ireturn, 1) := by decide +kernel
theorem dX1_start_0 : decode cX1_start 0 = .ok (.aload_n 0, 1) := by decide +kernel
theorem dX1_start_1 : decode cX1_start 1 = .ok (.iload_n 1, 1) := by decide +kernel
theorem dX1_start_2 : decode cX1_start 2 = .ok (.putfield 9, 3) := by decide +kernel
theorem dX1_start_5 : decode cX1_start 5 = .ok (.return_, 1) := by decide +kernel
set_option maxRecDepth 20000 in
theorem ggX1_addThing_X1_below : GoodIn wsX1_addThing wsX1_below := goodIn_r _ [5, 6, 7, 8, 9, 10, 21] (by decide +kernel) (by decide +kernel)
set_option maxRecDepth 20000 in
theorem gX1_addThing_X1_below : GoodIn wsX1_addThing (wsV RX1 15 RX1 yX1_below wsX1_below) := goodIn_app (goodIn_of _ (by decide +kernel)) ggX1_addThing_X1_below
set_option maxRecDepth 20000 in
theorem ggX1_addThing_X7_add : GoodIn wsX1_addThing wsX7_add := goodIn_r _ [15, 16, 17, 18, 19, 14, 20, 22] (by decide +kernel) (by decide +kernel)
set_option maxRecDepth 20000 in
theorem gX1_addThing_X7_add : GoodIn wsX1_addThing (wsV RX1 19 RX7 yX7_add wsX7_add) := goodIn_app (goodIn_of _ (by decide +kernel)) ggX1_addThing_X7_add
theorem dX1_addThing_0 : decode cX1_addThing 0 = .ok (.aload_n 0, 1) := by decide +kernel
theorem dX1_addThing_1 : decode cX1_addThing 1 = .ok (.bipush 32, 2) := by decide +kernel
theorem dX1_addThing_3 : decode cX1_addThing 3 = .ok (.invokevirtual 15, 3) := by decide +kernel
theorem dX1_addThing_6 : decode cX1_addThing 6 = .ok (.istore_n 2, 1) := by decide +kernel
theorem dX1_addThing_7 : decode cX1_addThing 7 = .ok (.aload_n 0, 1) := by decide +kernel
theorem dX1_addThing_8 : decode cX1_addThing 8 = .ok (.bipush 24, 2) := by decide +kernel
theorem dX1_addThing_10 : decode cX1_addThing 10 = .ok (.invokevirtual 15, 3) := by decide +kernel
theorem dX1_addThing_13 : decode cX1_addThing 13 = .ok (.istore_n 3, 1) := by decide +kernel
theorem dX1_addThing_14 : decode cX1_addThing 14 = .ok (.aload_n 0, 1) := by decide +kernel
theorem dX1_addThing_15 : decode cX1_addThing 15 = .ok (.iconst 4, 1) := by decide +kernel
theorem dX1_addThing_16 : decode cX1_addThing 16 = .ok (.invokevirtual 15, 3) := by decide +kernel
theorem dX1_addThing_19 : decode cX1_addThing 19 = .ok (.istore 4, 2) := by decide +kernel
theorem dX1_addThing_21 : decode cX1_addThing 21 = .ok (.aload_n 0, 1) := by decide +kernel
theorem dX1_addThing_22 : decode cX1_addThing 22 = .ok (.iconst 4, 1) := by decide +kernel
theorem dX1_addThing_23 : decode cX1_addThing 23 = .ok (.invokevirtual 15, 3) := by decide +kernel
theorem dX1_addThing_26 : decode cX1_addThing 26 = .ok (.istore 5, 2) := by decide +kernel
theorem dX1_addThing_28 : decode cX1_addThing 28 = .ok (.aload_n 0, 1) := by decide +kernel
theorem dX1_addThing_29 : decode cX1_addThing 29 = .ok (.iconst 4, 1) := by decide +kernel
theorem dX1_addThing_30 : decode cX1_addThing 30 = .ok (.invokevirtual 15, 3) := by decide +kernel
theorem dX1_addThing_33 : decode cX1_addThing 33 = .ok (.istore 6, 2) := by decide +kernel
theorem dX1_addThing_35 : decode cX1_addThing 35 = .ok (.aload_n 0, 1) := by decide +kernel
theorem dX1_addThing_36 : decode cX1_addThing 36 = .ok (.bipush 7, 2) := by decide +kernel
theorem dX1_addThing_38 : decode cX1_addThing 38 = .ok (.invokevirtual 15, 3) := by decide +kernel
theorem dX1_addThing_41 : decode cX1_addThing 41 = .ok (.iconst 1, 1) := by decide +kernel
theorem dX1_addThing_42 : decode cX1_addThing 42 = .ok (.iadd, 1) := by decide +kernel
theorem dX1_addThing_43 : decode cX1_addThing 43 = .ok (.istore 7, 2) := by decide +kernel
theorem dX1_addThing_45 : decode cX1_addThing 45 = .ok (.aload_n 1, 1) := by decide +kernel
theorem dX1_addThing_46 : decode cX1_addThing 46 = .ok (.iload_n 2, 1) := by decide +kernel
theorem dX1_addThing_47 : decode cX1_addThing 47 = .ok (.iload_n 3, 1) := by decide +kernel
theorem dX1_addThing_48 : decode cX1_addThing 48 = .ok (.iload 4, 2) := by decide +kernel
theorem dX1_addThing_50 : decode cX1_addThing 50 = .ok (.iload 5, 2) := by decide +kernel
theorem dX1_addThing_52 : decode cX1_addThing 52 = .ok (.iload 6, 2) := by decide +kernel
theorem dX1_addThing_54 : decode cX1_addThing 54 = .ok (.iload 7, 2) := by decide +kernel
theorem dX1_addThing_56 : decode cX1_addThing 56 = .ok (.invokevirtual 19, 3) := by decide +kernel
theorem dX1_addThing_59 : decode cX1_addThing 59 = .ok (.pop, 1) := by decide +kernel
theorem dX1_addThing_60 : decode cX1_addThing 60 = .ok (.return_, 1) := by decide +kernel
theorem dX1_below_0 : decode cX1_below 0 = .ok (.aload_n 0, 1) := by decide +kernel
theorem dX1_below_1 : decode cX1_below 1 = .ok (.aload_n 0, 1) := by decide +kernel
theorem dX1_below_2 : decode cX1_below 2 = .ok (.getfield 9, 3) := by decide +kernel
theorem dX1_below_5 : decode cX1_below 5 = .ok (.i2l, 1) := by decide +kernel
theorem dX1_below_6 : decode cX1_below 6 = .ok (.ldc2_w 25, 3) := by decide +kernel
theorem dX1_below_9 : decode cX1_below 9 = .ok (.lmul, 1) := by decide +kernel
theorem dX1_below_10 : decode cX1_below 10 = .ok (.ldc2_w 27, 3) := by decide +kernel
theorem dX1_below_13 : decode cX1_below 13 = .ok (.ladd, 1) := by decide +kernel
theorem dX1_below_14 : decode cX1_below 14 = .ok (.ldc2_w 29, 3) := by decide +kernel
theorem dX1_below_17 : decode cX1_below 17 = .ok (.lrem, 1) := by decide +kernel
theorem dX1_below_18 : decode cX1_below 18 = .ok (.l2i, 1) := by decide +kernel
theorem dX1_below_19 : decode cX1_below 19 = .ok (.putfield 9, 3) := by decide +kernel
theorem dX1_below_22 : decode cX1_below 22 = .ok (.iload_n 1, 1) := by decide +kernel
theorem dX1_below_23 : decode cX1_below 23 = .ok (.ifCond .le 15, 3) := by decide +kernel
theorem dX1_below_26 : decode cX1_below 26 = .ok (.aload_n 0, 1) := by decide +kernel
theorem dX1_below_27 : decode cX1_below 27 = .ok (.getfield 9, 3) := by decide +kernel
theorem dX1_below_30 : decode cX1_below 30 = .ok (.ldc 31, 2) := by decide +kernel
theorem dX1_below_32 : decode cX1_below 32 = .ok (.idiv, 1) := by decide +kernel
theorem dX1_below_33 : decode cX1_below 33 = .ok (.iload_n 1, 1) := by decide +kernel
theorem dX1_below_34 : decode cX1_below 34 = .ok (.irem, 1) := by decide +kernel
theorem dX1_below_35 : decode cX1_below 35 = .ok (.goto 4, 3) := by decide +kernel
theorem dX1_below_38 : decode cX1_below 38 = .ok (.iconst 0, 1) := by decide +kernel
theorem dX1_below_39 : decode cX1_below 39 = .ok (.ireturn, 1) := by decide +kernel
set_option maxRecDepth 20000 in
theorem ggX2_init_X7_init : GoodIn wsX2_init wsX7_init := goodIn_r _ [16, 17, 2, 3, 12, 18, 23] (by decide +kernel) (by decide +kernel)
set_option maxRecDepth 20000 in
theorem gX2_init_X7_init : GoodIn wsX2_init (wsX7_init) := ggX2_init_X7_init
set_option maxRecDepth 20000 in
theorem ggX2_init_X5_init : GoodIn wsX2_init wsX5_init := goodIn_r _ [20, 21, 2, 3, 12, 22, 27] (by decide +kernel) (by decide +kernel)
set_option maxRecDepth 20000 in
theorem gX2_init_X5_init_n20 : GoodIn wsX2_init (wsX5_init) := ggX2_init_X5_init
theorem dX2_init_0 : decode cX2_init 0 = .ok (.aload_n 0, 1) := by decide +kernel
theorem dX2_init_1 : decode cX2_init 1 = .ok (.invokespecial 3, 3) := by decide +kernel
theorem dX2_init_4 : decode cX2_init 4 = .ok (.aload_n 0, 1) := by decide +kernel
theorem dX2_init_5 : decode cX2_init 5 = .ok (.new 9, 3) := by decide +kernel
theorem dX2_init_8 : decode cX2_init 8 = .ok (.dup, 1) := by decide +kernel
theorem dX2_init_9 : decode cX2_init 9 = .ok (.invokespecial 11, 3) := by decide +kernel
theorem dX2_init_12 : decode cX2_init 12 = .ok (.putfield 12, 3) := by decide +kernel
theorem dX2_init_15 : decode cX2_init 15 = .ok (.aload_n 0, 1) := by decide +kernel
theorem dX2_init_16 : decode cX2_init 16 = .ok (.new 18, 3) := by decide +kernel
theorem dX2_init_19 : decode cX2_init 19 = .ok (.dup, 1) := by decide +kernel
theorem dX2_init_20 : decode cX2_init 20 = .ok (.invokespecial 20, 3) := by decide +kernel
theorem dX2_init_23 : decode cX2_init 23 = .ok (.putfield 21, 3) := by decide +kernel
theorem dX2_init_26 : decode cX2_init 26 = .ok (.aload_n 0, 1) := by decide +kernel
theorem dX2_init_27 : decode cX2_init 27 = .ok (.bipush 12, 2) := by decide +kernel
theorem dX2_init_29 : decode cX2_init 29 = .ok (.newarray .int, 2) := by decide +kernel
theorem dX2_init_31 : decode cX2_init 31 = .ok (.putfield 25, 3) := by decide +kernel
theorem dX2_init_34 : decode cX2_init 34 = .ok (.return_, 1) := by decide +kernel
set_option maxRecDepth 20000 in
theorem ggX2_run_X7_copyFrom : GoodIn wsX2_run wsX7_copyFrom := goodIn_r _ [7, 8, 9, 10, 11, 6, 12, 13, 14, 15, 16, 82] (by decide +kernel) (by decide +kernel)
set_option maxRecDepth 20000 in
theorem gX2_run_X7_copyFrom : GoodIn wsX2_run (wsV RX2 29 RX7 yX7_copyFrom wsX7_copyFrom) := goodIn_app (goodIn_of _ (by decide +kernel)) ggX2_run_X7_copyFrom
set_option maxRecDepth 20000 in
theorem ggX2_run_J7_fill_53178 : GoodIn wsX2_run wsJ7_fill_53178 := goodIn_r _ [20] (by decide +kernel) (by decide +kernel)
set_option maxRecDepth 20000 in
theorem gX2_run_J7_fill_53178 : GoodIn wsX2_run (va_wsS RX2 33 yJ7_fill_53178 wsJ7_fill_53178) := goodIn_app (goodIn_of _ (by decide +kernel)) ggX2_run_J7_fill_53178
set_option maxRecDepth 20000 in
theorem ggX2_run_X2_countFrame : GoodIn wsX2_run wsX2_countFrame := goodIn_r _ [25, 26, 1, 2, 27, 28, 29, 6, 30, 8, 31, 32, 33, 34, 35, 36, 37, 38, 39, 40, 41, 42, 43, 44, 45, 46, 47, 48, 49, 50, 51, 52, 53, 54, 55, 56, 57, 58, 59, 60, 61, 62, 63, 64, 65, 66, 79, 80, 81, 82, 83] (by decide +kernel) (by decide +kernel)
set_option maxRecDepth 20000 in
theorem gX2_run_X2_countFrame : GoodIn wsX2_run (wsV RX2 39 RX2 yX2_countFrame wsX2_countFrame) := goodIn_app (goodIn_of _ (by decide +kernel)) ggX2_run_X2_countFrame
set_option maxRecDepth 20000 in
theorem ggX2_run_X7_goNextFrame : GoodIn wsX2_run wsX7_goNextFrame := goodIn_r _ [70, 8, 58, 43, 44, 6, 45, 71, 72, 73, 74, 47, 48, 49, 75, 76, 77, 78, 82] (by decide +kernel) (by decide +kernel)
set_option maxRecDepth 20000 in
theorem gX2_run_X7_goNextFrame : GoodIn wsX2_run (wsV RX2 42 RX7 yX7_goNextFrame wsX7_goNextFrame) := goodIn_app (goodIn_of _ (by decide +kernel)) ggX2_run_X7_goNextFrame
theorem dX2_run_0 : decode cX2_run 0 = .ok (.aload_n 0, 1) := by decide +kernel
theorem dX2_run_1 : decode cX2_run 1 = .ok (.getfield 12, 3) := by decide +kernel
theorem dX2_run_4 : decode cX2_run 4 = .ok (.aload_n 1, 1) := by decide +kernel
theorem dX2_run_5 : decode cX2_run 5 = .ok (.invokevirtual 29, 3) := by decide +kernel
theorem dX2_run_8 : decode cX2_run 8 = .ok (.aload_n 0, 1) := by decide +kernel
theorem dX2_run_9 : decode cX2_run 9 = .ok (.getfield 25, 3) := by decide +kernel
theorem dX2_run_12 : decode cX2_run 12 = .ok (.iconst 0, 1) := by decide +kernel
theorem dX2_run_13 : decode cX2_run 13 = .ok (.invokestatic 33, 3) := by decide +kernel
theorem dX2_run_16 : decode cX2_run 16 = .ok (.iconst 0, 1) := by decide +kernel
theorem dX2_run_17 : decode cX2_run 17 = .ok (.istore_n 3, 1) := by decide +kernel
theorem dX2_run_18 : decode cX2_run 18 = .ok (.iload_n 3, 1) := by decide +kernel
theorem dX2_run_19 : decode cX2_run 19 = .ok (.iload_n 2, 1) := by decide +kernel
theorem dX2_run_20 : decode cX2_run 20 = .ok (.if_icmp .ge 20, 3) := by decide +kernel
theorem dX2_run_23 : decode cX2_run 23 = .ok (.aload_n 0, 1) := by decide +kernel
theorem dX2_run_24 : decode cX2_run 24 = .ok (.invokevirtual 39, 3) := by decide +kernel
theorem dX2_run_27 : decode cX2_run 27 = .ok (.aload_n 0, 1) := by decide +kernel
theorem dX2_run_28 : decode cX2_run 28 = .ok (.getfield 12, 3) := by decide +kernel
theorem dX2_run_31 : decode cX2_run 31 = .ok (.invokevirtual 42, 3) := by decide +kernel
theorem dX2_run_34 : decode cX2_run 34 = .ok (.iinc 3 1, 3) := by decide +kernel
theorem dX2_run_37 : decode cX2_run 37 = .ok (.goto (-19), 3) := by decide +kernel
theorem dX2_run_40 : decode cX2_run 40 = .ok (.return_, 1) := by decide +kernel
set_option maxRecDepth 20000 in
theorem ggX2_countFrame_X7_cell : GoodIn wsX2_countFrame wsX7_cell := goodIn_r _ [8, 9, 49] (by decide +kernel) (by decide +kernel)
set_option maxRecDepth 20000 in
theorem gX2_countFrame_X7_cell : GoodIn wsX2_countFrame (wsV RX2 45 RX7 yX7_cell wsX7_cell) := goodIn_app (goodIn_of _ (by decide +kernel)) ggX2_countFrame_X7_cell
set_option maxRecDepth 20000 in
theorem ggX2_countFrame_X5_arrange : GoodIn wsX2_countFrame wsX5_arrange := goodIn_r _ [14, 15, 16, 5, 6, 7, 8, 9, 17, 18, 19, 13, 20, 21, 22, 23, 24, 25, 26, 27, 28, 50, 49] (by decide +kernel) (by decide +kernel)
set_option maxRecDepth 20000 in
theorem gX2_countFrame_X5_arrange : GoodIn wsX2_countFrame (wsV RX2 49 RX5 yX5_arrange wsX5_arrange) := goodIn_app (goodIn_of _ (by decide +kernel)) ggX2_countFrame_X5_arrange
set_option maxRecDepth 20000 in
theorem ggX2_countFrame_X7_setOn : GoodIn wsX2_countFrame wsX7_setOn := goodIn_r _ [32, 9, 33, 34, 35, 7, 36, 37, 22, 23, 24, 38, 39, 40, 49] (by decide +kernel) (by decide +kernel)
set_option maxRecDepth 20000 in
theorem gX2_countFrame_X7_setOn : GoodIn wsX2_countFrame (wsV RX2 53 RX7 yX7_setOn wsX7_setOn) := goodIn_app (goodIn_of _ (by decide +kernel)) ggX2_countFrame_X7_setOn
set_option maxRecDepth 20000 in
theorem ggX2_countFrame_X5_chosen : GoodIn wsX2_countFrame wsX5_chosen := goodIn_r _ [44, 15, 16, 5, 6, 7, 8, 9, 45, 34, 35, 36, 37, 22, 23, 24, 38, 39, 40, 50, 49] (by decide +kernel) (by decide +kernel)
set_option maxRecDepth 20000 in
theorem gX2_countFrame_X5_chosen : GoodIn wsX2_countFrame (wsV RX2 56 RX5 yX5_chosen wsX5_chosen) := goodIn_app (goodIn_of _ (by decide +kernel)) ggX2_countFrame_X5_chosen
theorem dX2_countFrame_0 : decode cX2_countFrame 0 = .ok (.aload_n 0, 1) := by decide +kernel
theorem dX2_countFrame_1 : decode cX2_countFrame 1 = .ok (.getfield 21, 3) := by decide +kernel
theorem dX2_countFrame_4 : decode cX2_countFrame 4 = .ok (.aload_n 0, 1) := by decide +kernel
theorem dX2_countFrame_5 : decode cX2_countFrame 5 = .ok (.getfield 12, 3) := by decide +kernel
theorem dX2_countFrame_8 : decode cX2_countFrame 8 = .ok (.aload_n 0, 1) := by decide +kernel
theorem dX2_countFrame_9 : decode cX2_countFrame 9 = .ok (.getfield 12, 3) := by decide +kernel
theorem dX2_countFrame_12 : decode cX2_countFrame 12 = .ok (.iconst 2, 1) := by decide +kernel
theorem dX2_countFrame_13 : decode cX2_countFrame 13 = .ok (.invokevirtual 45, 3) := by decide +kernel
theorem dX2_countFrame_16 : decode cX2_countFrame 16 = .ok (.invokevirtual 49, 3) := by decide +kernel
theorem dX2_countFrame_19 : decode cX2_countFrame 19 = .ok (.iconst 0, 1) := by decide +kernel
theorem dX2_countFrame_20 : decode cX2_countFrame 20 = .ok (.istore_n 1, 1) := by decide +kernel
theorem dX2_countFrame_21 : decode cX2_countFrame 21 = .ok (.iload_n 1, 1) := by decide +kernel
theorem dX2_countFrame_22 : decode cX2_countFrame 22 = .ok (.bipush 24, 2) := by decide +kernel
theorem dX2_countFrame_24 : decode cX2_countFrame 24 = .ok (.if_icmp .ge 61, 3) := by decide +kernel
theorem dX2_countFrame_27 : decode cX2_countFrame 27 = .ok (.aload_n 0, 1) := by decide +kernel
theorem dX2_countFrame_28 : decode cX2_countFrame 28 = .ok (.getfield 12, 3) := by decide +kernel
theorem dX2_countFrame_31 : decode cX2_countFrame 31 = .ok (.iload_n 1, 1) := by decide +kernel
theorem dX2_countFrame_32 : decode cX2_countFrame 32 = .ok (.invokevirtual 53, 3) := by decide +kernel
theorem dX2_countFrame_35 : decode cX2_countFrame 35 = .ok (.aload_n 0, 1) := by decide +kernel
theorem dX2_countFrame_36 : decode cX2_countFrame 36 = .ok (.getfield 21, 3) := by decide +kernel
theorem dX2_countFrame_39 : decode cX2_countFrame 39 = .ok (.aload_n 0, 1) := by decide +kernel
theorem dX2_countFrame_40 : decode cX2_countFrame 40 = .ok (.getfield 12, 3) := by decide +kernel
theorem dX2_countFrame_43 : decode cX2_countFrame 43 = .ok (.iload_n 1, 1) := by decide +kernel
theorem dX2_countFrame_44 : decode cX2_countFrame 44 = .ok (.invokevirtual 56, 3) := by decide +kernel
theorem dX2_countFrame_47 : decode cX2_countFrame 47 = .ok (.iconst (-1), 1) := by decide +kernel
theorem dX2_countFrame_48 : decode cX2_countFrame 48 = .ok (.ixor, 1) := by decide +kernel
theorem dX2_countFrame_49 : decode cX2_countFrame 49 = .ok (.iand, 1) := by decide +kernel
theorem dX2_countFrame_50 : decode cX2_countFrame 50 = .ok (.istore_n 2, 1) := by decide +kernel
theorem dX2_countFrame_51 : decode cX2_countFrame 51 = .ok (.iconst 0, 1) := by decide +kernel
theorem dX2_countFrame_52 : decode cX2_countFrame 52 = .ok (.istore_n 3, 1) := by decide +kernel
theorem dX2_countFrame_53 : decode cX2_countFrame 53 = .ok (.iload_n 3, 1) := by decide +kernel
theorem dX2_countFrame_54 : decode cX2_countFrame 54 = .ok (.bipush 12, 2) := by decide +kernel
theorem dX2_countFrame_56 : decode cX2_countFrame 56 = .ok (.if_icmp .ge 23, 3) := by decide +kernel
theorem dX2_countFrame_59 : decode cX2_countFrame 59 = .ok (.aload_n 0, 1) := by decide +kernel
theorem dX2_countFrame_60 : decode cX2_countFrame 60 = .ok (.getfield 25, 3) := by decide +kernel
theorem dX2_countFrame_63 : decode cX2_countFrame 63 = .ok (.iload_n 3, 1) := by decide +kernel
theorem dX2_countFrame_64 : decode cX2_countFrame 64 = .ok (.dup2, 1) := by decide +kernel
theorem dX2_countFrame_65 : decode cX2_countFrame 65 = .ok (.iaload, 1) := by decide +kernel
theorem dX2_countFrame_66 : decode cX2_countFrame 66 = .ok (.iload_n 2, 1) := by decide +kernel
theorem dX2_countFrame_67 : decode cX2_countFrame 67 = .ok (.iload_n 3, 1) := by decide +kernel
theorem dX2_countFrame_68 : decode cX2_countFrame 68 = .ok (.iushr, 1) := by decide +kernel
theorem dX2_countFrame_69 : decode cX2_countFrame 69 = .ok (.iconst 1, 1) := by decide +kernel
theorem dX2_countFrame_70 : decode cX2_countFrame 70 = .ok (.iand, 1) := by decide +kernel
theorem dX2_countFrame_71 : decode cX2_countFrame 71 = .ok (.iadd, 1) := by decide +kernel
theorem dX2_countFrame_72 : decode cX2_countFrame 72 = .ok (.iastore, 1) := by decide +kernel
theorem dX2_countFrame_73 : decode cX2_countFrame 73 = .ok (.iinc 3 1, 3) := by decide +kernel
theorem dX2_countFrame_76 : decode cX2_countFrame 76 = .ok (.goto (-23), 3) := by decide +kernel
theorem dX2_countFrame_79 : decode cX2_countFrame 79 = .ok (.iinc 1 1, 3) := by decide +kernel
theorem dX2_countFrame_82 : decode cX2_countFrame 82 = .ok (.goto (-61), 3) := by decide +kernel
theorem dX2_countFrame_85 : decode cX2_countFrame 85 = .ok (.return_, 1) := by decide +kernel
theorem dX2_dropsOf_0 : decode cX2_dropsOf 0 = .ok (.aload_n 0, 1) := by decide +kernel
theorem dX2_dropsOf_1 : decode cX2_dropsOf 1 = .ok (.getfield 25, 3) := by decide +kernel
theorem dX2_dropsOf_4 : decode cX2_dropsOf 4 = .ok (.iload_n 1, 1) := by decide +kernel
theorem dX2_dropsOf_5 : decode cX2_dropsOf 5 = .ok (.iaload, 1) := by decide +kernel
theorem dX2_dropsOf_6 : decode cX2_dropsOf 6 = .ok (.ireturn, 1) := by decide +kernel
theorem dX2_mostDropped_0 : decode cX2_mostDropped 0 = .ok (.iconst (-1), 1) := by decide +kernel
theorem dX2_mostDropped_1 : decode cX2_mostDropped 1 = .ok (.istore_n 1, 1) := by decide +kernel
theorem dX2_mostDropped_2 : decode cX2_mostDropped 2 = .ok (.iconst 0, 1) := by decide +kernel
theorem dX2_mostDropped_3 : decode cX2_mostDropped 3 = .ok (.istore_n 2, 1) := by decide +kernel
theorem dX2_mostDropped_4 : decode cX2_mostDropped 4 = .ok (.iconst 0, 1) := by decide +kernel
theorem dX2_mostDropped_5 : decode cX2_mostDropped 5 = .ok (.istore_n 3, 1) := by decide +kernel
theorem dX2_mostDropped_6 : decode cX2_mostDropped 6 = .ok (.iload_n 3, 1) := by decide +kernel
theorem dX2_mostDropped_7 : decode cX2_mostDropped 7 = .ok (.bipush 12, 2) := by decide +kernel
theorem dX2_mostDropped_9 : decode cX2_mostDropped 9 = .ok (.if_icmp .ge 28, 3) := by decide +kernel
theorem dX2_mostDropped_12 : decode cX2_mostDropped 12 = .ok (.aload_n 0, 1) := by decide +kernel
theorem dX2_mostDropped_13 : decode cX2_mostDropped 13 = .ok (.getfield 25, 3) := by decide +kernel
theorem dX2_mostDropped_16 : decode cX2_mostDropped 16 = .ok (.iload_n 3, 1) := by decide +kernel
theorem dX2_mostDropped_17 : decode cX2_mostDropped 17 = .ok (.iaload, 1) := by decide +kernel
theorem dX2_mostDropped_18 : decode cX2_mostDropped 18 = .ok (.iload_n 2, 1) := by decide +kernel
theorem dX2_mostDropped_19 : decode cX2_mostDropped 19 = .ok (.if_icmp .le 12, 3) := by decide +kernel
theorem dX2_mostDropped_22 : decode cX2_mostDropped 22 = .ok (.iload_n 3, 1) := by decide +kernel
theorem dX2_mostDropped_23 : decode cX2_mostDropped 23 = .ok (.istore_n 1, 1) := by decide +kernel
theorem dX2_mostDropped_24 : decode cX2_mostDropped 24 = .ok (.aload_n 0, 1) := by decide +kernel
theorem dX2_mostDropped_25 : decode cX2_mostDropped 25 = .ok (.getfield 25, 3) := by decide +kernel
theorem dX2_mostDropped_28 : decode cX2_mostDropped 28 = .ok (.iload_n 3, 1) := by decide +kernel
theorem dX2_mostDropped_29 : decode cX2_mostDropped 29 = .ok (.iaload, 1) := by decide +kernel
theorem dX2_mostDropped_30 : decode cX2_mostDropped 30 = .ok (.istore_n 2, 1) := by decide +kernel
theorem dX2_mostDropped_31 : decode cX2_mostDropped 31 = .ok (.iinc 3 1, 3) := by decide +kernel
theorem dX2_mostDropped_34 : decode cX2_mostDropped 34 = .ok (.goto (-28), 3) := by decide +kernel
theorem dX2_mostDropped_37 : decode cX2_mostDropped 37 = .ok (.iload_n 1, 1) := by decide +kernel
theorem dX2_mostDropped_38 : decode cX2_mostDropped 38 = .ok (.ireturn, 1) := by decide +kernel
theorem dX3_init_0 : decode cX3_init 0 = .ok (.aload_n 0, 1) := by decide +kernel
theorem dX3_init_1 : decode cX3_init 1 = .ok (.invokespecial 3, 3) := by decide +kernel
theorem dX3_init_4 : decode cX3_init 4 = .ok (.aload_n 0, 1) := by decide +kernel
theorem dX3_init_5 : decode cX3_init 5 = .ok (.bipush 20, 2) := by decide +kernel
theorem dX3_init_7 : decode cX3_init 7 = .ok (.sipush 132, 3) := by decide +kernel
theorem dX3_init_10 : decode cX3_init 10 = .ok (.multianewarray 11 2, 4) := by decide +kernel
theorem dX3_init_14 : decode cX3_init 14 = .ok (.putfield 13, 3) := by decide +kernel
theorem dX3_init_17 : decode cX3_init 17 = .ok (.return_, 1) := by decide +kernel
theorem dX3_size_0 : decode cX3_size 0 = .ok (.aload_n 0, 1) := by decide +kernel
theorem dX3_size_1 : decode cX3_size 1 = .ok (.getfield 18, 3) := by decide +kernel
theorem dX3_size_4 : decode cX3_size 4 = .ok (.ireturn, 1) := by decide +kernel
theorem dX3_clear_0 : decode cX3_clear 0 = .ok (.aload_n 0, 1) := by decide +kernel
theorem dX3_clear_1 : decode cX3_clear 1 = .ok (.iconst 0, 1) := by decide +kernel
theorem dX3_clear_2 : decode cX3_clear 2 = .ok (.putfield 18, 3) := by decide +kernel
theorem dX3_clear_5 : decode cX3_clear 5 = .ok (.return_, 1) := by decide +kernel
set_option maxRecDepth 20000 in
theorem ggX3_remember_X7_saveTo : GoodIn wsX3_remember wsX7_saveTo := goodIn_r _ [12, 13, 14, 15, 16, 17, 21] (by decide +kernel) (by decide +kernel)
set_option maxRecDepth 20000 in
theorem gX3_remember_X7_saveTo : GoodIn wsX3_remember (wsV RX3 25 RX7 yX7_saveTo wsX7_saveTo) := goodIn_app (goodIn_of _ (by decide +kernel)) ggX3_remember_X7_saveTo
theorem dX3_remember_0 : decode cX3_remember 0 = .ok (.aload_n 1, 1) := by decide +kernel
theorem dX3_remember_1 : decode cX3_remember 1 = .ok (.aload_n 0, 1) := by decide +kernel
theorem dX3_remember_2 : decode cX3_remember 2 = .ok (.getfield 13, 3) := by decide +kernel
theorem dX3_remember_5 : decode cX3_remember 5 = .ok (.aload_n 0, 1) := by decide +kernel
theorem dX3_remember_6 : decode cX3_remember 6 = .ok (.getfield 22, 3) := by decide +kernel
theorem dX3_remember_9 : decode cX3_remember 9 = .ok (.aaload, 1) := by decide +kernel
theorem dX3_remember_10 : decode cX3_remember 10 = .ok (.invokevirtual 25, 3) := by decide +kernel
theorem dX3_remember_13 : decode cX3_remember 13 = .ok (.aload_n 0, 1) := by decide +kernel
theorem dX3_remember_14 : decode cX3_remember 14 = .ok (.aload_n 0, 1) := by decide +kernel
theorem dX3_remember_15 : decode cX3_remember 15 = .ok (.getfield 22, 3) := by decide +kernel
theorem dX3_remember_18 : decode cX3_remember 18 = .ok (.iconst 1, 1) := by decide +kernel
theorem dX3_remember_19 : decode cX3_remember 19 = .ok (.iadd, 1) := by decide +kernel
theorem dX3_remember_20 : decode cX3_remember 20 = .ok (.bipush 20, 2) := by decide +kernel
theorem dX3_remember_22 : decode cX3_remember 22 = .ok (.irem, 1) := by decide +kernel
theorem dX3_remember_23 : decode cX3_remember 23 = .ok (.putfield 22, 3) := by decide +kernel
theorem dX3_remember_26 : decode cX3_remember 26 = .ok (.aload_n 0, 1) := by decide +kernel
theorem dX3_remember_27 : decode cX3_remember 27 = .ok (.aload_n 0, 1) := by decide +kernel
theorem dX3_remember_28 : decode cX3_remember 28 = .ok (.getfield 18, 3) := by decide +kernel
theorem dX3_remember_31 : decode cX3_remember 31 = .ok (.iconst 1, 1) := by decide +kernel
theorem dX3_remember_32 : decode cX3_remember 32 = .ok (.iadd, 1) := by decide +kernel
theorem dX3_remember_33 : decode cX3_remember 33 = .ok (.bipush 20, 2) := by decide +kernel
theorem dX3_remember_35 : decode cX3_remember 35 = .ok (.invokestatic 29, 3) := by decide +kernel
theorem dX3_remember_38 : decode cX3_remember 38 = .ok (.putfield 18, 3) := by decide +kernel
theorem dX3_remember_41 : decode cX3_remember 41 = .ok (.return_, 1) := by decide +kernel
set_option maxRecDepth 20000 in
theorem ggX3_bringBack_J9_floorMod_7cf53 : GoodIn wsX3_bringBack wsJ9_floorMod_7cf53 := goodIn_r _ [7] (by decide +kernel) (by decide +kernel)
set_option maxRecDepth 20000 in
theorem gX3_bringBack_J9_floorMod_7cf53 : GoodIn wsX3_bringBack (va_wsS RX3 35 yJ9_floorMod_7cf53 wsJ9_floorMod_7cf53) := goodIn_app (goodIn_of _ (by decide +kernel)) ggX3_bringBack_J9_floorMod_7cf53
set_option maxRecDepth 20000 in
theorem ggX3_bringBack_X7_loadFrom : GoodIn wsX3_bringBack wsX7_loadFrom := goodIn_r _ [12, 13, 14, 15, 16, 17, 21] (by decide +kernel) (by decide +kernel)
set_option maxRecDepth 20000 in
theorem gX3_bringBack_X7_loadFrom : GoodIn wsX3_bringBack (wsV RX3 38 RX7 yX7_loadFrom wsX7_loadFrom) := goodIn_app (goodIn_of _ (by decide +kernel)) ggX3_bringBack_X7_loadFrom
theorem dX3_bringBack_0 : decode cX3_bringBack 0 = .ok (.aload_n 0, 1) := by decide +kernel
theorem dX3_bringBack_1 : decode cX3_bringBack 1 = .ok (.aload_n 0, 1) := by decide +kernel
theorem dX3_bringBack_2 : decode cX3_bringBack 2 = .ok (.getfield 22, 3) := by decide +kernel
theorem dX3_bringBack_5 : decode cX3_bringBack 5 = .ok (.iload_n 2, 1) := by decide +kernel
theorem dX3_bringBack_6 : decode cX3_bringBack 6 = .ok (.isub, 1) := by decide +kernel
theorem dX3_bringBack_7 : decode cX3_bringBack 7 = .ok (.bipush 20, 2) := by decide +kernel
theorem dX3_bringBack_9 : decode cX3_bringBack 9 = .ok (.invokestatic 35, 3) := by decide +kernel
theorem dX3_bringBack_12 : decode cX3_bringBack 12 = .ok (.putfield 22, 3) := by decide +kernel
theorem dX3_bringBack_15 : decode cX3_bringBack 15 = .ok (.aload_n 0, 1) := by decide +kernel
theorem dX3_bringBack_16 : decode cX3_bringBack 16 = .ok (.dup, 1) := by decide +kernel
theorem dX3_bringBack_17 : decode cX3_bringBack 17 = .ok (.getfield 18, 3) := by decide +kernel
theorem dX3_bringBack_20 : decode cX3_bringBack 20 = .ok (.iload_n 2, 1) := by decide +kernel
theorem dX3_bringBack_21 : decode cX3_bringBack 21 = .ok (.isub, 1) := by decide +kernel
theorem dX3_bringBack_22 : decode cX3_bringBack 22 = .ok (.putfield 18, 3) := by decide +kernel
theorem dX3_bringBack_25 : decode cX3_bringBack 25 = .ok (.aload_n 1, 1) := by decide +kernel
theorem dX3_bringBack_26 : decode cX3_bringBack 26 = .ok (.aload_n 0, 1) := by decide +kernel
theorem dX3_bringBack_27 : decode cX3_bringBack 27 = .ok (.getfield 13, 3) := by decide +kernel
theorem dX3_bringBack_30 : decode cX3_bringBack 30 = .ok (.aload_n 0, 1) := by decide +kernel
theorem dX3_bringBack_31 : decode cX3_bringBack 31 = .ok (.getfield 22, 3) := by decide +kernel
theorem dX3_bringBack_34 : decode cX3_bringBack 34 = .ok (.aaload, 1) := by decide +kernel
theorem dX3_bringBack_35 : decode cX3_bringBack 35 = .ok (.invokevirtual 38, 3) := by decide +kernel
theorem dX3_bringBack_38 : decode cX3_bringBack 38 = .ok (.return_, 1) := by decide +kernel
theorem dX4_init_0 : decode cX4_init 0 = .ok (.aload_n 0, 1) := by decide +kernel
theorem dX4_init_1 : decode cX4_init 1 = .ok (.invokespecial 3, 3) := by decide +kernel
theorem dX4_init_4 : decode cX4_init 4 = .ok (.aload_n 0, 1) := by decide +kernel
theorem dX4_init_5 : decode cX4_init 5 = .ok (.bipush 12, 2) := by decide +kernel
theorem dX4_init_7 : decode cX4_init 7 = .ok (.newarray .int, 2) := by decide +kernel
theorem dX4_init_9 : decode cX4_init 9 = .ok (.putfield 9, 3) := by decide +kernel
theorem dX4_init_12 : decode cX4_init 12 = .ok (.aload_n 0, 1) := by decide +kernel
theorem dX4_init_13 : decode cX4_init 13 = .ok (.bipush 12, 2) := by decide +kernel
theorem dX4_init_15 : decode cX4_init 15 = .ok (.newarray .int, 2) := by decide +kernel
theorem dX4_init_17 : decode cX4_init 17 = .ok (.putfield 15, 3) := by decide +kernel
theorem dX4_init_20 : decode cX4_init 20 = .ok (.return_, 1) := by decide +kernel
set_option maxRecDepth 20000 in
theorem ggX4_assign_X7_cell : GoodIn wsX4_assign wsX7_cell := goodIn_r _ [7, 8, 26] (by decide +kernel) (by decide +kernel)
set_option maxRecDepth 20000 in
theorem gX4_assign_X7_cell : GoodIn wsX4_assign (wsV RX4 24 RX7 yX7_cell wsX7_cell) := goodIn_app (goodIn_of _ (by decide +kernel)) ggX4_assign_X7_cell
set_option maxRecDepth 20000 in
theorem ggX4_assign_X7_field : GoodIn wsX4_assign wsX7_field := goodIn_r _ [12, 8, 26] (by decide +kernel) (by decide +kernel)
set_option maxRecDepth 20000 in
theorem gX4_assign_X7_field : GoodIn wsX4_assign (wsV RX4 28 RX7 yX7_field wsX7_field) := goodIn_app (goodIn_of _ (by decide +kernel)) ggX4_assign_X7_field
set_option maxRecDepth 20000 in
theorem ggX4_assign_X4_occupy : GoodIn wsX4_assign wsX4_occupy := goodIn_r _ [17, 1, 18, 19, 20, 21, 22, 23, 24, 25] (by decide +kernel) (by decide +kernel)
set_option maxRecDepth 20000 in
theorem gX4_assign_X4_occupy : GoodIn wsX4_assign (wsV RX4 32 RX4 yX4_occupy wsX4_occupy) := goodIn_app (goodIn_of _ (by decide +kernel)) ggX4_assign_X4_occupy
theorem dX4_assign_0 : decode cX4_assign 0 = .ok (.aload_n 0, 1) := by decide +kernel
theorem dX4_assign_1 : decode cX4_assign 1 = .ok (.iconst 0, 1) := by decide +kernel
theorem dX4_assign_2 : decode cX4_assign 2 = .ok (.putfield 18, 3) := by decide +kernel
theorem dX4_assign_5 : decode cX4_assign 5 = .ok (.bipush (-8), 2) := by decide +kernel
theorem dX4_assign_7 : decode cX4_assign 7 = .ok (.istore_n 2, 1) := by decide +kernel
theorem dX4_assign_8 : decode cX4_assign 8 = .ok (.iload_n 2, 1) := by decide +kernel
theorem dX4_assign_9 : decode cX4_assign 9 = .ok (.bipush 24, 2) := by decide +kernel
theorem dX4_assign_11 : decode cX4_assign 11 = .ok (.if_icmp .ge 47, 3) := by decide +kernel
theorem dX4_assign_14 : decode cX4_assign 14 = .ok (.iconst 0, 1) := by decide +kernel
theorem dX4_assign_15 : decode cX4_assign 15 = .ok (.istore_n 3, 1) := by decide +kernel
theorem dX4_assign_16 : decode cX4_assign 16 = .ok (.iload_n 3, 1) := by decide +kernel
theorem dX4_assign_17 : decode cX4_assign 17 = .ok (.aload_n 1, 1) := by decide +kernel
theorem dX4_assign_18 : decode cX4_assign 18 = .ok (.iconst 0, 1) := by decide +kernel
theorem dX4_assign_19 : decode cX4_assign 19 = .ok (.invokevirtual 24, 3) := by decide +kernel
theorem dX4_assign_22 : decode cX4_assign 22 = .ok (.if_icmp .ge 30, 3) := by decide +kernel
theorem dX4_assign_25 : decode cX4_assign 25 = .ok (.aload_n 1, 1) := by decide +kernel
theorem dX4_assign_26 : decode cX4_assign 26 = .ok (.iload_n 3, 1) := by decide +kernel
theorem dX4_assign_27 : decode cX4_assign 27 = .ok (.iconst 1, 1) := by decide +kernel
theorem dX4_assign_28 : decode cX4_assign 28 = .ok (.invokevirtual 28, 3) := by decide +kernel
theorem dX4_assign_31 : decode cX4_assign 31 = .ok (.iload_n 2, 1) := by decide +kernel
theorem dX4_assign_32 : decode cX4_assign 32 = .ok (.if_icmp .ne 14, 3) := by decide +kernel
theorem dX4_assign_35 : decode cX4_assign 35 = .ok (.aload_n 0, 1) := by decide +kernel
theorem dX4_assign_36 : decode cX4_assign 36 = .ok (.getfield 9, 3) := by decide +kernel
theorem dX4_assign_39 : decode cX4_assign 39 = .ok (.iload_n 3, 1) := by decide +kernel
theorem dX4_assign_40 : decode cX4_assign 40 = .ok (.aload_n 0, 1) := by decide +kernel
theorem dX4_assign_41 : decode cX4_assign 41 = .ok (.iload_n 2, 1) := by decide +kernel
theorem dX4_assign_42 : decode cX4_assign 42 = .ok (.invokevirtual 32, 3) := by decide +kernel
theorem dX4_assign_45 : decode cX4_assign 45 = .ok (.iastore, 1) := by decide +kernel
theorem dX4_assign_46 : decode cX4_assign 46 = .ok (.iinc 3 1, 3) := by decide +kernel
theorem dX4_assign_49 : decode cX4_assign 49 = .ok (.goto (-33), 3) := by decide +kernel
theorem dX4_assign_52 : decode cX4_assign 52 = .ok (.iinc 2 1, 3) := by decide +kernel
theorem dX4_assign_55 : decode cX4_assign 55 = .ok (.goto (-47), 3) := by decide +kernel
theorem dX4_assign_58 : decode cX4_assign 58 = .ok (.aload_n 0, 1) := by decide +kernel
theorem dX4_assign_59 : decode cX4_assign 59 = .ok (.getfield 18, 3) := by decide +kernel
theorem dX4_assign_62 : decode cX4_assign 62 = .ok (.ireturn, 1) := by decide +kernel
theorem dX4_occupy_0 : decode cX4_occupy 0 = .ok (.iconst 0, 1) := by decide +kernel
theorem dX4_occupy_1 : decode cX4_occupy 1 = .ok (.istore_n 2, 1) := by decide +kernel
theorem dX4_occupy_2 : decode cX4_occupy 2 = .ok (.iload_n 2, 1) := by decide +kernel
theorem dX4_occupy_3 : decode cX4_occupy 3 = .ok (.aload_n 0, 1) := by decide +kernel
theorem dX4_occupy_4 : decode cX4_occupy 4 = .ok (.getfield 18, 3) := by decide +kernel
theorem dX4_occupy_7 : decode cX4_occupy 7 = .ok (.if_icmp .ge 19, 3) := by decide +kernel
theorem dX4_occupy_10 : decode cX4_occupy 10 = .ok (.aload_n 0, 1) := by decide +kernel
theorem dX4_occupy_11 : decode cX4_occupy 11 = .ok (.getfield 15, 3) := by decide +kernel
theorem dX4_occupy_14 : decode cX4_occupy 14 = .ok (.iload_n 2, 1) := by decide +kernel
theorem dX4_occupy_15 : decode cX4_occupy 15 = .ok (.iaload, 1) := by decide +kernel
theorem dX4_occupy_16 : decode cX4_occupy 16 = .ok (.iload_n 1, 1) := by decide +kernel
theorem dX4_occupy_17 : decode cX4_occupy 17 = .ok (.if_icmp .le 9, 3) := by decide +kernel
theorem dX4_occupy_20 : decode cX4_occupy 20 = .ok (.iinc 2 1, 3) := by decide +kernel
theorem dX4_occupy_23 : decode cX4_occupy 23 = .ok (.goto (-21), 3) := by decide +kernel
theorem dX4_occupy_26 : decode cX4_occupy 26 = .ok (.iload_n 2, 1) := by decide +kernel
theorem dX4_occupy_27 : decode cX4_occupy 27 = .ok (.bipush 12, 2) := by decide +kernel
theorem dX4_occupy_29 : decode cX4_occupy 29 = .ok (.if_icmp .ge 27, 3) := by decide +kernel
theorem dX4_occupy_32 : decode cX4_occupy 32 = .ok (.aload_n 0, 1) := by decide +kernel
theorem dX4_occupy_33 : decode cX4_occupy 33 = .ok (.getfield 15, 3) := by decide +kernel
theorem dX4_occupy_36 : decode cX4_occupy 36 = .ok (.iload_n 2, 1) := by decide +kernel
theorem dX4_occupy_37 : decode cX4_occupy 37 = .ok (.iload_n 1, 1) := by decide +kernel
theorem dX4_occupy_38 : decode cX4_occupy 38 = .ok (.bipush 8, 2) := by decide +kernel
theorem dX4_occupy_40 : decode cX4_occupy 40 = .ok (.iadd, 1) := by decide +kernel
theorem dX4_occupy_41 : decode cX4_occupy 41 = .ok (.iastore, 1) := by decide +kernel
theorem dX4_occupy_42 : decode cX4_occupy 42 = .ok (.aload_n 0, 1) := by decide +kernel
theorem dX4_occupy_43 : decode cX4_occupy 43 = .ok (.aload_n 0, 1) := by decide +kernel
theorem dX4_occupy_44 : decode cX4_occupy 44 = .ok (.getfield 18, 3) := by decide +kernel
theorem dX4_occupy_47 : decode cX4_occupy 47 = .ok (.iload_n 2, 1) := by decide +kernel
theorem dX4_occupy_48 : decode cX4_occupy 48 = .ok (.iconst 1, 1) := by decide +kernel
theorem dX4_occupy_49 : decode cX4_occupy 49 = .ok (.iadd, 1) := by decide +kernel
theorem dX4_occupy_50 : decode cX4_occupy 50 = .ok (.invokestatic 35, 3) := by decide +kernel
theorem dX4_occupy_53 : decode cX4_occupy 53 = .ok (.putfield 18, 3) := by decide +kernel
theorem dX4_occupy_56 : decode cX4_occupy 56 = .ok (.iload_n 2, 1) := by decide +kernel
theorem dX4_occupy_57 : decode cX4_occupy 57 = .ok (.ireturn, 1) := by decide +kernel
theorem dX4_holderOf_0 : decode cX4_holderOf 0 = .ok (.aload_n 0, 1) := by decide +kernel
theorem dX4_holderOf_1 : decode cX4_holderOf 1 = .ok (.getfield 9, 3) := by decide +kernel
theorem dX4_holderOf_4 : decode cX4_holderOf 4 = .ok (.iload_n 1, 1) := by decide +kernel
theorem dX4_holderOf_5 : decode cX4_holderOf 5 = .ok (.iaload, 1) := by decide +kernel
theorem dX4_holderOf_6 : decode cX4_holderOf 6 = .ok (.ireturn, 1) := by decide +kernel
theorem dX5_init_0 : decode cX5_init 0 = .ok (.aload_n 0, 1) := by decide +kernel
theorem dX5_init_1 : decode cX5_init 1 = .ok (.invokespecial 3, 3) := by decide +kernel
theorem dX5_init_4 : decode cX5_init 4 = .ok (.aload_n 0, 1) := by decide +kernel
theorem dX5_init_5 : decode cX5_init 5 = .ok (.bipush 12, 2) := by decide +kernel
theorem dX5_init_7 : decode cX5_init 7 = .ok (.newarray .int, 2) := by decide +kernel
theorem dX5_init_9 : decode cX5_init 9 = .ok (.putfield 9, 3) := by decide +kernel
theorem dX5_init_12 : decode cX5_init 12 = .ok (.return_, 1) := by decide +kernel
set_option maxRecDepth 20000 in
theorem ggX5_arrange_X7_cell : GoodIn wsX5_arrange wsX7_cell := goodIn_r _ [6, 7, 22] (by decide +kernel) (by decide +kernel)
set_option maxRecDepth 20000 in
theorem gX5_arrange_X7_cell : GoodIn wsX5_arrange (wsV RX5 17 RX7 yX7_cell wsX7_cell) := goodIn_app (goodIn_of _ (by decide +kernel)) ggX5_arrange_X7_cell
set_option maxRecDepth 20000 in
theorem ggX5_arrange_X5_arrangeByLevel : GoodIn wsX5_arrange wsX5_arrangeByLevel := goodIn_r _ [12, 1, 13, 14, 15, 5, 16, 7, 21, 22] (by decide +kernel) (by decide +kernel)
set_option maxRecDepth 20000 in
theorem gX5_arrange_X5_arrangeByLevel : GoodIn wsX5_arrange (wsV RX5 21 RX5 yX5_arrangeByLevel wsX5_arrangeByLevel) := goodIn_app (goodIn_of _ (by decide +kernel)) ggX5_arrange_X5_arrangeByLevel
set_option maxRecDepth 20000 in
theorem ggX5_arrange_J9_floorMod_7cf53 : GoodIn wsX5_arrange wsJ9_floorMod_7cf53 := goodIn_r _ [20] (by decide +kernel) (by decide +kernel)
set_option maxRecDepth 20000 in
theorem gX5_arrange_J9_floorMod_7cf53 : GoodIn wsX5_arrange (va_wsS RX5 25 yJ9_floorMod_7cf53 wsJ9_floorMod_7cf53) := goodIn_app (goodIn_of _ (by decide +kernel)) ggX5_arrange_J9_floorMod_7cf53
theorem dX5_arrange_0 : decode cX5_arrange 0 = .ok (.aload_n 1, 1) := by decide +kernel
theorem dX5_arrange_1 : decode cX5_arrange 1 = .ok (.iconst 0, 1) := by decide +kernel
theorem dX5_arrange_2 : decode cX5_arrange 2 = .ok (.invokevirtual 17, 3) := by decide +kernel
theorem dX5_arrange_5 : decode cX5_arrange 5 = .ok (.istore_n 3, 1) := by decide +kernel
theorem dX5_arrange_6 : decode cX5_arrange 6 = .ok (.iload_n 2, 1) := by decide +kernel
theorem dX5_arrange_7 : decode cX5_arrange 7 = .ok (.iconst 3, 1) := by decide +kernel
theorem dX5_arrange_8 : decode cX5_arrange 8 = .ok (.if_icmp .ne 10, 3) := by decide +kernel
theorem dX5_arrange_11 : decode cX5_arrange 11 = .ok (.aload_n 0, 1) := by decide +kernel
theorem dX5_arrange_12 : decode cX5_arrange 12 = .ok (.aload_n 1, 1) := by decide +kernel
theorem dX5_arrange_13 : decode cX5_arrange 13 = .ok (.iload_n 3, 1) := by decide +kernel
theorem dX5_arrange_14 : decode cX5_arrange 14 = .ok (.invokevirtual 21, 3) := by decide +kernel
theorem dX5_arrange_17 : decode cX5_arrange 17 = .ok (.return_, 1) := by decide +kernel
theorem dX5_arrange_18 : decode cX5_arrange 18 = .ok (.iload_n 2, 1) := by decide +kernel
theorem dX5_arrange_19 : decode cX5_arrange 19 = .ok (.iconst 2, 1) := by decide +kernel
theorem dX5_arrange_20 : decode cX5_arrange 20 = .ok (.if_icmp .ne 19, 3) := by decide +kernel
theorem dX5_arrange_23 : decode cX5_arrange 23 = .ok (.iload_n 3, 1) := by decide +kernel
theorem dX5_arrange_24 : decode cX5_arrange 24 = .ok (.ifCond .le 15, 3) := by decide +kernel
theorem dX5_arrange_27 : decode cX5_arrange 27 = .ok (.aload_n 1, 1) := by decide +kernel
theorem dX5_arrange_28 : decode cX5_arrange 28 = .ok (.iconst 3, 1) := by decide +kernel
theorem dX5_arrange_29 : decode cX5_arrange 29 = .ok (.invokevirtual 17, 3) := by decide +kernel
theorem dX5_arrange_32 : decode cX5_arrange 32 = .ok (.iload_n 3, 1) := by decide +kernel
theorem dX5_arrange_33 : decode cX5_arrange 33 = .ok (.invokestatic 25, 3) := by decide +kernel
theorem dX5_arrange_36 : decode cX5_arrange 36 = .ok (.goto 4, 3) := by decide +kernel
theorem dX5_arrange_39 : decode cX5_arrange 39 = .ok (.iconst 0, 1) := by decide +kernel
theorem dX5_arrange_40 : decode cX5_arrange 40 = .ok (.istore 4, 2) := by decide +kernel
theorem dX5_arrange_42 : decode cX5_arrange 42 = .ok (.iconst 0, 1) := by decide +kernel
theorem dX5_arrange_43 : decode cX5_arrange 43 = .ok (.istore 5, 2) := by decide +kernel
theorem dX5_arrange_45 : decode cX5_arrange 45 = .ok (.iload 5, 2) := by decide +kernel
theorem dX5_arrange_47 : decode cX5_arrange 47 = .ok (.iload_n 3, 1) := by decide +kernel
theorem dX5_arrange_48 : decode cX5_arrange 48 = .ok (.if_icmp .ge 58, 3) := by decide +kernel
theorem dX5_arrange_51 : decode cX5_arrange 51 = .ok (.iload 4, 2) := by decide +kernel
theorem dX5_arrange_53 : decode cX5_arrange 53 = .ok (.iload 5, 2) := by decide +kernel
theorem dX5_arrange_55 : decode cX5_arrange 55 = .ok (.iadd, 1) := by decide +kernel
theorem dX5_arrange_56 : decode cX5_arrange 56 = .ok (.iload_n 3, 1) := by decide +kernel
theorem dX5_arrange_57 : decode cX5_arrange 57 = .ok (.if_icmp .ge 11, 3) := by decide +kernel
theorem dX5_arrange_60 : decode cX5_arrange 60 = .ok (.iload 4, 2) := by decide +kernel
theorem dX5_arrange_62 : decode cX5_arrange 62 = .ok (.iload 5, 2) := by decide +kernel
theorem dX5_arrange_64 : decode cX5_arrange 64 = .ok (.iadd, 1) := by decide +kernel
theorem dX5_arrange_65 : decode cX5_arrange 65 = .ok (.goto 10, 3) := by decide +kernel
theorem dX5_arrange_68 : decode cX5_arrange 68 = .ok (.iload 4, 2) := by decide +kernel
theorem dX5_arrange_70 : decode cX5_arrange 70 = .ok (.iload 5, 2) := by decide +kernel
theorem dX5_arrange_72 : decode cX5_arrange 72 = .ok (.iadd, 1) := by decide +kernel
theorem dX5_arrange_73 : decode cX5_arrange 73 = .ok (.iload_n 3, 1) := by decide +kernel
theorem dX5_arrange_74 : decode cX5_arrange 74 = .ok (.isub, 1) := by decide +kernel
theorem dX5_arrange_75 : decode cX5_arrange 75 = .ok (.istore 6, 2) := by decide +kernel
theorem dX5_arrange_77 : decode cX5_arrange 77 = .ok (.aload_n 0, 1) := by decide +kernel
theorem dX5_arrange_78 : decode cX5_arrange 78 = .ok (.getfield 9, 3) := by decide +kernel
theorem dX5_arrange_81 : decode cX5_arrange 81 = .ok (.iload 5, 2) := by decide +kernel
theorem dX5_arrange_83 : decode cX5_arrange 83 = .ok (.iload_n 2, 1) := by decide +kernel
theorem dX5_arrange_84 : decode cX5_arrange 84 = .ok (.iconst 1, 1) := by decide +kernel
theorem dX5_arrange_85 : decode cX5_arrange 85 = .ok (.if_icmp .ne 12, 3) := by decide +kernel
theorem dX5_arrange_88 : decode cX5_arrange 88 = .ok (.iload_n 3, 1) := by decide +kernel
theorem dX5_arrange_89 : decode cX5_arrange 89 = .ok (.iconst 1, 1) := by decide +kernel
theorem dX5_arrange_90 : decode cX5_arrange 90 = .ok (.isub, 1) := by decide +kernel
theorem dX5_arrange_91 : decode cX5_arrange 91 = .ok (.iload 5, 2) := by decide +kernel
theorem dX5_arrange_93 : decode cX5_arrange 93 = .ok (.isub, 1) := by decide +kernel
theorem dX5_arrange_94 : decode cX5_arrange 94 = .ok (.goto 5, 3) := by decide +kernel
theorem dX5_arrange_97 : decode cX5_arrange 97 = .ok (.iload 6, 2) := by decide +kernel
theorem dX5_arrange_99 : decode cX5_arrange 99 = .ok (.iastore, 1) := by decide +kernel
theorem dX5_arrange_100 : decode cX5_arrange 100 = .ok (.iinc 5 1, 3) := by decide +kernel
theorem dX5_arrange_103 : decode cX5_arrange 103 = .ok (.goto (-58), 3) := by decide +kernel
theorem dX5_arrange_106 : decode cX5_arrange 106 = .ok (.return_, 1) := by decide +kernel
set_option maxRecDepth 20000 in
theorem ggX5_arrangeByLevel_X7_field : GoodIn wsX5_arrangeByLevel wsX7_field := goodIn_r _ [6, 7, 9] (by decide +kernel) (by decide +kernel)
set_option maxRecDepth 20000 in
theorem gX5_arrangeByLevel_X7_field : GoodIn wsX5_arrangeByLevel (wsV RX5 31 RX7 yX7_field wsX7_field) := goodIn_app (goodIn_of _ (by decide +kernel)) ggX5_arrangeByLevel_X7_field
theorem dX5_arrangeByLevel_0 : decode cX5_arrangeByLevel 0 = .ok (.iconst 0, 1) := by decide +kernel
theorem dX5_arrangeByLevel_1 : decode cX5_arrangeByLevel 1 = .ok (.istore_n 3, 1) := by decide +kernel
theorem dX5_arrangeByLevel_2 : decode cX5_arrangeByLevel 2 = .ok (.iconst 0, 1) := by decide +kernel
theorem dX5_arrangeByLevel_3 : decode cX5_arrangeByLevel 3 = .ok (.istore 4, 2) := by decide +kernel
theorem dX5_arrangeByLevel_5 : decode cX5_arrangeByLevel 5 = .ok (.iload 4, 2) := by decide +kernel
theorem dX5_arrangeByLevel_7 : decode cX5_arrangeByLevel 7 = .ok (.iconst 4, 1) := by decide +kernel
theorem dX5_arrangeByLevel_8 : decode cX5_arrangeByLevel 8 = .ok (.if_icmp .ge 53, 3) := by decide +kernel
theorem dX5_arrangeByLevel_11 : decode cX5_arrangeByLevel 11 = .ok (.iconst 0, 1) := by decide +kernel
theorem dX5_arrangeByLevel_12 : decode cX5_arrangeByLevel 12 = .ok (.istore 5, 2) := by decide +kernel
theorem dX5_arrangeByLevel_14 : decode cX5_arrangeByLevel 14 = .ok (.iload 5, 2) := by decide +kernel
theorem dX5_arrangeByLevel_16 : decode cX5_arrangeByLevel 16 = .ok (.iload_n 2, 1) := by decide +kernel
theorem dX5_arrangeByLevel_17 : decode cX5_arrangeByLevel 17 = .ok (.if_icmp .ge 38, 3) := by decide +kernel
theorem dX5_arrangeByLevel_20 : decode cX5_arrangeByLevel 20 = .ok (.aload_n 1, 1) := by decide +kernel
theorem dX5_arrangeByLevel_21 : decode cX5_arrangeByLevel 21 = .ok (.iload 5, 2) := by decide +kernel
theorem dX5_arrangeByLevel_23 : decode cX5_arrangeByLevel 23 = .ok (.iconst 4, 1) := by decide +kernel
theorem dX5_arrangeByLevel_24 : decode cX5_arrangeByLevel 24 = .ok (.invokevirtual 31, 3) := by decide +kernel
theorem dX5_arrangeByLevel_27 : decode cX5_arrangeByLevel 27 = .ok (.iload 4, 2) := by decide +kernel
theorem dX5_arrangeByLevel_29 : decode cX5_arrangeByLevel 29 = .ok (.if_icmp .ne 20, 3) := by decide +kernel
theorem dX5_arrangeByLevel_32 : decode cX5_arrangeByLevel 32 = .ok (.iload_n 3, 1) := by decide +kernel
theorem dX5_arrangeByLevel_33 : decode cX5_arrangeByLevel 33 = .ok (.bipush 12, 2) := by decide +kernel
theorem dX5_arrangeByLevel_35 : decode cX5_arrangeByLevel 35 = .ok (.if_icmp .ge 14, 3) := by decide +kernel
theorem dX5_arrangeByLevel_38 : decode cX5_arrangeByLevel 38 = .ok (.aload_n 0, 1) := by decide +kernel
theorem dX5_arrangeByLevel_39 : decode cX5_arrangeByLevel 39 = .ok (.getfield 9, 3) := by decide +kernel
theorem dX5_arrangeByLevel_42 : decode cX5_arrangeByLevel 42 = .ok (.iload_n 3, 1) := by decide +kernel
theorem dX5_arrangeByLevel_43 : decode cX5_arrangeByLevel 43 = .ok (.iload 5, 2) := by decide +kernel
theorem dX5_arrangeByLevel_45 : decode cX5_arrangeByLevel 45 = .ok (.iastore, 1) := by decide +kernel
theorem dX5_arrangeByLevel_46 : decode cX5_arrangeByLevel 46 = .ok (.iinc 3 1, 3) := by decide +kernel
theorem dX5_arrangeByLevel_49 : decode cX5_arrangeByLevel 49 = .ok (.iinc 5 1, 3) := by decide +kernel
theorem dX5_arrangeByLevel_52 : decode cX5_arrangeByLevel 52 = .ok (.goto (-38), 3) := by decide +kernel
theorem dX5_arrangeByLevel_55 : decode cX5_arrangeByLevel 55 = .ok (.iinc 4 1, 3) := by decide +kernel
theorem dX5_arrangeByLevel_58 : decode cX5_arrangeByLevel 58 = .ok (.goto (-53), 3) := by decide +kernel
theorem dX5_arrangeByLevel_61 : decode cX5_arrangeByLevel 61 = .ok (.return_, 1) := by decide +kernel
set_option maxRecDepth 20000 in
theorem ggX5_chosen_X7_cell : GoodIn wsX5_chosen wsX7_cell := goodIn_r _ [6, 7, 20] (by decide +kernel) (by decide +kernel)
set_option maxRecDepth 20000 in
theorem gX5_chosen_X7_cell : GoodIn wsX5_chosen (wsV RX5 17 RX7 yX7_cell wsX7_cell) := goodIn_app (goodIn_of _ (by decide +kernel)) ggX5_chosen_X7_cell
set_option maxRecDepth 20000 in
theorem ggX5_chosen_X7_isOn : GoodIn wsX5_chosen wsX7_isOn := goodIn_r _ [11, 12, 13, 14, 5, 15, 7, 16, 17, 18, 20] (by decide +kernel) (by decide +kernel)
set_option maxRecDepth 20000 in
theorem gX5_chosen_X7_isOn : GoodIn wsX5_chosen (wsV RX5 34 RX7 yX7_isOn wsX7_isOn) := goodIn_app (goodIn_of _ (by decide +kernel)) ggX5_chosen_X7_isOn
theorem dX5_chosen_0 : decode cX5_chosen 0 = .ok (.aload_n 1, 1) := by decide +kernel
theorem dX5_chosen_1 : decode cX5_chosen 1 = .ok (.iconst 1, 1) := by decide +kernel
theorem dX5_chosen_2 : decode cX5_chosen 2 = .ok (.invokevirtual 17, 3) := by decide +kernel
theorem dX5_chosen_5 : decode cX5_chosen 5 = .ok (.istore_n 3, 1) := by decide +kernel
theorem dX5_chosen_6 : decode cX5_chosen 6 = .ok (.iconst 0, 1) := by decide +kernel
theorem dX5_chosen_7 : decode cX5_chosen 7 = .ok (.istore 4, 2) := by decide +kernel
theorem dX5_chosen_9 : decode cX5_chosen 9 = .ok (.iconst 0, 1) := by decide +kernel
theorem dX5_chosen_10 : decode cX5_chosen 10 = .ok (.istore 5, 2) := by decide +kernel
theorem dX5_chosen_12 : decode cX5_chosen 12 = .ok (.iload 5, 2) := by decide +kernel
theorem dX5_chosen_14 : decode cX5_chosen 14 = .ok (.aload_n 1, 1) := by decide +kernel
theorem dX5_chosen_15 : decode cX5_chosen 15 = .ok (.iconst 0, 1) := by decide +kernel
theorem dX5_chosen_16 : decode cX5_chosen 16 = .ok (.invokevirtual 17, 3) := by decide +kernel
theorem dX5_chosen_19 : decode cX5_chosen 19 = .ok (.if_icmp .ge 45, 3) := by decide +kernel
theorem dX5_chosen_22 : decode cX5_chosen 22 = .ok (.iload_n 3, 1) := by decide +kernel
theorem dX5_chosen_23 : decode cX5_chosen 23 = .ok (.ifCond .le 41, 3) := by decide +kernel
theorem dX5_chosen_26 : decode cX5_chosen 26 = .ok (.aload_n 1, 1) := by decide +kernel
theorem dX5_chosen_27 : decode cX5_chosen 27 = .ok (.aload_n 0, 1) := by decide +kernel
theorem dX5_chosen_28 : decode cX5_chosen 28 = .ok (.getfield 9, 3) := by decide +kernel
theorem dX5_chosen_31 : decode cX5_chosen 31 = .ok (.iload 5, 2) := by decide +kernel
theorem dX5_chosen_33 : decode cX5_chosen 33 = .ok (.iaload, 1) := by decide +kernel
theorem dX5_chosen_34 : decode cX5_chosen 34 = .ok (.iload_n 2, 1) := by decide +kernel
theorem dX5_chosen_35 : decode cX5_chosen 35 = .ok (.invokevirtual 34, 3) := by decide +kernel
theorem dX5_chosen_38 : decode cX5_chosen 38 = .ok (.ifCond .eq 20, 3) := by decide +kernel
theorem dX5_chosen_41 : decode cX5_chosen 41 = .ok (.iload 4, 2) := by decide +kernel
theorem dX5_chosen_43 : decode cX5_chosen 43 = .ok (.iconst 1, 1) := by decide +kernel
theorem dX5_chosen_44 : decode cX5_chosen 44 = .ok (.aload_n 0, 1) := by decide +kernel
theorem dX5_chosen_45 : decode cX5_chosen 45 = .ok (.getfield 9, 3) := by decide +kernel
theorem dX5_chosen_48 : decode cX5_chosen 48 = .ok (.iload 5, 2) := by decide +kernel
theorem dX5_chosen_50 : decode cX5_chosen 50 = .ok (.iaload, 1) := by decide +kernel
theorem dX5_chosen_51 : decode cX5_chosen 51 = .ok (.ishl, 1) := by decide +kernel
theorem dX5_chosen_52 : decode cX5_chosen 52 = .ok (.ior, 1) := by decide +kernel
theorem dX5_chosen_53 : decode cX5_chosen 53 = .ok (.istore 4, 2) := by decide +kernel
theorem dX5_chosen_55 : decode cX5_chosen 55 = .ok (.iinc 3 (-1), 3) := by decide +kernel
theorem dX5_chosen_58 : decode cX5_chosen 58 = .ok (.iinc 5 1, 3) := by decide +kernel
theorem dX5_chosen_61 : decode cX5_chosen 61 = .ok (.goto (-49), 3) := by decide +kernel
theorem dX5_chosen_64 : decode cX5_chosen 64 = .ok (.iload 4, 2) := by decide +kernel
theorem dX5_chosen_66 : decode cX5_chosen 66 = .ok (.ireturn, 1) := by decide +kernel
theorem dX6_init_0 : decode cX6_init 0 = .ok (.aload_n 0, 1) := by decide +kernel
theorem dX6_init_1 : decode cX6_init 1 = .ok (.invokespecial 3, 3) := by decide +kernel
theorem dX6_init_4 : decode cX6_init 4 = .ok (.aload_n 0, 1) := by decide +kernel
theorem dX6_init_5 : decode cX6_init 5 = .ok (.bipush 12, 2) := by decide +kernel
theorem dX6_init_7 : decode cX6_init 7 = .ok (.newarray .int, 2) := by decide +kernel
theorem dX6_init_9 : decode cX6_init 9 = .ok (.putfield 9, 3) := by decide +kernel
theorem dX6_init_12 : decode cX6_init 12 = .ok (.aload_n 0, 1) := by decide +kernel
theorem dX6_init_13 : decode cX6_init 13 = .ok (.iconst 3, 1) := by decide +kernel
theorem dX6_init_14 : decode cX6_init 14 = .ok (.newarray .int, 2) := by decide +kernel
theorem dX6_init_16 : decode cX6_init 16 = .ok (.putfield 15, 3) := by decide +kernel
theorem dX6_init_19 : decode cX6_init 19 = .ok (.return_, 1) := by decide +kernel
set_option maxRecDepth 20000 in
theorem ggX6_paint_J7_fill_53178 : GoodIn wsX6_paint wsJ7_fill_53178 := goodIn_r _ [7] (by decide +kernel) (by decide +kernel)
set_option maxRecDepth 20000 in
theorem gX6_paint_J7_fill_53178 : GoodIn wsX6_paint (va_wsS RX6 18 yJ7_fill_53178 wsJ7_fill_53178) := goodIn_app (goodIn_of _ (by decide +kernel)) ggX6_paint_J7_fill_53178
set_option maxRecDepth 20000 in
theorem ggX6_paint_X7_cell : GoodIn wsX6_paint wsX7_cell := goodIn_r _ [12, 13, 43] (by decide +kernel) (by decide +kernel)
set_option maxRecDepth 20000 in
theorem gX6_paint_X7_cell : GoodIn wsX6_paint (wsV RX6 30 RX7 yX7_cell wsX7_cell) := goodIn_app (goodIn_of _ (by decide +kernel)) ggX6_paint_X7_cell
set_option maxRecDepth 20000 in
theorem ggX6_paint_X9_isInSet : GoodIn wsX6_paint wsX9_isInSet := goodIn_r _ [16] (by decide +kernel) (by decide +kernel)
set_option maxRecDepth 20000 in
theorem gX6_paint_X9_isInSet_n34 : GoodIn wsX6_paint (wsX9_isInSet) := ggX6_paint_X9_isInSet
set_option maxRecDepth 20000 in
theorem ggX6_paint_X7_field : GoodIn wsX6_paint wsX7_field := goodIn_r _ [20, 13, 43] (by decide +kernel) (by decide +kernel)
set_option maxRecDepth 20000 in
theorem gX6_paint_X7_field : GoodIn wsX6_paint (wsV RX6 38 RX7 yX7_field wsX7_field) := goodIn_app (goodIn_of _ (by decide +kernel)) ggX6_paint_X7_field
set_option maxRecDepth 20000 in
theorem ggX6_paint_X7_dotsOf : GoodIn wsX6_paint wsX7_dotsOf := goodIn_r _ [24, 25, 18, 19, 11, 20, 13, 26, 15, 27, 28, 29, 30, 31, 32, 33, 34, 43] (by decide +kernel) (by decide +kernel)
set_option maxRecDepth 20000 in
theorem gX6_paint_X7_dotsOf : GoodIn wsX6_paint (wsV RX6 42 RX7 yX7_dotsOf wsX7_dotsOf) := goodIn_app (goodIn_of _ (by decide +kernel)) ggX6_paint_X7_dotsOf
set_option maxRecDepth 20000 in
theorem ggX6_paint_X6_paintBehind : GoodIn wsX6_paint wsX6_paintBehind := goodIn_r _ [39, 1, 3, 2, 14, 15, 16, 40, 41, 42] (by decide +kernel) (by decide +kernel)
set_option maxRecDepth 20000 in
theorem gX6_paint_X6_paintBehind : GoodIn wsX6_paint (wsV RX6 45 RX6 yX6_paintBehind wsX6_paintBehind) := goodIn_app (goodIn_of _ (by decide +kernel)) ggX6_paint_X6_paintBehind
theorem dX6_paint_0 : decode cX6_paint 0 = .ok (.aload_n 0, 1) := by decide +kernel
theorem dX6_paint_1 : decode cX6_paint 1 = .ok (.getfield 9, 3) := by decide +kernel
theorem dX6_paint_4 : decode cX6_paint 4 = .ok (.iconst 0, 1) := by decide +kernel
theorem dX6_paint_5 : decode cX6_paint 5 = .ok (.invokestatic 18, 3) := by decide +kernel
theorem dX6_paint_8 : decode cX6_paint 8 = .ok (.aload_n 0, 1) := by decide +kernel
theorem dX6_paint_9 : decode cX6_paint 9 = .ok (.getfield 15, 3) := by decide +kernel
theorem dX6_paint_12 : decode cX6_paint 12 = .ok (.iconst 0, 1) := by decide +kernel
theorem dX6_paint_13 : decode cX6_paint 13 = .ok (.invokestatic 18, 3) := by decide +kernel
theorem dX6_paint_16 : decode cX6_paint 16 = .ok (.aload_n 0, 1) := by decide +kernel
theorem dX6_paint_17 : decode cX6_paint 17 = .ok (.iconst 0, 1) := by decide +kernel
theorem dX6_paint_18 : decode cX6_paint 18 = .ok (.putfield 24, 3) := by decide +kernel
theorem dX6_paint_21 : decode cX6_paint 21 = .ok (.iconst 0, 1) := by decide +kernel
theorem dX6_paint_22 : decode cX6_paint 22 = .ok (.istore 4, 2) := by decide +kernel
theorem dX6_paint_24 : decode cX6_paint 24 = .ok (.iload 4, 2) := by decide +kernel
theorem dX6_paint_26 : decode cX6_paint 26 = .ok (.iconst 4, 1) := by decide +kernel
theorem dX6_paint_27 : decode cX6_paint 27 = .ok (.if_icmp .ge 69, 3) := by decide +kernel
theorem dX6_paint_30 : decode cX6_paint 30 = .ok (.iconst 0, 1) := by decide +kernel
theorem dX6_paint_31 : decode cX6_paint 31 = .ok (.istore 5, 2) := by decide +kernel
theorem dX6_paint_33 : decode cX6_paint 33 = .ok (.iload 5, 2) := by decide +kernel
theorem dX6_paint_35 : decode cX6_paint 35 = .ok (.aload_n 1, 1) := by decide +kernel
theorem dX6_paint_36 : decode cX6_paint 36 = .ok (.iconst 0, 1) := by decide +kernel
theorem dX6_paint_37 : decode cX6_paint 37 = .ok (.invokevirtual 30, 3) := by decide +kernel
theorem dX6_paint_40 : decode cX6_paint 40 = .ok (.if_icmp .ge 50, 3) := by decide +kernel
theorem dX6_paint_43 : decode cX6_paint 43 = .ok (.iload_n 3, 1) := by decide +kernel
theorem dX6_paint_44 : decode cX6_paint 44 = .ok (.iload 5, 2) := by decide +kernel
theorem dX6_paint_46 : decode cX6_paint 46 = .ok (.invokestatic 34, 3) := by decide +kernel
theorem dX6_paint_49 : decode cX6_paint 49 = .ok (.ifCond .eq 35, 3) := by decide +kernel
theorem dX6_paint_52 : decode cX6_paint 52 = .ok (.aload_n 1, 1) := by decide +kernel
theorem dX6_paint_53 : decode cX6_paint 53 = .ok (.iload 5, 2) := by decide +kernel
theorem dX6_paint_55 : decode cX6_paint 55 = .ok (.iconst 4, 1) := by decide +kernel
theorem dX6_paint_56 : decode cX6_paint 56 = .ok (.invokevirtual 38, 3) := by decide +kernel
theorem dX6_paint_59 : decode cX6_paint 59 = .ok (.iload 4, 2) := by decide +kernel
theorem dX6_paint_61 : decode cX6_paint 61 = .ok (.if_icmp .ne 23, 3) := by decide +kernel
theorem dX6_paint_64 : decode cX6_paint 64 = .ok (.aload_n 0, 1) := by decide +kernel
theorem dX6_paint_65 : decode cX6_paint 65 = .ok (.iload 5, 2) := by decide +kernel
theorem dX6_paint_67 : decode cX6_paint 67 = .ok (.aload_n 1, 1) := by decide +kernel
theorem dX6_paint_68 : decode cX6_paint 68 = .ok (.iload 5, 2) := by decide +kernel
theorem dX6_paint_70 : decode cX6_paint 70 = .ok (.iload_n 2, 1) := by decide +kernel
theorem dX6_paint_71 : decode cX6_paint 71 = .ok (.invokevirtual 42, 3) := by decide +kernel
theorem dX6_paint_74 : decode cX6_paint 74 = .ok (.aload_n 1, 1) := by decide +kernel
theorem dX6_paint_75 : decode cX6_paint 75 = .ok (.iload 5, 2) := by decide +kernel
theorem dX6_paint_77 : decode cX6_paint 77 = .ok (.iconst 5, 1) := by decide +kernel
theorem dX6_paint_78 : decode cX6_paint 78 = .ok (.invokevirtual 38, 3) := by decide +kernel
theorem dX6_paint_81 : decode cX6_paint 81 = .ok (.invokevirtual 45, 3) := by decide +kernel
theorem dX6_paint_84 : decode cX6_paint 84 = .ok (.iinc 5 1, 3) := by decide +kernel
theorem dX6_paint_87 : decode cX6_paint 87 = .ok (.goto (-54), 3) := by decide +kernel
theorem dX6_paint_90 : decode cX6_paint 90 = .ok (.iinc 4 1, 3) := by decide +kernel
theorem dX6_paint_93 : decode cX6_paint 93 = .ok (.goto (-69), 3) := by decide +kernel
theorem dX6_paint_96 : decode cX6_paint 96 = .ok (.return_, 1) := by decide +kernel
set_option maxRecDepth 20000 in
theorem ggX6_paintBehind_X9_isInSet : GoodIn wsX6_paintBehind wsX9_isInSet := goodIn_r _ [6] (by decide +kernel) (by decide +kernel)
set_option maxRecDepth 20000 in
theorem gX6_paintBehind_X9_isInSet_n34 : GoodIn wsX6_paintBehind (wsX9_isInSet) := ggX6_paintBehind_X9_isInSet
theorem dX6_paintBehind_0 : decode cX6_paintBehind 0 = .ok (.aload_n 0, 1) := by decide +kernel
theorem dX6_paintBehind_1 : decode cX6_paintBehind 1 = .ok (.getfield 9, 3) := by decide +kernel
theorem dX6_paintBehind_4 : decode cX6_paintBehind 4 = .ok (.iload_n 1, 1) := by decide +kernel
theorem dX6_paintBehind_5 : decode cX6_paintBehind 5 = .ok (.iload_n 2, 1) := by decide +kernel
theorem dX6_paintBehind_6 : decode cX6_paintBehind 6 = .ok (.aload_n 0, 1) := by decide +kernel
theorem dX6_paintBehind_7 : decode cX6_paintBehind 7 = .ok (.getfield 24, 3) := by decide +kernel
theorem dX6_paintBehind_10 : decode cX6_paintBehind 10 = .ok (.iconst (-1), 1) := by decide +kernel
theorem dX6_paintBehind_11 : decode cX6_paintBehind 11 = .ok (.ixor, 1) := by decide +kernel
theorem dX6_paintBehind_12 : decode cX6_paintBehind 12 = .ok (.iand, 1) := by decide +kernel
theorem dX6_paintBehind_13 : decode cX6_paintBehind 13 = .ok (.iastore, 1) := by decide +kernel
theorem dX6_paintBehind_14 : decode cX6_paintBehind 14 = .ok (.aload_n 0, 1) := by decide +kernel
theorem dX6_paintBehind_15 : decode cX6_paintBehind 15 = .ok (.dup, 1) := by decide +kernel
theorem dX6_paintBehind_16 : decode cX6_paintBehind 16 = .ok (.getfield 24, 3) := by decide +kernel
theorem dX6_paintBehind_19 : decode cX6_paintBehind 19 = .ok (.iload_n 2, 1) := by decide +kernel
theorem dX6_paintBehind_20 : decode cX6_paintBehind 20 = .ok (.ior, 1) := by decide +kernel
theorem dX6_paintBehind_21 : decode cX6_paintBehind 21 = .ok (.putfield 24, 3) := by decide +kernel
theorem dX6_paintBehind_24 : decode cX6_paintBehind 24 = .ok (.iconst 0, 1) := by decide +kernel
theorem dX6_paintBehind_25 : decode cX6_paintBehind 25 = .ok (.istore 4, 2) := by decide +kernel
theorem dX6_paintBehind_27 : decode cX6_paintBehind 27 = .ok (.iload 4, 2) := by decide +kernel
theorem dX6_paintBehind_29 : decode cX6_paintBehind 29 = .ok (.iconst 3, 1) := by decide +kernel
theorem dX6_paintBehind_30 : decode cX6_paintBehind 30 = .ok (.if_icmp .ge 34, 3) := by decide +kernel
theorem dX6_paintBehind_33 : decode cX6_paintBehind 33 = .ok (.iload_n 3, 1) := by decide +kernel
theorem dX6_paintBehind_34 : decode cX6_paintBehind 34 = .ok (.iload 4, 2) := by decide +kernel
theorem dX6_paintBehind_36 : decode cX6_paintBehind 36 = .ok (.invokestatic 34, 3) := by decide +kernel
theorem dX6_paintBehind_39 : decode cX6_paintBehind 39 = .ok (.ifCond .eq 19, 3) := by decide +kernel
theorem dX6_paintBehind_42 : decode cX6_paintBehind 42 = .ok (.aload_n 0, 1) := by decide +kernel
theorem dX6_paintBehind_43 : decode cX6_paintBehind 43 = .ok (.getfield 15, 3) := by decide +kernel
theorem dX6_paintBehind_46 : decode cX6_paintBehind 46 = .ok (.iload 4, 2) := by decide +kernel
theorem dX6_paintBehind_48 : decode cX6_paintBehind 48 = .ok (.dup2, 1) := by decide +kernel
theorem dX6_paintBehind_49 : decode cX6_paintBehind 49 = .ok (.iaload, 1) := by decide +kernel
theorem dX6_paintBehind_50 : decode cX6_paintBehind 50 = .ok (.aload_n 0, 1) := by decide +kernel
theorem dX6_paintBehind_51 : decode cX6_paintBehind 51 = .ok (.getfield 9, 3) := by decide +kernel
theorem dX6_paintBehind_54 : decode cX6_paintBehind 54 = .ok (.iload_n 1, 1) := by decide +kernel
theorem dX6_paintBehind_55 : decode cX6_paintBehind 55 = .ok (.iaload, 1) := by decide +kernel
theorem dX6_paintBehind_56 : decode cX6_paintBehind 56 = .ok (.ior, 1) := by decide +kernel
theorem dX6_paintBehind_57 : decode cX6_paintBehind 57 = .ok (.iastore, 1) := by decide +kernel
theorem dX6_paintBehind_58 : decode cX6_paintBehind 58 = .ok (.iinc 4 1, 3) := by decide +kernel
theorem dX6_paintBehind_61 : decode cX6_paintBehind 61 = .ok (.goto (-34), 3) := by decide +kernel
theorem dX6_paintBehind_64 : decode cX6_paintBehind 64 = .ok (.return_, 1) := by decide +kernel
theorem dX6_filledColumns_0 : decode cX6_filledColumns 0 = .ok (.aload_n 0, 1) := by decide +kernel
theorem dX6_filledColumns_1 : decode cX6_filledColumns 1 = .ok (.getfield 24, 3) := by decide +kernel
theorem dX6_filledColumns_4 : decode cX6_filledColumns 4 = .ok (.ireturn, 1) := by decide +kernel
theorem dX6_seenColumns_0 : decode cX6_seenColumns 0 = .ok (.aload_n 0, 1) := by decide +kernel
theorem dX6_seenColumns_1 : decode cX6_seenColumns 1 = .ok (.getfield 9, 3) := by decide +kernel
theorem dX6_seenColumns_4 : decode cX6_seenColumns 4 = .ok (.iload_n 1, 1) := by decide +kernel
theorem dX6_seenColumns_5 : decode cX6_seenColumns 5 = .ok (.iaload, 1) := by decide +kernel
theorem dX6_seenColumns_6 : decode cX6_seenColumns 6 = .ok (.ireturn, 1) := by decide +kernel
set_option maxRecDepth 20000 in
theorem ggX6_thingAt_X9_isInSet : GoodIn wsX6_thingAt wsX9_isInSet := goodIn_r _ [4] (by decide +kernel) (by decide +kernel)
set_option maxRecDepth 20000 in
theorem gX6_thingAt_X9_isInSet_n34 : GoodIn wsX6_thingAt (wsX9_isInSet) := ggX6_thingAt_X9_isInSet
theorem dX6_thingAt_0 : decode cX6_thingAt 0 = .ok (.iconst 0, 1) := by decide +kernel
theorem dX6_thingAt_1 : decode cX6_thingAt 1 = .ok (.istore_n 2, 1) := by decide +kernel
theorem dX6_thingAt_2 : decode cX6_thingAt 2 = .ok (.iload_n 2, 1) := by decide +kernel
theorem dX6_thingAt_3 : decode cX6_thingAt 3 = .ok (.bipush 12, 2) := by decide +kernel
theorem dX6_thingAt_5 : decode cX6_thingAt 5 = .ok (.if_icmp .ge 27, 3) := by decide +kernel
theorem dX6_thingAt_8 : decode cX6_thingAt 8 = .ok (.aload_n 0, 1) := by decide +kernel
theorem dX6_thingAt_9 : decode cX6_thingAt 9 = .ok (.getfield 9, 3) := by decide +kernel
theorem dX6_thingAt_12 : decode cX6_thingAt 12 = .ok (.iload_n 2, 1) := by decide +kernel
theorem dX6_thingAt_13 : decode cX6_thingAt 13 = .ok (.iaload, 1) := by decide +kernel
theorem dX6_thingAt_14 : decode cX6_thingAt 14 = .ok (.bipush 31, 2) := by decide +kernel
theorem dX6_thingAt_16 : decode cX6_thingAt 16 = .ok (.iload_n 1, 1) := by decide +kernel
theorem dX6_thingAt_17 : decode cX6_thingAt 17 = .ok (.isub, 1) := by decide +kernel
theorem dX6_thingAt_18 : decode cX6_thingAt 18 = .ok (.invokestatic 34, 3) := by decide +kernel
theorem dX6_thingAt_21 : decode cX6_thingAt 21 = .ok (.ifCond .eq 5, 3) := by decide +kernel
theorem dX6_thingAt_24 : decode cX6_thingAt 24 = .ok (.iload_n 2, 1) := by decide +kernel
theorem dX6_thingAt_25 : decode cX6_thingAt 25 = .ok (.ireturn, 1) := by decide +kernel
theorem dX6_thingAt_26 : decode cX6_thingAt 26 = .ok (.iinc 2 1, 3) := by decide +kernel
theorem dX6_thingAt_29 : decode cX6_thingAt 29 = .ok (.goto (-27), 3) := by decide +kernel
theorem dX6_thingAt_32 : decode cX6_thingAt 32 = .ok (.iconst (-1), 1) := by decide +kernel
theorem dX6_thingAt_33 : decode cX6_thingAt 33 = .ok (.ireturn, 1) := by decide +kernel
set_option maxRecDepth 20000 in
theorem ggX6_colourAt_X6_thingAt : GoodIn wsX6_colourAt wsX6_thingAt := goodIn_r _ [5, 6, 7, 8, 9, 16, 17, 18] (by decide +kernel) (by decide +kernel)
set_option maxRecDepth 20000 in
theorem gX6_colourAt_X6_thingAt : GoodIn wsX6_colourAt (wsV RX6 49 RX6 yX6_thingAt wsX6_thingAt) := goodIn_app (goodIn_of _ (by decide +kernel)) ggX6_colourAt_X6_thingAt
set_option maxRecDepth 20000 in
theorem ggX6_colourAt_X7_field : GoodIn wsX6_colourAt wsX7_field := goodIn_r _ [14, 15, 19] (by decide +kernel) (by decide +kernel)
set_option maxRecDepth 20000 in
theorem gX6_colourAt_X7_field : GoodIn wsX6_colourAt (wsV RX6 38 RX7 yX7_field wsX7_field) := goodIn_app (goodIn_of _ (by decide +kernel)) ggX6_colourAt_X7_field
theorem dX6_colourAt_0 : decode cX6_colourAt 0 = .ok (.aload_n 0, 1) := by decide +kernel
theorem dX6_colourAt_1 : decode cX6_colourAt 1 = .ok (.iload_n 2, 1) := by decide +kernel
theorem dX6_colourAt_2 : decode cX6_colourAt 2 = .ok (.invokevirtual 49, 3) := by decide +kernel
theorem dX6_colourAt_5 : decode cX6_colourAt 5 = .ok (.istore_n 3, 1) := by decide +kernel
theorem dX6_colourAt_6 : decode cX6_colourAt 6 = .ok (.iload_n 3, 1) := by decide +kernel
theorem dX6_colourAt_7 : decode cX6_colourAt 7 = .ok (.iconst (-1), 1) := by decide +kernel
theorem dX6_colourAt_8 : decode cX6_colourAt 8 = .ok (.if_icmp .ne 7, 3) := by decide +kernel
theorem dX6_colourAt_11 : decode cX6_colourAt 11 = .ok (.iconst 0, 1) := by decide +kernel
theorem dX6_colourAt_12 : decode cX6_colourAt 12 = .ok (.goto 9, 3) := by decide +kernel
theorem dX6_colourAt_15 : decode cX6_colourAt 15 = .ok (.aload_n 1, 1) := by decide +kernel
theorem dX6_colourAt_16 : decode cX6_colourAt 16 = .ok (.iload_n 3, 1) := by decide +kernel
theorem dX6_colourAt_17 : decode cX6_colourAt 17 = .ok (.iconst 5, 1) := by decide +kernel
theorem dX6_colourAt_18 : decode cX6_colourAt 18 = .ok (.invokevirtual 38, 3) := by decide +kernel
theorem dX6_colourAt_21 : decode cX6_colourAt 21 = .ok (.ireturn, 1) := by decide +kernel
theorem dX6_otherColumns_0 : decode cX6_otherColumns 0 = .ok (.iconst 0, 1) := by decide +kernel
theorem dX6_otherColumns_1 : decode cX6_otherColumns 1 = .ok (.istore_n 2, 1) := by decide +kernel
theorem dX6_otherColumns_2 : decode cX6_otherColumns 2 = .ok (.iconst 0, 1) := by decide +kernel
theorem dX6_otherColumns_3 : decode cX6_otherColumns 3 = .ok (.istore_n 3, 1) := by decide +kernel
theorem dX6_otherColumns_4 : decode cX6_otherColumns 4 = .ok (.iload_n 3, 1) := by decide +kernel
theorem dX6_otherColumns_5 : decode cX6_otherColumns 5 = .ok (.iconst 3, 1) := by decide +kernel
theorem dX6_otherColumns_6 : decode cX6_otherColumns 6 = .ok (.if_icmp .ge 25, 3) := by decide +kernel
theorem dX6_otherColumns_9 : decode cX6_otherColumns 9 = .ok (.iload_n 2, 1) := by decide +kernel
theorem dX6_otherColumns_10 : decode cX6_otherColumns 10 = .ok (.aload_n 0, 1) := by decide +kernel
theorem dX6_otherColumns_11 : decode cX6_otherColumns 11 = .ok (.getfield 15, 3) := by decide +kernel
theorem dX6_otherColumns_14 : decode cX6_otherColumns 14 = .ok (.iload_n 3, 1) := by decide +kernel
theorem dX6_otherColumns_15 : decode cX6_otherColumns 15 = .ok (.iaload, 1) := by decide +kernel
theorem dX6_otherColumns_16 : decode cX6_otherColumns 16 = .ok (.aload_n 1, 1) := by decide +kernel
theorem dX6_otherColumns_17 : decode cX6_otherColumns 17 = .ok (.getfield 15, 3) := by decide +kernel
theorem dX6_otherColumns_20 : decode cX6_otherColumns 20 = .ok (.iload_n 3, 1) := by decide +kernel
theorem dX6_otherColumns_21 : decode cX6_otherColumns 21 = .ok (.iaload, 1) := by decide +kernel
theorem dX6_otherColumns_22 : decode cX6_otherColumns 22 = .ok (.ixor, 1) := by decide +kernel
theorem dX6_otherColumns_23 : decode cX6_otherColumns 23 = .ok (.ior, 1) := by decide +kernel
theorem dX6_otherColumns_24 : decode cX6_otherColumns 24 = .ok (.istore_n 2, 1) := by decide +kernel
theorem dX6_otherColumns_25 : decode cX6_otherColumns 25 = .ok (.iinc 3 1, 3) := by decide +kernel
theorem dX6_otherColumns_28 : decode cX6_otherColumns 28 = .ok (.goto (-24), 3) := by decide +kernel
theorem dX6_otherColumns_31 : decode cX6_otherColumns 31 = .ok (.iload_n 2, 1) := by decide +kernel
theorem dX6_otherColumns_32 : decode cX6_otherColumns 32 = .ok (.ireturn, 1) := by decide +kernel
theorem dX7_init_0 : decode cX7_init 0 = .ok (.aload_n 0, 1) := by decide +kernel
theorem dX7_init_1 : decode cX7_init 1 = .ok (.invokespecial 5, 3) := by decide +kernel
theorem dX7_init_4 : decode cX7_init 4 = .ok (.aload_n 0, 1) := by decide +kernel
theorem dX7_init_5 : decode cX7_init 5 = .ok (.sipush 132, 3) := by decide +kernel
theorem dX7_init_8 : decode cX7_init 8 = .ok (.newarray .int, 2) := by decide +kernel
theorem dX7_init_10 : decode cX7_init 10 = .ok (.putfield 11, 3) := by decide +kernel
theorem dX7_init_13 : decode cX7_init 13 = .ok (.aload_n 0, 1) := by decide +kernel
theorem dX7_init_14 : decode cX7_init 14 = .ok (.getfield 11, 3) := by decide +kernel
theorem dX7_init_17 : decode cX7_init 17 = .ok (.iconst 1, 1) := by decide +kernel
theorem dX7_init_18 : decode cX7_init 18 = .ok (.iconst 4, 1) := by decide +kernel
theorem dX7_init_19 : decode cX7_init 19 = .ok (.iastore, 1) := by decide +kernel
theorem dX7_init_20 : decode cX7_init 20 = .ok (.iconst 0, 1) := by decide +kernel
theorem dX7_init_21 : decode cX7_init 21 = .ok (.istore_n 1, 1) := by decide +kernel
theorem dX7_init_22 : decode cX7_init 22 = .ok (.iload_n 1, 1) := by decide +kernel
theorem dX7_init_23 : decode cX7_init 23 = .ok (.bipush 8, 2) := by decide +kernel
theorem dX7_init_25 : decode cX7_init 25 = .ok (.if_icmp .ge 20, 3) := by decide +kernel
theorem dX7_init_28 : decode cX7_init 28 = .ok (.aload_n 0, 1) := by decide +kernel
theorem dX7_init_29 : decode cX7_init 29 = .ok (.getfield 11, 3) := by decide +kernel
theorem dX7_init_32 : decode cX7_init 32 = .ok (.iconst 4, 1) := by decide +kernel
theorem dX7_init_33 : decode cX7_init 33 = .ok (.iload_n 1, 1) := by decide +kernel
theorem dX7_init_34 : decode cX7_init 34 = .ok (.iadd, 1) := by decide +kernel
theorem dX7_init_35 : decode cX7_init 35 = .ok (.sipush 255, 3) := by decide +kernel
theorem dX7_init_38 : decode cX7_init 38 = .ok (.iastore, 1) := by decide +kernel
theorem dX7_init_39 : decode cX7_init 39 = .ok (.iinc 1 1, 3) := by decide +kernel
theorem dX7_init_42 : decode cX7_init 42 = .ok (.goto (-20), 3) := by decide +kernel
theorem dX7_init_45 : decode cX7_init 45 = .ok (.return_, 1) := by decide +kernel
theorem dX7_saveTo_0 : decode cX7_saveTo 0 = .ok (.aload_n 0, 1) := by decide +kernel
theorem dX7_saveTo_1 : decode cX7_saveTo 1 = .ok (.getfield 11, 3) := by decide +kernel
theorem dX7_saveTo_4 : decode cX7_saveTo 4 = .ok (.iconst 0, 1) := by decide +kernel
theorem dX7_saveTo_5 : decode cX7_saveTo 5 = .ok (.aload_n 1, 1) := by decide +kernel
theorem dX7_saveTo_6 : decode cX7_saveTo 6 = .ok (.iconst 0, 1) := by decide +kernel
theorem dX7_saveTo_7 : decode cX7_saveTo 7 = .ok (.sipush 132, 3) := by decide +kernel
theorem dX7_saveTo_10 : decode cX7_saveTo 10 = .ok (.invokestatic 15, 3) := by decide +kernel
theorem dX7_saveTo_13 : decode cX7_saveTo 13 = .ok (.return_, 1) := by decide +kernel
theorem dX7_loadFrom_0 : decode cX7_loadFrom 0 = .ok (.aload_n 1, 1) := by decide +kernel
theorem dX7_loadFrom_1 : decode cX7_loadFrom 1 = .ok (.iconst 0, 1) := by decide +kernel
theorem dX7_loadFrom_2 : decode cX7_loadFrom 2 = .ok (.aload_n 0, 1) := by decide +kernel
theorem dX7_loadFrom_3 : decode cX7_loadFrom 3 = .ok (.getfield 11, 3) := by decide +kernel
theorem dX7_loadFrom_6 : decode cX7_loadFrom 6 = .ok (.iconst 0, 1) := by decide +kernel
theorem dX7_loadFrom_7 : decode cX7_loadFrom 7 = .ok (.sipush 132, 3) := by decide +kernel
theorem dX7_loadFrom_10 : decode cX7_loadFrom 10 = .ok (.invokestatic 15, 3) := by decide +kernel
theorem dX7_loadFrom_13 : decode cX7_loadFrom 13 = .ok (.return_, 1) := by decide +kernel
set_option maxRecDepth 20000 in
theorem ggX7_copyFrom_X7_loadFrom : GoodIn wsX7_copyFrom wsX7_loadFrom := goodIn_r _ [6, 1, 7, 8, 9, 10, 11] (by decide +kernel) (by decide +kernel)
set_option maxRecDepth 20000 in
theorem gX7_copyFrom_X7_loadFrom : GoodIn wsX7_copyFrom (wsV RX7 21 RX7 yX7_loadFrom wsX7_loadFrom) := goodIn_app (goodIn_of _ (by decide +kernel)) ggX7_copyFrom_X7_loadFrom
theorem dX7_copyFrom_0 : decode cX7_copyFrom 0 = .ok (.aload_n 0, 1) := by decide +kernel
theorem dX7_copyFrom_1 : decode cX7_copyFrom 1 = .ok (.aload_n 1, 1) := by decide +kernel
theorem dX7_copyFrom_2 : decode cX7_copyFrom 2 = .ok (.getfield 11, 3) := by decide +kernel
theorem dX7_copyFrom_5 : decode cX7_copyFrom 5 = .ok (.invokevirtual 21, 3) := by decide +kernel
theorem dX7_copyFrom_8 : decode cX7_copyFrom 8 = .ok (.return_, 1) := by decide +kernel
theorem dX7_cell_0 : decode cX7_cell 0 = .ok (.aload_n 0, 1) := by decide +kernel
theorem dX7_cell_1 : decode cX7_cell 1 = .ok (.getfield 11, 3) := by decide +kernel
theorem dX7_cell_4 : decode cX7_cell 4 = .ok (.iload_n 1, 1) := by decide +kernel
theorem dX7_cell_5 : decode cX7_cell 5 = .ok (.iaload, 1) := by decide +kernel
theorem dX7_cell_6 : decode cX7_cell 6 = .ok (.ireturn, 1) := by decide +kernel
theorem dX7_setCell_0 : decode cX7_setCell 0 = .ok (.aload_n 0, 1) := by decide +kernel
theorem dX7_setCell_1 : decode cX7_setCell 1 = .ok (.getfield 11, 3) := by decide +kernel
theorem dX7_setCell_4 : decode cX7_setCell 4 = .ok (.iload_n 1, 1) := by decide +kernel
theorem dX7_setCell_5 : decode cX7_setCell 5 = .ok (.iload_n 2, 1) := by decide +kernel
theorem dX7_setCell_6 : decode cX7_setCell 6 = .ok (.iastore, 1) := by decide +kernel
theorem dX7_setCell_7 : decode cX7_setCell 7 = .ok (.return_, 1) := by decide +kernel
theorem dX7_field_0 : decode cX7_field 0 = .ok (.aload_n 0, 1) := by decide +kernel
theorem dX7_field_1 : decode cX7_field 1 = .ok (.getfield 11, 3) := by decide +kernel
theorem dX7_field_4 : decode cX7_field 4 = .ok (.bipush 36, 2) := by decide +kernel
theorem dX7_field_6 : decode cX7_field 6 = .ok (.iload_n 1, 1) := by decide +kernel
theorem dX7_field_7 : decode cX7_field 7 = .ok (.bipush 8, 2) := by decide +kernel
theorem dX7_field_9 : decode cX7_field 9 = .ok (.imul, 1) := by decide +kernel
theorem dX7_field_10 : decode cX7_field 10 = .ok (.iadd, 1) := by decide +kernel
theorem dX7_field_11 : decode cX7_field 11 = .ok (.iload_n 2, 1) := by decide +kernel
theorem dX7_field_12 : decode cX7_field 12 = .ok (.iadd, 1) := by decide +kernel
theorem dX7_field_13 : decode cX7_field 13 = .ok (.iaload, 1) := by decide +kernel
theorem dX7_field_14 : decode cX7_field 14 = .ok (.ireturn, 1) := by decide +kernel
theorem dX7_setField_0 : decode cX7_setField 0 = .ok (.aload_n 0, 1) := by decide +kernel
theorem dX7_setField_1 : decode cX7_setField 1 = .ok (.getfield 11, 3) := by decide +kernel
theorem dX7_setField_4 : decode cX7_setField 4 = .ok (.bipush 36, 2) := by decide +kernel
theorem dX7_setField_6 : decode cX7_setField 6 = .ok (.iload_n 1, 1) := by decide +kernel
theorem dX7_setField_7 : decode cX7_setField 7 = .ok (.bipush 8, 2) := by decide +kernel
theorem dX7_setField_9 : decode cX7_setField 9 = .ok (.imul, 1) := by decide +kernel
theorem dX7_setField_10 : decode cX7_setField 10 = .ok (.iadd, 1) := by decide +kernel
theorem dX7_setField_11 : decode cX7_setField 11 = .ok (.iload_n 2, 1) := by decide +kernel
theorem dX7_setField_12 : decode cX7_setField 12 = .ok (.iadd, 1) := by decide +kernel
theorem dX7_setField_13 : decode cX7_setField 13 = .ok (.iload_n 3, 1) := by decide +kernel
theorem dX7_setField_14 : decode cX7_setField 14 = .ok (.iastore, 1) := by decide +kernel
theorem dX7_setField_15 : decode cX7_setField 15 = .ok (.return_, 1) := by decide +kernel
theorem dX7_bits_0 : decode cX7_bits 0 = .ok (.aload_n 0, 1) := by decide +kernel
theorem dX7_bits_1 : decode cX7_bits 1 = .ok (.getfield 11, 3) := by decide +kernel
theorem dX7_bits_4 : decode cX7_bits 4 = .ok (.iconst 4, 1) := by decide +kernel
theorem dX7_bits_5 : decode cX7_bits 5 = .ok (.iload_n 1, 1) := by decide +kernel
theorem dX7_bits_6 : decode cX7_bits 6 = .ok (.bipush 8, 2) := by decide +kernel
theorem dX7_bits_8 : decode cX7_bits 8 = .ok (.imul, 1) := by decide +kernel
theorem dX7_bits_9 : decode cX7_bits 9 = .ok (.iadd, 1) := by decide +kernel
theorem dX7_bits_10 : decode cX7_bits 10 = .ok (.iload_n 2, 1) := by decide +kernel
theorem dX7_bits_11 : decode cX7_bits 11 = .ok (.iadd, 1) := by decide +kernel
theorem dX7_bits_12 : decode cX7_bits 12 = .ok (.iaload, 1) := by decide +kernel
theorem dX7_bits_13 : decode cX7_bits 13 = .ok (.ireturn, 1) := by decide +kernel
theorem dX7_setBits_0 : decode cX7_setBits 0 = .ok (.aload_n 0, 1) := by decide +kernel
theorem dX7_setBits_1 : decode cX7_setBits 1 = .ok (.getfield 11, 3) := by decide +kernel
theorem dX7_setBits_4 : decode cX7_setBits 4 = .ok (.iconst 4, 1) := by decide +kernel
theorem dX7_setBits_5 : decode cX7_setBits 5 = .ok (.iload_n 1, 1) := by decide +kernel
theorem dX7_setBits_6 : decode cX7_setBits 6 = .ok (.bipush 8, 2) := by decide +kernel
theorem dX7_setBits_8 : decode cX7_setBits 8 = .ok (.imul, 1) := by decide +kernel
theorem dX7_setBits_9 : decode cX7_setBits 9 = .ok (.iadd, 1) := by decide +kernel
theorem dX7_setBits_10 : decode cX7_setBits 10 = .ok (.iload_n 2, 1) := by decide +kernel
theorem dX7_setBits_11 : decode cX7_setBits 11 = .ok (.iadd, 1) := by decide +kernel
theorem dX7_setBits_12 : decode cX7_setBits 12 = .ok (.iload_n 3, 1) := by decide +kernel
theorem dX7_setBits_13 : decode cX7_setBits 13 = .ok (.iastore, 1) := by decide +kernel
theorem dX7_setBits_14 : decode cX7_setBits 14 = .ok (.return_, 1) := by decide +kernel
theorem dX7_isFull_0 : decode cX7_isFull 0 = .ok (.aload_n 0, 1) := by decide +kernel
theorem dX7_isFull_1 : decode cX7_isFull 1 = .ok (.getfield 11, 3) := by decide +kernel
theorem dX7_isFull_4 : decode cX7_isFull 4 = .ok (.iconst 0, 1) := by decide +kernel
theorem dX7_isFull_5 : decode cX7_isFull 5 = .ok (.iaload, 1) := by decide +kernel
theorem dX7_isFull_6 : decode cX7_isFull 6 = .ok (.bipush 12, 2) := by decide +kernel
theorem dX7_isFull_8 : decode cX7_isFull 8 = .ok (.if_icmp .lt 7, 3) := by decide +kernel
theorem dX7_isFull_11 : decode cX7_isFull 11 = .ok (.iconst 1, 1) := by decide +kernel
theorem dX7_isFull_12 : decode cX7_isFull 12 = .ok (.goto 4, 3) := by decide +kernel
theorem dX7_isFull_15 : decode cX7_isFull 15 = .ok (.iconst 0, 1) := by decide +kernel
theorem dX7_isFull_16 : decode cX7_isFull 16 = .ok (.ireturn, 1) := by decide +kernel
set_option maxRecDepth 20000 in
theorem ggX7_add_X7_setField : GoodIn wsX7_add wsX7_setField := goodIn_r _ [6, 1, 7] (by decide +kernel) (by decide +kernel)
set_option maxRecDepth 20000 in
theorem gX7_add_X7_setField : GoodIn wsX7_add (wsV RX7 25 RX7 yX7_setField wsX7_setField) := goodIn_app (goodIn_of _ (by decide +kernel)) ggX7_add_X7_setField
theorem dX7_add_0 : decode cX7_add 0 = .ok (.aload_n 0, 1) := by decide +kernel
theorem dX7_add_1 : decode cX7_add 1 = .ok (.getfield 11, 3) := by decide +kernel
theorem dX7_add_4 : decode cX7_add 4 = .ok (.iconst 0, 1) := by decide +kernel
theorem dX7_add_5 : decode cX7_add 5 = .ok (.iaload, 1) := by decide +kernel
theorem dX7_add_6 : decode cX7_add 6 = .ok (.istore 7, 2) := by decide +kernel
theorem dX7_add_8 : decode cX7_add 8 = .ok (.aload_n 0, 1) := by decide +kernel
theorem dX7_add_9 : decode cX7_add 9 = .ok (.iload 7, 2) := by decide +kernel
theorem dX7_add_11 : decode cX7_add 11 = .ok (.iconst 0, 1) := by decide +kernel
theorem dX7_add_12 : decode cX7_add 12 = .ok (.iload_n 1, 1) := by decide +kernel
theorem dX7_add_13 : decode cX7_add 13 = .ok (.invokevirtual 25, 3) := by decide +kernel
theorem dX7_add_16 : decode cX7_add 16 = .ok (.aload_n 0, 1) := by decide +kernel
theorem dX7_add_17 : decode cX7_add 17 = .ok (.iload 7, 2) := by decide +kernel
theorem dX7_add_19 : decode cX7_add 19 = .ok (.iconst 1, 1) := by decide +kernel
theorem dX7_add_20 : decode cX7_add 20 = .ok (.iload_n 2, 1) := by decide +kernel
theorem dX7_add_21 : decode cX7_add 21 = .ok (.invokevirtual 25, 3) := by decide +kernel
theorem dX7_add_24 : decode cX7_add 24 = .ok (.aload_n 0, 1) := by decide +kernel
theorem dX7_add_25 : decode cX7_add 25 = .ok (.iload 7, 2) := by decide +kernel
theorem dX7_add_27 : decode cX7_add 27 = .ok (.iconst 2, 1) := by decide +kernel
theorem dX7_add_28 : decode cX7_add 28 = .ok (.iload_n 3, 1) := by decide +kernel
theorem dX7_add_29 : decode cX7_add 29 = .ok (.invokevirtual 25, 3) := by decide +kernel
theorem dX7_add_32 : decode cX7_add 32 = .ok (.aload_n 0, 1) := by decide +kernel
theorem dX7_add_33 : decode cX7_add 33 = .ok (.iload 7, 2) := by decide +kernel
theorem dX7_add_35 : decode cX7_add 35 = .ok (.iconst 3, 1) := by decide +kernel
theorem dX7_add_36 : decode cX7_add 36 = .ok (.iload 4, 2) := by decide +kernel
theorem dX7_add_38 : decode cX7_add 38 = .ok (.invokevirtual 25, 3) := by decide +kernel
theorem dX7_add_41 : decode cX7_add 41 = .ok (.aload_n 0, 1) := by decide +kernel
theorem dX7_add_42 : decode cX7_add 42 = .ok (.iload 7, 2) := by decide +kernel
theorem dX7_add_44 : decode cX7_add 44 = .ok (.iconst 4, 1) := by decide +kernel
theorem dX7_add_45 : decode cX7_add 45 = .ok (.iload 5, 2) := by decide +kernel
theorem dX7_add_47 : decode cX7_add 47 = .ok (.invokevirtual 25, 3) := by decide +kernel
theorem dX7_add_50 : decode cX7_add 50 = .ok (.aload_n 0, 1) := by decide +kernel
theorem dX7_add_51 : decode cX7_add 51 = .ok (.iload 7, 2) := by decide +kernel
theorem dX7_add_53 : decode cX7_add 53 = .ok (.iconst 5, 1) := by decide +kernel
theorem dX7_add_54 : decode cX7_add 54 = .ok (.iload 6, 2) := by decide +kernel
theorem dX7_add_56 : decode cX7_add 56 = .ok (.invokevirtual 25, 3) := by decide +kernel
theorem dX7_add_59 : decode cX7_add 59 = .ok (.aload_n 0, 1) := by decide +kernel
theorem dX7_add_60 : decode cX7_add 60 = .ok (.iload 7, 2) := by decide +kernel
theorem dX7_add_62 : decode cX7_add 62 = .ok (.bipush 6, 2) := by decide +kernel
theorem dX7_add_64 : decode cX7_add 64 = .ok (.iconst 0, 1) := by decide +kernel
theorem dX7_add_65 : decode cX7_add 65 = .ok (.invokevirtual 25, 3) := by decide +kernel
theorem dX7_add_68 : decode cX7_add 68 = .ok (.aload_n 0, 1) := by decide +kernel
theorem dX7_add_69 : decode cX7_add 69 = .ok (.iload 7, 2) := by decide +kernel
theorem dX7_add_71 : decode cX7_add 71 = .ok (.bipush 7, 2) := by decide +kernel
theorem dX7_add_73 : decode cX7_add 73 = .ok (.iconst 0, 1) := by decide +kernel
theorem dX7_add_74 : decode cX7_add 74 = .ok (.invokevirtual 25, 3) := by decide +kernel
theorem dX7_add_77 : decode cX7_add 77 = .ok (.aload_n 0, 1) := by decide +kernel
theorem dX7_add_78 : decode cX7_add 78 = .ok (.getfield 11, 3) := by decide +kernel
theorem dX7_add_81 : decode cX7_add 81 = .ok (.iconst 0, 1) := by decide +kernel
theorem dX7_add_82 : decode cX7_add 82 = .ok (.iload 7, 2) := by decide +kernel
theorem dX7_add_84 : decode cX7_add 84 = .ok (.iconst 1, 1) := by decide +kernel
theorem dX7_add_85 : decode cX7_add 85 = .ok (.iadd, 1) := by decide +kernel
theorem dX7_add_86 : decode cX7_add 86 = .ok (.iastore, 1) := by decide +kernel
theorem dX7_add_87 : decode cX7_add 87 = .ok (.iload 7, 2) := by decide +kernel
theorem dX7_add_89 : decode cX7_add 89 = .ok (.ireturn, 1) := by decide +kernel
theorem dX7_removeThing_0 : decode cX7_removeThing 0 = .ok (.bipush 36, 2) := by decide +kernel
theorem dX7_removeThing_2 : decode cX7_removeThing 2 = .ok (.iload_n 1, 1) := by decide +kernel
theorem dX7_removeThing_3 : decode cX7_removeThing 3 = .ok (.bipush 8, 2) := by decide +kernel
theorem dX7_removeThing_5 : decode cX7_removeThing 5 = .ok (.imul, 1) := by decide +kernel
theorem dX7_removeThing_6 : decode cX7_removeThing 6 = .ok (.iadd, 1) := by decide +kernel
theorem dX7_removeThing_7 : decode cX7_removeThing 7 = .ok (.istore_n 2, 1) := by decide +kernel
theorem dX7_removeThing_8 : decode cX7_removeThing 8 = .ok (.aload_n 0, 1) := by decide +kernel
theorem dX7_removeThing_9 : decode cX7_removeThing 9 = .ok (.getfield 11, 3) := by decide +kernel
theorem dX7_removeThing_12 : decode cX7_removeThing 12 = .ok (.iconst 0, 1) := by decide +kernel
theorem dX7_removeThing_13 : decode cX7_removeThing 13 = .ok (.iaload, 1) := by decide +kernel
theorem dX7_removeThing_14 : decode cX7_removeThing 14 = .ok (.iconst 1, 1) := by decide +kernel
theorem dX7_removeThing_15 : decode cX7_removeThing 15 = .ok (.isub, 1) := by decide +kernel
theorem dX7_removeThing_16 : decode cX7_removeThing 16 = .ok (.iload_n 1, 1) := by decide +kernel
theorem dX7_removeThing_17 : decode cX7_removeThing 17 = .ok (.isub, 1) := by decide +kernel
theorem dX7_removeThing_18 : decode cX7_removeThing 18 = .ok (.istore_n 3, 1) := by decide +kernel
theorem dX7_removeThing_19 : decode cX7_removeThing 19 = .ok (.aload_n 0, 1) := by decide +kernel
theorem dX7_removeThing_20 : decode cX7_removeThing 20 = .ok (.getfield 11, 3) := by decide +kernel
theorem dX7_removeThing_23 : decode cX7_removeThing 23 = .ok (.iload_n 2, 1) := by decide +kernel
theorem dX7_removeThing_24 : decode cX7_removeThing 24 = .ok (.bipush 8, 2) := by decide +kernel
theorem dX7_removeThing_26 : decode cX7_removeThing 26 = .ok (.iadd, 1) := by decide +kernel
theorem dX7_removeThing_27 : decode cX7_removeThing 27 = .ok (.aload_n 0, 1) := by decide +kernel
theorem dX7_removeThing_28 : decode cX7_removeThing 28 = .ok (.getfield 11, 3) := by decide +kernel
theorem dX7_removeThing_31 : decode cX7_removeThing 31 = .ok (.iload_n 2, 1) := by decide +kernel
theorem dX7_removeThing_32 : decode cX7_removeThing 32 = .ok (.iload_n 3, 1) := by decide +kernel
theorem dX7_removeThing_33 : decode cX7_removeThing 33 = .ok (.bipush 8, 2) := by decide +kernel
theorem dX7_removeThing_35 : decode cX7_removeThing 35 = .ok (.imul, 1) := by decide +kernel
theorem dX7_removeThing_36 : decode cX7_removeThing 36 = .ok (.invokestatic 15, 3) := by decide +kernel
theorem dX7_removeThing_39 : decode cX7_removeThing 39 = .ok (.aload_n 0, 1) := by decide +kernel
theorem dX7_removeThing_40 : decode cX7_removeThing 40 = .ok (.getfield 11, 3) := by decide +kernel
theorem dX7_removeThing_43 : decode cX7_removeThing 43 = .ok (.iconst 0, 1) := by decide +kernel
theorem dX7_removeThing_44 : decode cX7_removeThing 44 = .ok (.dup2, 1) := by decide +kernel
theorem dX7_removeThing_45 : decode cX7_removeThing 45 = .ok (.iaload, 1) := by decide +kernel
theorem dX7_removeThing_46 : decode cX7_removeThing 46 = .ok (.iconst 1, 1) := by decide +kernel
theorem dX7_removeThing_47 : decode cX7_removeThing 47 = .ok (.isub, 1) := by decide +kernel
theorem dX7_removeThing_48 : decode cX7_removeThing 48 = .ok (.iastore, 1) := by decide +kernel
theorem dX7_removeThing_49 : decode cX7_removeThing 49 = .ok (.return_, 1) := by decide +kernel
set_option maxRecDepth 20000 in
theorem ggX7_goNextFrame_X7_field : GoodIn wsX7_goNextFrame wsX7_field := goodIn_r _ [6, 1, 18] (by decide +kernel) (by decide +kernel)
set_option maxRecDepth 20000 in
theorem gX7_goNextFrame_X7_field : GoodIn wsX7_goNextFrame (wsV RX7 29 RX7 yX7_field wsX7_field) := goodIn_app (goodIn_of _ (by decide +kernel)) ggX7_goNextFrame_X7_field
set_option maxRecDepth 20000 in
theorem ggX7_goNextFrame_X7_wrapped : GoodIn wsX7_goNextFrame wsX7_wrapped := goodIn_r _ [9, 10, 11, 12, 13] (by decide +kernel) (by decide +kernel)
set_option maxRecDepth 20000 in
theorem gX7_goNextFrame_X7_wrapped : GoodIn wsX7_goNextFrame (va_wsS RX7 33 yX7_wrapped wsX7_wrapped) := goodIn_app (goodIn_of _ (by decide +kernel)) ggX7_goNextFrame_X7_wrapped
set_option maxRecDepth 20000 in
theorem ggX7_goNextFrame_X7_setField : GoodIn wsX7_goNextFrame wsX7_setField := goodIn_r _ [17, 1, 18] (by decide +kernel) (by decide +kernel)
set_option maxRecDepth 20000 in
theorem gX7_goNextFrame_X7_setField : GoodIn wsX7_goNextFrame (wsV RX7 25 RX7 yX7_setField wsX7_setField) := goodIn_app (goodIn_of _ (by decide +kernel)) ggX7_goNextFrame_X7_setField
theorem dX7_goNextFrame_0 : decode cX7_goNextFrame 0 = .ok (.aload_n 0, 1) := by decide +kernel
theorem dX7_goNextFrame_1 : decode cX7_goNextFrame 1 = .ok (.getfield 11, 3) := by decide +kernel
theorem dX7_goNextFrame_4 : decode cX7_goNextFrame 4 = .ok (.iconst 3, 1) := by decide +kernel
theorem dX7_goNextFrame_5 : decode cX7_goNextFrame 5 = .ok (.dup2, 1) := by decide +kernel
theorem dX7_goNextFrame_6 : decode cX7_goNextFrame 6 = .ok (.iaload, 1) := by decide +kernel
theorem dX7_goNextFrame_7 : decode cX7_goNextFrame 7 = .ok (.iconst 1, 1) := by decide +kernel
theorem dX7_goNextFrame_8 : decode cX7_goNextFrame 8 = .ok (.iadd, 1) := by decide +kernel
theorem dX7_goNextFrame_9 : decode cX7_goNextFrame 9 = .ok (.iastore, 1) := by decide +kernel
theorem dX7_goNextFrame_10 : decode cX7_goNextFrame 10 = .ok (.iconst 0, 1) := by decide +kernel
theorem dX7_goNextFrame_11 : decode cX7_goNextFrame 11 = .ok (.istore_n 1, 1) := by decide +kernel
theorem dX7_goNextFrame_12 : decode cX7_goNextFrame 12 = .ok (.iload_n 1, 1) := by decide +kernel
theorem dX7_goNextFrame_13 : decode cX7_goNextFrame 13 = .ok (.aload_n 0, 1) := by decide +kernel
theorem dX7_goNextFrame_14 : decode cX7_goNextFrame 14 = .ok (.getfield 11, 3) := by decide +kernel
theorem dX7_goNextFrame_17 : decode cX7_goNextFrame 17 = .ok (.iconst 0, 1) := by decide +kernel
theorem dX7_goNextFrame_18 : decode cX7_goNextFrame 18 = .ok (.iaload, 1) := by decide +kernel
theorem dX7_goNextFrame_19 : decode cX7_goNextFrame 19 = .ok (.if_icmp .ge 59, 3) := by decide +kernel
theorem dX7_goNextFrame_22 : decode cX7_goNextFrame 22 = .ok (.aload_n 0, 1) := by decide +kernel
theorem dX7_goNextFrame_23 : decode cX7_goNextFrame 23 = .ok (.iload_n 1, 1) := by decide +kernel
theorem dX7_goNextFrame_24 : decode cX7_goNextFrame 24 = .ok (.iconst 0, 1) := by decide +kernel
theorem dX7_goNextFrame_25 : decode cX7_goNextFrame 25 = .ok (.aload_n 0, 1) := by decide +kernel
theorem dX7_goNextFrame_26 : decode cX7_goNextFrame 26 = .ok (.iload_n 1, 1) := by decide +kernel
theorem dX7_goNextFrame_27 : decode cX7_goNextFrame 27 = .ok (.iconst 0, 1) := by decide +kernel
theorem dX7_goNextFrame_28 : decode cX7_goNextFrame 28 = .ok (.invokevirtual 29, 3) := by decide +kernel
theorem dX7_goNextFrame_31 : decode cX7_goNextFrame 31 = .ok (.aload_n 0, 1) := by decide +kernel
theorem dX7_goNextFrame_32 : decode cX7_goNextFrame 32 = .ok (.iload_n 1, 1) := by decide +kernel
theorem dX7_goNextFrame_33 : decode cX7_goNextFrame 33 = .ok (.bipush 6, 2) := by decide +kernel
theorem dX7_goNextFrame_35 : decode cX7_goNextFrame 35 = .ok (.invokevirtual 29, 3) := by decide +kernel
theorem dX7_goNextFrame_38 : decode cX7_goNextFrame 38 = .ok (.iadd, 1) := by decide +kernel
theorem dX7_goNextFrame_39 : decode cX7_goNextFrame 39 = .ok (.bipush 40, 2) := by decide +kernel
theorem dX7_goNextFrame_41 : decode cX7_goNextFrame 41 = .ok (.invokestatic 33, 3) := by decide +kernel
theorem dX7_goNextFrame_44 : decode cX7_goNextFrame 44 = .ok (.invokevirtual 25, 3) := by decide +kernel
theorem dX7_goNextFrame_47 : decode cX7_goNextFrame 47 = .ok (.aload_n 0, 1) := by decide +kernel
theorem dX7_goNextFrame_48 : decode cX7_goNextFrame 48 = .ok (.iload_n 1, 1) := by decide +kernel
theorem dX7_goNextFrame_49 : decode cX7_goNextFrame 49 = .ok (.iconst 1, 1) := by decide +kernel
theorem dX7_goNextFrame_50 : decode cX7_goNextFrame 50 = .ok (.aload_n 0, 1) := by decide +kernel
theorem dX7_goNextFrame_51 : decode cX7_goNextFrame 51 = .ok (.iload_n 1, 1) := by decide +kernel
theorem dX7_goNextFrame_52 : decode cX7_goNextFrame 52 = .ok (.iconst 1, 1) := by decide +kernel
theorem dX7_goNextFrame_53 : decode cX7_goNextFrame 53 = .ok (.invokevirtual 29, 3) := by decide +kernel
theorem dX7_goNextFrame_56 : decode cX7_goNextFrame 56 = .ok (.aload_n 0, 1) := by decide +kernel
theorem dX7_goNextFrame_57 : decode cX7_goNextFrame 57 = .ok (.iload_n 1, 1) := by decide +kernel
theorem dX7_goNextFrame_58 : decode cX7_goNextFrame 58 = .ok (.bipush 7, 2) := by decide +kernel
theorem dX7_goNextFrame_60 : decode cX7_goNextFrame 60 = .ok (.invokevirtual 29, 3) := by decide +kernel
theorem dX7_goNextFrame_63 : decode cX7_goNextFrame 63 = .ok (.iadd, 1) := by decide +kernel
theorem dX7_goNextFrame_64 : decode cX7_goNextFrame 64 = .ok (.bipush 32, 2) := by decide +kernel
theorem dX7_goNextFrame_66 : decode cX7_goNextFrame 66 = .ok (.invokestatic 33, 3) := by decide +kernel
theorem dX7_goNextFrame_69 : decode cX7_goNextFrame 69 = .ok (.invokevirtual 25, 3) := by decide +kernel
theorem dX7_goNextFrame_72 : decode cX7_goNextFrame 72 = .ok (.iinc 1 1, 3) := by decide +kernel
theorem dX7_goNextFrame_75 : decode cX7_goNextFrame 75 = .ok (.goto (-63), 3) := by decide +kernel
theorem dX7_goNextFrame_78 : decode cX7_goNextFrame 78 = .ok (.return_, 1) := by decide +kernel
set_option maxRecDepth 20000 in
theorem ggX7_wrapped_J9_floorMod_7cf53 : GoodIn wsX7_wrapped wsJ9_floorMod_7cf53 := goodIn_r _ [4] (by decide +kernel) (by decide +kernel)
set_option maxRecDepth 20000 in
theorem gX7_wrapped_J9_floorMod_7cf53 : GoodIn wsX7_wrapped (va_wsS RX7 36 yJ9_floorMod_7cf53 wsJ9_floorMod_7cf53) := goodIn_app (goodIn_of _ (by decide +kernel)) ggX7_wrapped_J9_floorMod_7cf53
theorem dX7_wrapped_0 : decode cX7_wrapped 0 = .ok (.iload_n 0, 1) := by decide +kernel
theorem dX7_wrapped_1 : decode cX7_wrapped 1 = .ok (.bipush 8, 2) := by decide +kernel
theorem dX7_wrapped_3 : decode cX7_wrapped 3 = .ok (.iadd, 1) := by decide +kernel
theorem dX7_wrapped_4 : decode cX7_wrapped 4 = .ok (.iload_n 1, 1) := by decide +kernel
theorem dX7_wrapped_5 : decode cX7_wrapped 5 = .ok (.invokestatic 36, 3) := by decide +kernel
theorem dX7_wrapped_8 : decode cX7_wrapped 8 = .ok (.bipush 8, 2) := by decide +kernel
theorem dX7_wrapped_10 : decode cX7_wrapped 10 = .ok (.isub, 1) := by decide +kernel
theorem dX7_wrapped_11 : decode cX7_wrapped 11 = .ok (.ireturn, 1) := by decide +kernel
set_option maxRecDepth 20000 in
theorem ggX7_isOn_X7_field : GoodIn wsX7_isOn wsX7_field := goodIn_r _ [5, 6, 10] (by decide +kernel) (by decide +kernel)
set_option maxRecDepth 20000 in
theorem gX7_isOn_X7_field : GoodIn wsX7_isOn (wsV RX7 29 RX7 yX7_field wsX7_field) := goodIn_app (goodIn_of _ (by decide +kernel)) ggX7_isOn_X7_field
set_option maxRecDepth 20000 in
theorem ggX7_isOn_X9_isWithin : GoodIn wsX7_isOn wsX9_isWithin := goodIn_r _ [9] (by decide +kernel) (by decide +kernel)
set_option maxRecDepth 20000 in
theorem gX7_isOn_X9_isWithin_n41 : GoodIn wsX7_isOn (wsX9_isWithin) := ggX7_isOn_X9_isWithin
theorem dX7_isOn_0 : decode cX7_isOn 0 = .ok (.iload_n 2, 1) := by decide +kernel
theorem dX7_isOn_1 : decode cX7_isOn 1 = .ok (.aload_n 0, 1) := by decide +kernel
theorem dX7_isOn_2 : decode cX7_isOn 2 = .ok (.iload_n 1, 1) := by decide +kernel
theorem dX7_isOn_3 : decode cX7_isOn 3 = .ok (.iconst 1, 1) := by decide +kernel
theorem dX7_isOn_4 : decode cX7_isOn 4 = .ok (.invokevirtual 29, 3) := by decide +kernel
theorem dX7_isOn_7 : decode cX7_isOn 7 = .ok (.isub, 1) := by decide +kernel
theorem dX7_isOn_8 : decode cX7_isOn 8 = .ok (.iconst 0, 1) := by decide +kernel
theorem dX7_isOn_9 : decode cX7_isOn 9 = .ok (.bipush 7, 2) := by decide +kernel
theorem dX7_isOn_11 : decode cX7_isOn 11 = .ok (.invokestatic 41, 3) := by decide +kernel
theorem dX7_isOn_14 : decode cX7_isOn 14 = .ok (.ireturn, 1) := by decide +kernel
set_option maxRecDepth 20000 in
theorem ggX7_setOn_X7_isOn : GoodIn wsX7_setOn wsX7_isOn := goodIn_r _ [6, 7, 8, 9, 5, 10, 1, 11, 12, 13, 14] (by decide +kernel) (by decide +kernel)
set_option maxRecDepth 20000 in
theorem gX7_setOn_X7_isOn : GoodIn wsX7_setOn (wsV RX7 45 RX7 yX7_isOn wsX7_isOn) := goodIn_app (goodIn_of _ (by decide +kernel)) ggX7_setOn_X7_isOn
theorem dX7_setOn_0 : decode cX7_setOn 0 = .ok (.iconst 0, 1) := by decide +kernel
theorem dX7_setOn_1 : decode cX7_setOn 1 = .ok (.istore_n 2, 1) := by decide +kernel
theorem dX7_setOn_2 : decode cX7_setOn 2 = .ok (.iconst 0, 1) := by decide +kernel
theorem dX7_setOn_3 : decode cX7_setOn 3 = .ok (.istore_n 3, 1) := by decide +kernel
theorem dX7_setOn_4 : decode cX7_setOn 4 = .ok (.iload_n 3, 1) := by decide +kernel
theorem dX7_setOn_5 : decode cX7_setOn 5 = .ok (.aload_n 0, 1) := by decide +kernel
theorem dX7_setOn_6 : decode cX7_setOn 6 = .ok (.getfield 11, 3) := by decide +kernel
theorem dX7_setOn_9 : decode cX7_setOn 9 = .ok (.iconst 0, 1) := by decide +kernel
theorem dX7_setOn_10 : decode cX7_setOn 10 = .ok (.iaload, 1) := by decide +kernel
theorem dX7_setOn_11 : decode cX7_setOn 11 = .ok (.if_icmp .ge 24, 3) := by decide +kernel
theorem dX7_setOn_14 : decode cX7_setOn 14 = .ok (.aload_n 0, 1) := by decide +kernel
theorem dX7_setOn_15 : decode cX7_setOn 15 = .ok (.iload_n 3, 1) := by decide +kernel
theorem dX7_setOn_16 : decode cX7_setOn 16 = .ok (.iload_n 1, 1) := by decide +kernel
theorem dX7_setOn_17 : decode cX7_setOn 17 = .ok (.invokevirtual 45, 3) := by decide +kernel
theorem dX7_setOn_20 : decode cX7_setOn 20 = .ok (.ifCond .eq 9, 3) := by decide +kernel
theorem dX7_setOn_23 : decode cX7_setOn 23 = .ok (.iload_n 2, 1) := by decide +kernel
theorem dX7_setOn_24 : decode cX7_setOn 24 = .ok (.iconst 1, 1) := by decide +kernel
theorem dX7_setOn_25 : decode cX7_setOn 25 = .ok (.iload_n 3, 1) := by decide +kernel
theorem dX7_setOn_26 : decode cX7_setOn 26 = .ok (.ishl, 1) := by decide +kernel
theorem dX7_setOn_27 : decode cX7_setOn 27 = .ok (.ior, 1) := by decide +kernel
theorem dX7_setOn_28 : decode cX7_setOn 28 = .ok (.istore_n 2, 1) := by decide +kernel
theorem dX7_setOn_29 : decode cX7_setOn 29 = .ok (.iinc 3 1, 3) := by decide +kernel
theorem dX7_setOn_32 : decode cX7_setOn 32 = .ok (.goto (-28), 3) := by decide +kernel
theorem dX7_setOn_35 : decode cX7_setOn 35 = .ok (.iload_n 2, 1) := by decide +kernel
theorem dX7_setOn_36 : decode cX7_setOn 36 = .ok (.ireturn, 1) := by decide +kernel
set_option maxRecDepth 20000 in
theorem ggX7_linesOf_X7_field : GoodIn wsX7_linesOf wsX7_field := goodIn_r _ [12, 13, 14] (by decide +kernel) (by decide +kernel)
set_option maxRecDepth 20000 in
theorem gX7_linesOf_X7_field : GoodIn wsX7_linesOf (wsV RX7 29 RX7 yX7_field wsX7_field) := goodIn_app (goodIn_of _ (by decide +kernel)) ggX7_linesOf_X7_field
theorem dX7_linesOf_0 : decode cX7_linesOf 0 = .ok (.aload_n 0, 1) := by decide +kernel
theorem dX7_linesOf_1 : decode cX7_linesOf 1 = .ok (.iload_n 1, 1) := by decide +kernel
theorem dX7_linesOf_2 : decode cX7_linesOf 2 = .ok (.iconst 1, 1) := by decide +kernel
theorem dX7_linesOf_3 : decode cX7_linesOf 3 = .ok (.invokevirtual 29, 3) := by decide +kernel
theorem dX7_linesOf_6 : decode cX7_linesOf 6 = .ok (.iconst 0, 1) := by decide +kernel
theorem dX7_linesOf_7 : decode cX7_linesOf 7 = .ok (.invokestatic 49, 3) := by decide +kernel
theorem dX7_linesOf_10 : decode cX7_linesOf 10 = .ok (.istore_n 2, 1) := by decide +kernel
theorem dX7_linesOf_11 : decode cX7_linesOf 11 = .ok (.aload_n 0, 1) := by decide +kernel
theorem dX7_linesOf_12 : decode cX7_linesOf 12 = .ok (.iload_n 1, 1) := by decide +kernel
theorem dX7_linesOf_13 : decode cX7_linesOf 13 = .ok (.iconst 1, 1) := by decide +kernel
theorem dX7_linesOf_14 : decode cX7_linesOf 14 = .ok (.invokevirtual 29, 3) := by decide +kernel
theorem dX7_linesOf_17 : decode cX7_linesOf 17 = .ok (.bipush 8, 2) := by decide +kernel
theorem dX7_linesOf_19 : decode cX7_linesOf 19 = .ok (.iadd, 1) := by decide +kernel
theorem dX7_linesOf_20 : decode cX7_linesOf 20 = .ok (.bipush 24, 2) := by decide +kernel
theorem dX7_linesOf_22 : decode cX7_linesOf 22 = .ok (.invokestatic 52, 3) := by decide +kernel
theorem dX7_linesOf_25 : decode cX7_linesOf 25 = .ok (.istore_n 3, 1) := by decide +kernel
theorem dX7_linesOf_26 : decode cX7_linesOf 26 = .ok (.iload_n 3, 1) := by decide +kernel
theorem dX7_linesOf_27 : decode cX7_linesOf 27 = .ok (.iload_n 2, 1) := by decide +kernel
theorem dX7_linesOf_28 : decode cX7_linesOf 28 = .ok (.isub, 1) := by decide +kernel
theorem dX7_linesOf_29 : decode cX7_linesOf 29 = .ok (.iconst 0, 1) := by decide +kernel
theorem dX7_linesOf_30 : decode cX7_linesOf 30 = .ok (.invokestatic 49, 3) := by decide +kernel
theorem dX7_linesOf_33 : decode cX7_linesOf 33 = .ok (.ireturn, 1) := by decide +kernel
set_option maxRecDepth 20000 in
theorem ggX7_dotsOf_X7_field : GoodIn wsX7_dotsOf wsX7_field := goodIn_r _ [5, 6, 17] (by decide +kernel) (by decide +kernel)
set_option maxRecDepth 20000 in
theorem gX7_dotsOf_X7_field : GoodIn wsX7_dotsOf (wsV RX7 29 RX7 yX7_field wsX7_field) := goodIn_app (goodIn_of _ (by decide +kernel)) ggX7_dotsOf_X7_field
set_option maxRecDepth 20000 in
theorem ggX7_dotsOf_X9_isWithin : GoodIn wsX7_dotsOf wsX9_isWithin := goodIn_r _ [9] (by decide +kernel) (by decide +kernel)
set_option maxRecDepth 20000 in
theorem gX7_dotsOf_X9_isWithin_n41 : GoodIn wsX7_dotsOf (wsX9_isWithin) := ggX7_dotsOf_X9_isWithin
set_option maxRecDepth 20000 in
theorem ggX7_dotsOf_X7_bits : GoodIn wsX7_dotsOf wsX7_bits := goodIn_r _ [13, 6, 17] (by decide +kernel) (by decide +kernel)
set_option maxRecDepth 20000 in
theorem gX7_dotsOf_X7_bits : GoodIn wsX7_dotsOf (wsV RX7 55 RX7 yX7_bits wsX7_bits) := goodIn_app (goodIn_of _ (by decide +kernel)) ggX7_dotsOf_X7_bits
set_option maxRecDepth 20000 in
theorem ggX7_dotsOf_X7_mirrored : GoodIn wsX7_dotsOf wsX7_mirrored := goodIn_r _ [16] (by decide +kernel) (by decide +kernel)
set_option maxRecDepth 20000 in
theorem gX7_dotsOf_X7_mirrored : GoodIn wsX7_dotsOf (va_wsS RX7 58 yX7_mirrored wsX7_mirrored) := goodIn_app (goodIn_of _ (by decide +kernel)) ggX7_dotsOf_X7_mirrored
theorem dX7_dotsOf_0 : decode cX7_dotsOf 0 = .ok (.iload_n 2, 1) := by decide +kernel
theorem dX7_dotsOf_1 : decode cX7_dotsOf 1 = .ok (.aload_n 0, 1) := by decide +kernel
theorem dX7_dotsOf_2 : decode cX7_dotsOf 2 = .ok (.iload_n 1, 1) := by decide +kernel
theorem dX7_dotsOf_3 : decode cX7_dotsOf 3 = .ok (.iconst 1, 1) := by decide +kernel
theorem dX7_dotsOf_4 : decode cX7_dotsOf 4 = .ok (.invokevirtual 29, 3) := by decide +kernel
theorem dX7_dotsOf_7 : decode cX7_dotsOf 7 = .ok (.isub, 1) := by decide +kernel
theorem dX7_dotsOf_8 : decode cX7_dotsOf 8 = .ok (.istore_n 3, 1) := by decide +kernel
theorem dX7_dotsOf_9 : decode cX7_dotsOf 9 = .ok (.iload_n 3, 1) := by decide +kernel
theorem dX7_dotsOf_10 : decode cX7_dotsOf 10 = .ok (.iconst 0, 1) := by decide +kernel
theorem dX7_dotsOf_11 : decode cX7_dotsOf 11 = .ok (.bipush 7, 2) := by decide +kernel
theorem dX7_dotsOf_13 : decode cX7_dotsOf 13 = .ok (.invokestatic 41, 3) := by decide +kernel
theorem dX7_dotsOf_16 : decode cX7_dotsOf 16 = .ok (.ifCond .ne 5, 3) := by decide +kernel
theorem dX7_dotsOf_19 : decode cX7_dotsOf 19 = .ok (.iconst 0, 1) := by decide +kernel
theorem dX7_dotsOf_20 : decode cX7_dotsOf 20 = .ok (.ireturn, 1) := by decide +kernel
theorem dX7_dotsOf_21 : decode cX7_dotsOf 21 = .ok (.aload_n 0, 1) := by decide +kernel
theorem dX7_dotsOf_22 : decode cX7_dotsOf 22 = .ok (.iload_n 1, 1) := by decide +kernel
theorem dX7_dotsOf_23 : decode cX7_dotsOf 23 = .ok (.iconst 3, 1) := by decide +kernel
theorem dX7_dotsOf_24 : decode cX7_dotsOf 24 = .ok (.invokevirtual 29, 3) := by decide +kernel
theorem dX7_dotsOf_27 : decode cX7_dotsOf 27 = .ok (.istore 4, 2) := by decide +kernel
theorem dX7_dotsOf_29 : decode cX7_dotsOf 29 = .ok (.aload_n 0, 1) := by decide +kernel
theorem dX7_dotsOf_30 : decode cX7_dotsOf 30 = .ok (.aload_n 0, 1) := by decide +kernel
theorem dX7_dotsOf_31 : decode cX7_dotsOf 31 = .ok (.iload_n 1, 1) := by decide +kernel
theorem dX7_dotsOf_32 : decode cX7_dotsOf 32 = .ok (.iconst 2, 1) := by decide +kernel
theorem dX7_dotsOf_33 : decode cX7_dotsOf 33 = .ok (.invokevirtual 29, 3) := by decide +kernel
theorem dX7_dotsOf_36 : decode cX7_dotsOf 36 = .ok (.iload 4, 2) := by decide +kernel
theorem dX7_dotsOf_38 : decode cX7_dotsOf 38 = .ok (.iconst 2, 1) := by decide +kernel
theorem dX7_dotsOf_39 : decode cX7_dotsOf 39 = .ok (.iand, 1) := by decide +kernel
theorem dX7_dotsOf_40 : decode cX7_dotsOf 40 = .ok (.ifCond .eq 10, 3) := by decide +kernel
theorem dX7_dotsOf_43 : decode cX7_dotsOf 43 = .ok (.bipush 7, 2) := by decide +kernel
theorem dX7_dotsOf_45 : decode cX7_dotsOf 45 = .ok (.iload_n 3, 1) := by decide +kernel
theorem dX7_dotsOf_46 : decode cX7_dotsOf 46 = .ok (.isub, 1) := by decide +kernel
theorem dX7_dotsOf_47 : decode cX7_dotsOf 47 = .ok (.goto 4, 3) := by decide +kernel
theorem dX7_dotsOf_50 : decode cX7_dotsOf 50 = .ok (.iload_n 3, 1) := by decide +kernel
theorem dX7_dotsOf_51 : decode cX7_dotsOf 51 = .ok (.invokevirtual 55, 3) := by decide +kernel
theorem dX7_dotsOf_54 : decode cX7_dotsOf 54 = .ok (.istore 5, 2) := by decide +kernel
theorem dX7_dotsOf_56 : decode cX7_dotsOf 56 = .ok (.iload 4, 2) := by decide +kernel
theorem dX7_dotsOf_58 : decode cX7_dotsOf 58 = .ok (.iconst 1, 1) := by decide +kernel
theorem dX7_dotsOf_59 : decode cX7_dotsOf 59 = .ok (.iand, 1) := by decide +kernel
theorem dX7_dotsOf_60 : decode cX7_dotsOf 60 = .ok (.ifCond .eq 10, 3) := by decide +kernel
theorem dX7_dotsOf_63 : decode cX7_dotsOf 63 = .ok (.iload 5, 2) := by decide +kernel
theorem dX7_dotsOf_65 : decode cX7_dotsOf 65 = .ok (.invokestatic 58, 3) := by decide +kernel
theorem dX7_dotsOf_68 : decode cX7_dotsOf 68 = .ok (.istore 5, 2) := by decide +kernel
theorem dX7_dotsOf_70 : decode cX7_dotsOf 70 = .ok (.iload 5, 2) := by decide +kernel
theorem dX7_dotsOf_72 : decode cX7_dotsOf 72 = .ok (.i2l, 1) := by decide +kernel
theorem dX7_dotsOf_73 : decode cX7_dotsOf 73 = .ok (.bipush 32, 2) := by decide +kernel
theorem dX7_dotsOf_75 : decode cX7_dotsOf 75 = .ok (.lshl, 1) := by decide +kernel
theorem dX7_dotsOf_76 : decode cX7_dotsOf 76 = .ok (.aload_n 0, 1) := by decide +kernel
theorem dX7_dotsOf_77 : decode cX7_dotsOf 77 = .ok (.iload_n 1, 1) := by decide +kernel
theorem dX7_dotsOf_78 : decode cX7_dotsOf 78 = .ok (.iconst 0, 1) := by decide +kernel
theorem dX7_dotsOf_79 : decode cX7_dotsOf 79 = .ok (.invokevirtual 29, 3) := by decide +kernel
theorem dX7_dotsOf_82 : decode cX7_dotsOf 82 = .ok (.bipush 8, 2) := by decide +kernel
theorem dX7_dotsOf_84 : decode cX7_dotsOf 84 = .ok (.iadd, 1) := by decide +kernel
theorem dX7_dotsOf_85 : decode cX7_dotsOf 85 = .ok (.lushr, 1) := by decide +kernel
theorem dX7_dotsOf_86 : decode cX7_dotsOf 86 = .ok (.l2i, 1) := by decide +kernel
theorem dX7_dotsOf_87 : decode cX7_dotsOf 87 = .ok (.ireturn, 1) := by decide +kernel
theorem dX7_mirrored_0 : decode cX7_mirrored 0 = .ok (.iconst 0, 1) := by decide +kernel
theorem dX7_mirrored_1 : decode cX7_mirrored 1 = .ok (.istore_n 1, 1) := by decide +kernel
theorem dX7_mirrored_2 : decode cX7_mirrored 2 = .ok (.iconst 0, 1) := by decide +kernel
theorem dX7_mirrored_3 : decode cX7_mirrored 3 = .ok (.istore_n 2, 1) := by decide +kernel
theorem dX7_mirrored_4 : decode cX7_mirrored 4 = .ok (.iload_n 2, 1) := by decide +kernel
theorem dX7_mirrored_5 : decode cX7_mirrored 5 = .ok (.bipush 8, 2) := by decide +kernel
theorem dX7_mirrored_7 : decode cX7_mirrored 7 = .ok (.if_icmp .ge 19, 3) := by decide +kernel
theorem dX7_mirrored_10 : decode cX7_mirrored 10 = .ok (.iload_n 1, 1) := by decide +kernel
theorem dX7_mirrored_11 : decode cX7_mirrored 11 = .ok (.iconst 1, 1) := by decide +kernel
theorem dX7_mirrored_12 : decode cX7_mirrored 12 = .ok (.ishl, 1) := by decide +kernel
theorem dX7_mirrored_13 : decode cX7_mirrored 13 = .ok (.iload_n 0, 1) := by decide +kernel
theorem dX7_mirrored_14 : decode cX7_mirrored 14 = .ok (.iload_n 2, 1) := by decide +kernel
theorem dX7_mirrored_15 : decode cX7_mirrored 15 = .ok (.iushr, 1) := by decide +kernel
theorem dX7_mirrored_16 : decode cX7_mirrored 16 = .ok (.iconst 1, 1) := by decide +kernel
theorem dX7_mirrored_17 : decode cX7_mirrored 17 = .ok (.iand, 1) := by decide +kernel
theorem dX7_mirrored_18 : decode cX7_mirrored 18 = .ok (.ior, 1) := by decide +kernel
theorem dX7_mirrored_19 : decode cX7_mirrored 19 = .ok (.istore_n 1, 1) := by decide +kernel
theorem dX7_mirrored_20 : decode cX7_mirrored 20 = .ok (.iinc 2 1, 3) := by decide +kernel
theorem dX7_mirrored_23 : decode cX7_mirrored 23 = .ok (.goto (-19), 3) := by decide +kernel
theorem dX7_mirrored_26 : decode cX7_mirrored 26 = .ok (.iload_n 1, 1) := by decide +kernel
theorem dX7_mirrored_27 : decode cX7_mirrored 27 = .ok (.ireturn, 1) := by decide +kernel
