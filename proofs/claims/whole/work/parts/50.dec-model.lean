theorem dX10_init_0 : decode cX10_init 0 = .ok (.aload_n 0, 1) := by decide +kernel
theorem dX10_init_1 : decode cX10_init 1 = .ok (.invokespecial 1, 3) := by decide +kernel
theorem dX10_init_4 : decode cX10_init 4 = .ok (.aload_n 0, 1) := by decide +kernel
theorem dX10_init_5 : decode cX10_init 5 = .ok (.sipush 132, 3) := by decide +kernel
theorem dX10_init_8 : decode cX10_init 8 = .ok (.newarray .int, 2) := by decide +kernel
theorem dX10_init_10 : decode cX10_init 10 = .ok (.putfield 7, 3) := by decide +kernel
theorem dX10_init_13 : decode cX10_init 13 = .ok (.aload_n 0, 1) := by decide +kernel
theorem dX10_init_14 : decode cX10_init 14 = .ok (.sipush 132, 3) := by decide +kernel
theorem dX10_init_17 : decode cX10_init 17 = .ok (.newarray .int, 2) := by decide +kernel
theorem dX10_init_19 : decode cX10_init 19 = .ok (.putfield 13, 3) := by decide +kernel
theorem dX10_init_22 : decode cX10_init 22 = .ok (.aload_n 0, 1) := by decide +kernel
theorem dX10_init_23 : decode cX10_init 23 = .ok (.sipush 2640, 3) := by decide +kernel
theorem dX10_init_26 : decode cX10_init 26 = .ok (.newarray .int, 2) := by decide +kernel
theorem dX10_init_28 : decode cX10_init 28 = .ok (.putfield 16, 3) := by decide +kernel
theorem dX10_init_31 : decode cX10_init 31 = .ok (.aload_n 0, 1) := by decide +kernel
theorem dX10_init_32 : decode cX10_init 32 = .ok (.sipush 264, 3) := by decide +kernel
theorem dX10_init_35 : decode cX10_init 35 = .ok (.newarray .int, 2) := by decide +kernel
theorem dX10_init_37 : decode cX10_init 37 = .ok (.putfield 19, 3) := by decide +kernel
theorem dX10_init_40 : decode cX10_init 40 = .ok (.aload_n 0, 1) := by decide +kernel
theorem dX10_init_41 : decode cX10_init 41 = .ok (.iconst 2, 1) := by decide +kernel
theorem dX10_init_42 : decode cX10_init 42 = .ok (.newarray .long, 2) := by decide +kernel
theorem dX10_init_44 : decode cX10_init 44 = .ok (.putfield 22, 3) := by decide +kernel
theorem dX10_init_47 : decode cX10_init 47 = .ok (.aload_n 0, 1) := by decide +kernel
theorem dX10_init_48 : decode cX10_init 48 = .ok (.iconst 2, 1) := by decide +kernel
theorem dX10_init_49 : decode cX10_init 49 = .ok (.newarray .boolean, 2) := by decide +kernel
theorem dX10_init_51 : decode cX10_init 51 = .ok (.putfield 26, 3) := by decide +kernel
theorem dX10_init_54 : decode cX10_init 54 = .ok (.aload_n 0, 1) := by decide +kernel
theorem dX10_init_55 : decode cX10_init 55 = .ok (.bipush 60, 2) := by decide +kernel
theorem dX10_init_57 : decode cX10_init 57 = .ok (.newarray .int, 2) := by decide +kernel
theorem dX10_init_59 : decode cX10_init 59 = .ok (.putfield 30, 3) := by decide +kernel
theorem dX10_init_62 : decode cX10_init 62 = .ok (.aload_n 0, 1) := by decide +kernel
theorem dX10_init_63 : decode cX10_init 63 = .ok (.bipush 24, 2) := by decide +kernel
theorem dX10_init_65 : decode cX10_init 65 = .ok (.newarray .int, 2) := by decide +kernel
theorem dX10_init_67 : decode cX10_init 67 = .ok (.putfield 33, 3) := by decide +kernel
theorem dX10_init_70 : decode cX10_init 70 = .ok (.aload_n 0, 1) := by decide +kernel
theorem dX10_init_71 : decode cX10_init 71 = .ok (.bipush 12, 2) := by decide +kernel
theorem dX10_init_73 : decode cX10_init 73 = .ok (.newarray .int, 2) := by decide +kernel
theorem dX10_init_75 : decode cX10_init 75 = .ok (.putfield 36, 3) := by decide +kernel
theorem dX10_init_78 : decode cX10_init 78 = .ok (.aload_n 0, 1) := by decide +kernel
theorem dX10_init_79 : decode cX10_init 79 = .ok (.bipush 12, 2) := by decide +kernel
theorem dX10_init_81 : decode cX10_init 81 = .ok (.newarray .int, 2) := by decide +kernel
theorem dX10_init_83 : decode cX10_init 83 = .ok (.putfield 39, 3) := by decide +kernel
theorem dX10_init_86 : decode cX10_init 86 = .ok (.aload_n 0, 1) := by decide +kernel
theorem dX10_init_87 : decode cX10_init 87 = .ok (.getfield 7, 3) := by decide +kernel
theorem dX10_init_90 : decode cX10_init 90 = .ok (.iconst 1, 1) := by decide +kernel
theorem dX10_init_91 : decode cX10_init 91 = .ok (.iconst 4, 1) := by decide +kernel
theorem dX10_init_92 : decode cX10_init 92 = .ok (.iastore, 1) := by decide +kernel
theorem dX10_init_93 : decode cX10_init 93 = .ok (.iconst 0, 1) := by decide +kernel
theorem dX10_init_94 : decode cX10_init 94 = .ok (.istore_n 1, 1) := by decide +kernel
theorem dX10_init_95 : decode cX10_init 95 = .ok (.iload_n 1, 1) := by decide +kernel
theorem dX10_init_96 : decode cX10_init 96 = .ok (.bipush 8, 2) := by decide +kernel
theorem dX10_init_98 : decode cX10_init 98 = .ok (.if_icmp .ge 20, 3) := by decide +kernel
theorem dX10_init_101 : decode cX10_init 101 = .ok (.aload_n 0, 1) := by decide +kernel
theorem dX10_init_102 : decode cX10_init 102 = .ok (.getfield 7, 3) := by decide +kernel
theorem dX10_init_105 : decode cX10_init 105 = .ok (.iconst 4, 1) := by decide +kernel
theorem dX10_init_106 : decode cX10_init 106 = .ok (.iload_n 1, 1) := by decide +kernel
theorem dX10_init_107 : decode cX10_init 107 = .ok (.iadd, 1) := by decide +kernel
theorem dX10_init_108 : decode cX10_init 108 = .ok (.sipush 255, 3) := by decide +kernel
theorem dX10_init_111 : decode cX10_init 111 = .ok (.iastore, 1) := by decide +kernel
theorem dX10_init_112 : decode cX10_init 112 = .ok (.iinc 1 1, 3) := by decide +kernel
theorem dX10_init_115 : decode cX10_init 115 = .ok (.goto (-20), 3) := by decide +kernel
theorem dX10_init_118 : decode cX10_init 118 = .ok (.return_, 1) := by decide +kernel
theorem dX10_in_0 : decode cX10_in 0 = .ok (.iload_n 0, 1) := by decide +kernel
theorem dX10_in_1 : decode cX10_in 1 = .ok (.iload_n 1, 1) := by decide +kernel
theorem dX10_in_2 : decode cX10_in 2 = .ok (.if_icmp .lt 12, 3) := by decide +kernel
theorem dX10_in_5 : decode cX10_in 5 = .ok (.iload_n 0, 1) := by decide +kernel
theorem dX10_in_6 : decode cX10_in 6 = .ok (.iload_n 2, 1) := by decide +kernel
theorem dX10_in_7 : decode cX10_in 7 = .ok (.if_icmp .gt 7, 3) := by decide +kernel
theorem dX10_in_10 : decode cX10_in 10 = .ok (.iconst 1, 1) := by decide +kernel
theorem dX10_in_11 : decode cX10_in 11 = .ok (.goto 4, 3) := by decide +kernel
theorem dX10_in_14 : decode cX10_in 14 = .ok (.iconst 0, 1) := by decide +kernel
theorem dX10_in_15 : decode cX10_in 15 = .ok (.ireturn, 1) := by decide +kernel
theorem dX10_has_0 : decode cX10_has 0 = .ok (.iload_n 0, 1) := by decide +kernel
theorem dX10_has_1 : decode cX10_has 1 = .ok (.iload_n 1, 1) := by decide +kernel
theorem dX10_has_2 : decode cX10_has 2 = .ok (.ishr, 1) := by decide +kernel
theorem dX10_has_3 : decode cX10_has 3 = .ok (.iconst 1, 1) := by decide +kernel
theorem dX10_has_4 : decode cX10_has 4 = .ok (.iand, 1) := by decide +kernel
theorem dX10_has_5 : decode cX10_has 5 = .ok (.iconst 1, 1) := by decide +kernel
theorem dX10_has_6 : decode cX10_has 6 = .ok (.if_icmp .ne 7, 3) := by decide +kernel
theorem dX10_has_9 : decode cX10_has 9 = .ok (.iconst 1, 1) := by decide +kernel
theorem dX10_has_10 : decode cX10_has 10 = .ok (.goto 4, 3) := by decide +kernel
theorem dX10_has_13 : decode cX10_has 13 = .ok (.iconst 0, 1) := by decide +kernel
theorem dX10_has_14 : decode cX10_has 14 = .ok (.ireturn, 1) := by decide +kernel
theorem dX10_ones_0 : decode cX10_ones 0 = .ok (.iconst 0, 1) := by decide +kernel
theorem dX10_ones_1 : decode cX10_ones 1 = .ok (.istore_n 1, 1) := by decide +kernel
theorem dX10_ones_2 : decode cX10_ones 2 = .ok (.iconst 0, 1) := by decide +kernel
theorem dX10_ones_3 : decode cX10_ones 3 = .ok (.istore_n 2, 1) := by decide +kernel
theorem dX10_ones_4 : decode cX10_ones 4 = .ok (.iload_n 2, 1) := by decide +kernel
theorem dX10_ones_5 : decode cX10_ones 5 = .ok (.bipush 24, 2) := by decide +kernel
theorem dX10_ones_7 : decode cX10_ones 7 = .ok (.if_icmp .ge 17, 3) := by decide +kernel
theorem dX10_ones_10 : decode cX10_ones 10 = .ok (.iload_n 1, 1) := by decide +kernel
theorem dX10_ones_11 : decode cX10_ones 11 = .ok (.iload_n 0, 1) := by decide +kernel
theorem dX10_ones_12 : decode cX10_ones 12 = .ok (.iload_n 2, 1) := by decide +kernel
theorem dX10_ones_13 : decode cX10_ones 13 = .ok (.ishr, 1) := by decide +kernel
theorem dX10_ones_14 : decode cX10_ones 14 = .ok (.iconst 1, 1) := by decide +kernel
theorem dX10_ones_15 : decode cX10_ones 15 = .ok (.iand, 1) := by decide +kernel
theorem dX10_ones_16 : decode cX10_ones 16 = .ok (.iadd, 1) := by decide +kernel
theorem dX10_ones_17 : decode cX10_ones 17 = .ok (.istore_n 1, 1) := by decide +kernel
theorem dX10_ones_18 : decode cX10_ones 18 = .ok (.iinc 2 1, 3) := by decide +kernel
theorem dX10_ones_21 : decode cX10_ones 21 = .ok (.goto (-17), 3) := by decide +kernel
theorem dX10_ones_24 : decode cX10_ones 24 = .ok (.iload_n 1, 1) := by decide +kernel
theorem dX10_ones_25 : decode cX10_ones 25 = .ok (.ireturn, 1) := by decide +kernel
set_option maxRecDepth 20000 in
theorem ggX10_isThing_X10_in : GoodIn wsX10_isThing wsX10_in := goodIn_r _ [5] (by decide +kernel) (by decide +kernel)
set_option maxRecDepth 20000 in
theorem gX10_isThing_X10_in : GoodIn wsX10_isThing (va_wsS RX10 42 yX10_in wsX10_in) := goodIn_app (goodIn_of _ (by decide +kernel)) ggX10_isThing_X10_in
theorem dX10_isThing_0 : decode cX10_isThing 0 = .ok (.iload_n 1, 1) := by decide +kernel
theorem dX10_isThing_1 : decode cX10_isThing 1 = .ok (.iconst 0, 1) := by decide +kernel
theorem dX10_isThing_2 : decode cX10_isThing 2 = .ok (.aload_n 0, 1) := by decide +kernel
theorem dX10_isThing_3 : decode cX10_isThing 3 = .ok (.getfield 7, 3) := by decide +kernel
theorem dX10_isThing_6 : decode cX10_isThing 6 = .ok (.iconst 0, 1) := by decide +kernel
theorem dX10_isThing_7 : decode cX10_isThing 7 = .ok (.iaload, 1) := by decide +kernel
theorem dX10_isThing_8 : decode cX10_isThing 8 = .ok (.iconst 1, 1) := by decide +kernel
theorem dX10_isThing_9 : decode cX10_isThing 9 = .ok (.isub, 1) := by decide +kernel
theorem dX10_isThing_10 : decode cX10_isThing 10 = .ok (.invokestatic 42, 3) := by decide +kernel
theorem dX10_isThing_13 : decode cX10_isThing 13 = .ok (.ireturn, 1) := by decide +kernel
theorem dX10_of_0 : decode cX10_of 0 = .ok (.aload_n 0, 1) := by decide +kernel
theorem dX10_of_1 : decode cX10_of 1 = .ok (.getfield 7, 3) := by decide +kernel
theorem dX10_of_4 : decode cX10_of 4 = .ok (.bipush 36, 2) := by decide +kernel
theorem dX10_of_6 : decode cX10_of 6 = .ok (.bipush 8, 2) := by decide +kernel
theorem dX10_of_8 : decode cX10_of 8 = .ok (.iload_n 1, 1) := by decide +kernel
theorem dX10_of_9 : decode cX10_of 9 = .ok (.imul, 1) := by decide +kernel
theorem dX10_of_10 : decode cX10_of 10 = .ok (.iadd, 1) := by decide +kernel
theorem dX10_of_11 : decode cX10_of 11 = .ok (.iload_n 2, 1) := by decide +kernel
theorem dX10_of_12 : decode cX10_of 12 = .ok (.iadd, 1) := by decide +kernel
theorem dX10_of_13 : decode cX10_of 13 = .ok (.iaload, 1) := by decide +kernel
theorem dX10_of_14 : decode cX10_of 14 = .ok (.ireturn, 1) := by decide +kernel
theorem dX10_notes_0 : decode cX10_notes 0 = .ok (.aload_n 0, 1) := by decide +kernel
theorem dX10_notes_1 : decode cX10_notes 1 = .ok (.getfield 46, 3) := by decide +kernel
theorem dX10_notes_4 : decode cX10_notes 4 = .ok (.bipush 20, 2) := by decide +kernel
theorem dX10_notes_6 : decode cX10_notes 6 = .ok (.if_icmp .ne 44, 3) := by decide +kernel
theorem dX10_notes_9 : decode cX10_notes 9 = .ok (.iconst 0, 1) := by decide +kernel
theorem dX10_notes_10 : decode cX10_notes 10 = .ok (.istore_n 1, 1) := by decide +kernel
theorem dX10_notes_11 : decode cX10_notes 11 = .ok (.iload_n 1, 1) := by decide +kernel
theorem dX10_notes_12 : decode cX10_notes 12 = .ok (.sipush 2508, 3) := by decide +kernel
theorem dX10_notes_15 : decode cX10_notes 15 = .ok (.if_icmp .ge 25, 3) := by decide +kernel
theorem dX10_notes_18 : decode cX10_notes 18 = .ok (.aload_n 0, 1) := by decide +kernel
theorem dX10_notes_19 : decode cX10_notes 19 = .ok (.getfield 16, 3) := by decide +kernel
theorem dX10_notes_22 : decode cX10_notes 22 = .ok (.iload_n 1, 1) := by decide +kernel
theorem dX10_notes_23 : decode cX10_notes 23 = .ok (.aload_n 0, 1) := by decide +kernel
theorem dX10_notes_24 : decode cX10_notes 24 = .ok (.getfield 16, 3) := by decide +kernel
theorem dX10_notes_27 : decode cX10_notes 27 = .ok (.iload_n 1, 1) := by decide +kernel
theorem dX10_notes_28 : decode cX10_notes 28 = .ok (.sipush 132, 3) := by decide +kernel
theorem dX10_notes_31 : decode cX10_notes 31 = .ok (.iadd, 1) := by decide +kernel
theorem dX10_notes_32 : decode cX10_notes 32 = .ok (.iaload, 1) := by decide +kernel
theorem dX10_notes_33 : decode cX10_notes 33 = .ok (.iastore, 1) := by decide +kernel
theorem dX10_notes_34 : decode cX10_notes 34 = .ok (.iinc 1 1, 3) := by decide +kernel
theorem dX10_notes_37 : decode cX10_notes 37 = .ok (.goto (-26), 3) := by decide +kernel
theorem dX10_notes_40 : decode cX10_notes 40 = .ok (.aload_n 0, 1) := by decide +kernel
theorem dX10_notes_41 : decode cX10_notes 41 = .ok (.dup, 1) := by decide +kernel
theorem dX10_notes_42 : decode cX10_notes 42 = .ok (.getfield 46, 3) := by decide +kernel
theorem dX10_notes_45 : decode cX10_notes 45 = .ok (.iconst 1, 1) := by decide +kernel
theorem dX10_notes_46 : decode cX10_notes 46 = .ok (.isub, 1) := by decide +kernel
theorem dX10_notes_47 : decode cX10_notes 47 = .ok (.putfield 46, 3) := by decide +kernel
theorem dX10_notes_50 : decode cX10_notes 50 = .ok (.iconst 0, 1) := by decide +kernel
theorem dX10_notes_51 : decode cX10_notes 51 = .ok (.istore_n 1, 1) := by decide +kernel
theorem dX10_notes_52 : decode cX10_notes 52 = .ok (.iload_n 1, 1) := by decide +kernel
theorem dX10_notes_53 : decode cX10_notes 53 = .ok (.sipush 132, 3) := by decide +kernel
theorem dX10_notes_56 : decode cX10_notes 56 = .ok (.if_icmp .ge 30, 3) := by decide +kernel
theorem dX10_notes_59 : decode cX10_notes 59 = .ok (.aload_n 0, 1) := by decide +kernel
theorem dX10_notes_60 : decode cX10_notes 60 = .ok (.getfield 16, 3) := by decide +kernel
theorem dX10_notes_63 : decode cX10_notes 63 = .ok (.sipush 132, 3) := by decide +kernel
theorem dX10_notes_66 : decode cX10_notes 66 = .ok (.aload_n 0, 1) := by decide +kernel
theorem dX10_notes_67 : decode cX10_notes 67 = .ok (.getfield 46, 3) := by decide +kernel
theorem dX10_notes_70 : decode cX10_notes 70 = .ok (.imul, 1) := by decide +kernel
theorem dX10_notes_71 : decode cX10_notes 71 = .ok (.iload_n 1, 1) := by decide +kernel
theorem dX10_notes_72 : decode cX10_notes 72 = .ok (.iadd, 1) := by decide +kernel
theorem dX10_notes_73 : decode cX10_notes 73 = .ok (.aload_n 0, 1) := by decide +kernel
theorem dX10_notes_74 : decode cX10_notes 74 = .ok (.getfield 7, 3) := by decide +kernel
theorem dX10_notes_77 : decode cX10_notes 77 = .ok (.iload_n 1, 1) := by decide +kernel
theorem dX10_notes_78 : decode cX10_notes 78 = .ok (.iaload, 1) := by decide +kernel
theorem dX10_notes_79 : decode cX10_notes 79 = .ok (.iastore, 1) := by decide +kernel
theorem dX10_notes_80 : decode cX10_notes 80 = .ok (.iinc 1 1, 3) := by decide +kernel
theorem dX10_notes_83 : decode cX10_notes 83 = .ok (.goto (-31), 3) := by decide +kernel
theorem dX10_notes_86 : decode cX10_notes 86 = .ok (.aload_n 0, 1) := by decide +kernel
theorem dX10_notes_87 : decode cX10_notes 87 = .ok (.dup, 1) := by decide +kernel
theorem dX10_notes_88 : decode cX10_notes 88 = .ok (.getfield 46, 3) := by decide +kernel
theorem dX10_notes_91 : decode cX10_notes 91 = .ok (.iconst 1, 1) := by decide +kernel
theorem dX10_notes_92 : decode cX10_notes 92 = .ok (.iadd, 1) := by decide +kernel
theorem dX10_notes_93 : decode cX10_notes 93 = .ok (.putfield 46, 3) := by decide +kernel
theorem dX10_notes_96 : decode cX10_notes 96 = .ok (.return_, 1) := by decide +kernel
set_option maxRecDepth 20000 in
theorem ggX10_isOn_X10_of : GoodIn wsX10_isOn wsX10_of := goodIn_r _ [5, 6, 10, 11, 12, 13, 14, 15, 16, 17, 18, 19, 20, 21, 22] (by decide +kernel) (by decide +kernel)
set_option maxRecDepth 20000 in
theorem gX10_isOn_X10_of : GoodIn wsX10_isOn (wsV RX10 50 RX10 yX10_of wsX10_of) := goodIn_app (goodIn_of _ (by decide +kernel)) ggX10_isOn_X10_of
set_option maxRecDepth 20000 in
theorem ggX10_isOn_X10_in : GoodIn wsX10_isOn wsX10_in := goodIn_r _ [9] (by decide +kernel) (by decide +kernel)
set_option maxRecDepth 20000 in
theorem gX10_isOn_X10_in : GoodIn wsX10_isOn (va_wsS RX10 42 yX10_in wsX10_in) := goodIn_app (goodIn_of _ (by decide +kernel)) ggX10_isOn_X10_in
theorem dX10_isOn_0 : decode cX10_isOn 0 = .ok (.iload_n 2, 1) := by decide +kernel
theorem dX10_isOn_1 : decode cX10_isOn 1 = .ok (.aload_n 0, 1) := by decide +kernel
theorem dX10_isOn_2 : decode cX10_isOn 2 = .ok (.iload_n 1, 1) := by decide +kernel
theorem dX10_isOn_3 : decode cX10_isOn 3 = .ok (.iconst 1, 1) := by decide +kernel
theorem dX10_isOn_4 : decode cX10_isOn 4 = .ok (.invokevirtual 50, 3) := by decide +kernel
theorem dX10_isOn_7 : decode cX10_isOn 7 = .ok (.isub, 1) := by decide +kernel
theorem dX10_isOn_8 : decode cX10_isOn 8 = .ok (.iconst 0, 1) := by decide +kernel
theorem dX10_isOn_9 : decode cX10_isOn 9 = .ok (.bipush 7, 2) := by decide +kernel
theorem dX10_isOn_11 : decode cX10_isOn 11 = .ok (.invokestatic 42, 3) := by decide +kernel
theorem dX10_isOn_14 : decode cX10_isOn 14 = .ok (.ireturn, 1) := by decide +kernel
set_option maxRecDepth 20000 in
theorem ggX10_hasDot_X10_of : GoodIn wsX10_hasDot wsX10_of := goodIn_r _ [6, 1, 13, 14, 15, 16, 17, 18, 19, 20, 21, 22, 23, 24, 25] (by decide +kernel) (by decide +kernel)
set_option maxRecDepth 20000 in
theorem gX10_hasDot_X10_of : GoodIn wsX10_hasDot (wsV RX10 50 RX10 yX10_of wsX10_of) := goodIn_app (goodIn_of _ (by decide +kernel)) ggX10_hasDot_X10_of
set_option maxRecDepth 20000 in
theorem ggX10_hasDot_X10_in : GoodIn wsX10_hasDot wsX10_in := goodIn_r _ [9] (by decide +kernel) (by decide +kernel)
set_option maxRecDepth 20000 in
theorem gX10_hasDot_X10_in : GoodIn wsX10_hasDot (va_wsS RX10 42 yX10_in wsX10_in) := goodIn_app (goodIn_of _ (by decide +kernel)) ggX10_hasDot_X10_in
set_option maxRecDepth 20000 in
theorem ggX10_hasDot_X10_has : GoodIn wsX10_hasDot wsX10_has := goodIn_r _ [12] (by decide +kernel) (by decide +kernel)
set_option maxRecDepth 20000 in
theorem gX10_hasDot_X10_has : GoodIn wsX10_hasDot (va_wsS RX10 54 yX10_has wsX10_has) := goodIn_app (goodIn_of _ (by decide +kernel)) ggX10_hasDot_X10_has
theorem dX10_hasDot_0 : decode cX10_hasDot 0 = .ok (.iload_n 2, 1) := by decide +kernel
theorem dX10_hasDot_1 : decode cX10_hasDot 1 = .ok (.aload_n 0, 1) := by decide +kernel
theorem dX10_hasDot_2 : decode cX10_hasDot 2 = .ok (.iload_n 1, 1) := by decide +kernel
theorem dX10_hasDot_3 : decode cX10_hasDot 3 = .ok (.iconst 1, 1) := by decide +kernel
theorem dX10_hasDot_4 : decode cX10_hasDot 4 = .ok (.invokevirtual 50, 3) := by decide +kernel
theorem dX10_hasDot_7 : decode cX10_hasDot 7 = .ok (.isub, 1) := by decide +kernel
theorem dX10_hasDot_8 : decode cX10_hasDot 8 = .ok (.istore 4, 2) := by decide +kernel
theorem dX10_hasDot_10 : decode cX10_hasDot 10 = .ok (.iload_n 3, 1) := by decide +kernel
theorem dX10_hasDot_11 : decode cX10_hasDot 11 = .ok (.aload_n 0, 1) := by decide +kernel
theorem dX10_hasDot_12 : decode cX10_hasDot 12 = .ok (.iload_n 1, 1) := by decide +kernel
theorem dX10_hasDot_13 : decode cX10_hasDot 13 = .ok (.iconst 0, 1) := by decide +kernel
theorem dX10_hasDot_14 : decode cX10_hasDot 14 = .ok (.invokevirtual 50, 3) := by decide +kernel
theorem dX10_hasDot_17 : decode cX10_hasDot 17 = .ok (.isub, 1) := by decide +kernel
theorem dX10_hasDot_18 : decode cX10_hasDot 18 = .ok (.istore 5, 2) := by decide +kernel
theorem dX10_hasDot_20 : decode cX10_hasDot 20 = .ok (.iload 4, 2) := by decide +kernel
theorem dX10_hasDot_22 : decode cX10_hasDot 22 = .ok (.iconst 0, 1) := by decide +kernel
theorem dX10_hasDot_23 : decode cX10_hasDot 23 = .ok (.bipush 7, 2) := by decide +kernel
theorem dX10_hasDot_25 : decode cX10_hasDot 25 = .ok (.invokestatic 42, 3) := by decide +kernel
theorem dX10_hasDot_28 : decode cX10_hasDot 28 = .ok (.ifCond .eq 14, 3) := by decide +kernel
theorem dX10_hasDot_31 : decode cX10_hasDot 31 = .ok (.iload 5, 2) := by decide +kernel
theorem dX10_hasDot_33 : decode cX10_hasDot 33 = .ok (.iconst 0, 1) := by decide +kernel
theorem dX10_hasDot_34 : decode cX10_hasDot 34 = .ok (.bipush 7, 2) := by decide +kernel
theorem dX10_hasDot_36 : decode cX10_hasDot 36 = .ok (.invokestatic 42, 3) := by decide +kernel
theorem dX10_hasDot_39 : decode cX10_hasDot 39 = .ok (.ifCond .ne 5, 3) := by decide +kernel
theorem dX10_hasDot_42 : decode cX10_hasDot 42 = .ok (.iconst 0, 1) := by decide +kernel
theorem dX10_hasDot_43 : decode cX10_hasDot 43 = .ok (.ireturn, 1) := by decide +kernel
theorem dX10_hasDot_44 : decode cX10_hasDot 44 = .ok (.aload_n 0, 1) := by decide +kernel
theorem dX10_hasDot_45 : decode cX10_hasDot 45 = .ok (.iload_n 1, 1) := by decide +kernel
theorem dX10_hasDot_46 : decode cX10_hasDot 46 = .ok (.iconst 3, 1) := by decide +kernel
theorem dX10_hasDot_47 : decode cX10_hasDot 47 = .ok (.invokevirtual 50, 3) := by decide +kernel
theorem dX10_hasDot_50 : decode cX10_hasDot 50 = .ok (.istore 6, 2) := by decide +kernel
theorem dX10_hasDot_52 : decode cX10_hasDot 52 = .ok (.aload_n 0, 1) := by decide +kernel
theorem dX10_hasDot_53 : decode cX10_hasDot 53 = .ok (.getfield 7, 3) := by decide +kernel
theorem dX10_hasDot_56 : decode cX10_hasDot 56 = .ok (.iconst 4, 1) := by decide +kernel
theorem dX10_hasDot_57 : decode cX10_hasDot 57 = .ok (.bipush 8, 2) := by decide +kernel
theorem dX10_hasDot_59 : decode cX10_hasDot 59 = .ok (.aload_n 0, 1) := by decide +kernel
theorem dX10_hasDot_60 : decode cX10_hasDot 60 = .ok (.iload_n 1, 1) := by decide +kernel
theorem dX10_hasDot_61 : decode cX10_hasDot 61 = .ok (.iconst 2, 1) := by decide +kernel
theorem dX10_hasDot_62 : decode cX10_hasDot 62 = .ok (.invokevirtual 50, 3) := by decide +kernel
theorem dX10_hasDot_65 : decode cX10_hasDot 65 = .ok (.imul, 1) := by decide +kernel
theorem dX10_hasDot_66 : decode cX10_hasDot 66 = .ok (.iadd, 1) := by decide +kernel
theorem dX10_hasDot_67 : decode cX10_hasDot 67 = .ok (.iload 6, 2) := by decide +kernel
theorem dX10_hasDot_69 : decode cX10_hasDot 69 = .ok (.iconst 2, 1) := by decide +kernel
theorem dX10_hasDot_70 : decode cX10_hasDot 70 = .ok (.if_icmp .lt 11, 3) := by decide +kernel
theorem dX10_hasDot_73 : decode cX10_hasDot 73 = .ok (.bipush 7, 2) := by decide +kernel
theorem dX10_hasDot_75 : decode cX10_hasDot 75 = .ok (.iload 4, 2) := by decide +kernel
theorem dX10_hasDot_77 : decode cX10_hasDot 77 = .ok (.isub, 1) := by decide +kernel
theorem dX10_hasDot_78 : decode cX10_hasDot 78 = .ok (.goto 5, 3) := by decide +kernel
theorem dX10_hasDot_81 : decode cX10_hasDot 81 = .ok (.iload 4, 2) := by decide +kernel
theorem dX10_hasDot_83 : decode cX10_hasDot 83 = .ok (.iadd, 1) := by decide +kernel
theorem dX10_hasDot_84 : decode cX10_hasDot 84 = .ok (.iaload, 1) := by decide +kernel
theorem dX10_hasDot_85 : decode cX10_hasDot 85 = .ok (.istore 7, 2) := by decide +kernel
theorem dX10_hasDot_87 : decode cX10_hasDot 87 = .ok (.iload 7, 2) := by decide +kernel
theorem dX10_hasDot_89 : decode cX10_hasDot 89 = .ok (.iload 6, 2) := by decide +kernel
theorem dX10_hasDot_91 : decode cX10_hasDot 91 = .ok (.iconst 2, 1) := by decide +kernel
theorem dX10_hasDot_92 : decode cX10_hasDot 92 = .ok (.irem, 1) := by decide +kernel
theorem dX10_hasDot_93 : decode cX10_hasDot 93 = .ok (.iconst 1, 1) := by decide +kernel
theorem dX10_hasDot_94 : decode cX10_hasDot 94 = .ok (.if_icmp .ne 8, 3) := by decide +kernel
theorem dX10_hasDot_97 : decode cX10_hasDot 97 = .ok (.iload 5, 2) := by decide +kernel
theorem dX10_hasDot_99 : decode cX10_hasDot 99 = .ok (.goto 8, 3) := by decide +kernel
theorem dX10_hasDot_102 : decode cX10_hasDot 102 = .ok (.bipush 7, 2) := by decide +kernel
theorem dX10_hasDot_104 : decode cX10_hasDot 104 = .ok (.iload 5, 2) := by decide +kernel
theorem dX10_hasDot_106 : decode cX10_hasDot 106 = .ok (.isub, 1) := by decide +kernel
theorem dX10_hasDot_107 : decode cX10_hasDot 107 = .ok (.invokestatic 54, 3) := by decide +kernel
theorem dX10_hasDot_110 : decode cX10_hasDot 110 = .ok (.ireturn, 1) := by decide +kernel
set_option maxRecDepth 20000 in
theorem ggX10_isAhead_X10_of : GoodIn wsX10_isAhead wsX10_of := goodIn_r _ [6, 1, 7, 8, 9, 10, 11, 12, 13, 14, 15, 16, 17, 18, 19] (by decide +kernel) (by decide +kernel)
set_option maxRecDepth 20000 in
theorem gX10_isAhead_X10_of : GoodIn wsX10_isAhead (wsV RX10 50 RX10 yX10_of wsX10_of) := goodIn_app (goodIn_of _ (by decide +kernel)) ggX10_isAhead_X10_of
theorem dX10_isAhead_0 : decode cX10_isAhead 0 = .ok (.aload_n 0, 1) := by decide +kernel
theorem dX10_isAhead_1 : decode cX10_isAhead 1 = .ok (.getfield 7, 3) := by decide +kernel
theorem dX10_isAhead_4 : decode cX10_isAhead 4 = .ok (.iconst 0, 1) := by decide +kernel
theorem dX10_isAhead_5 : decode cX10_isAhead 5 = .ok (.iaload, 1) := by decide +kernel
theorem dX10_isAhead_6 : decode cX10_isAhead 6 = .ok (.istore_n 3, 1) := by decide +kernel
theorem dX10_isAhead_7 : decode cX10_isAhead 7 = .ok (.aload_n 0, 1) := by decide +kernel
theorem dX10_isAhead_8 : decode cX10_isAhead 8 = .ok (.getfield 7, 3) := by decide +kernel
theorem dX10_isAhead_11 : decode cX10_isAhead 11 = .ok (.iconst 3, 1) := by decide +kernel
theorem dX10_isAhead_12 : decode cX10_isAhead 12 = .ok (.iaload, 1) := by decide +kernel
theorem dX10_isAhead_13 : decode cX10_isAhead 13 = .ok (.iload_n 3, 1) := by decide +kernel
theorem dX10_isAhead_14 : decode cX10_isAhead 14 = .ok (.irem, 1) := by decide +kernel
theorem dX10_isAhead_15 : decode cX10_isAhead 15 = .ok (.istore 4, 2) := by decide +kernel
theorem dX10_isAhead_17 : decode cX10_isAhead 17 = .ok (.aload_n 0, 1) := by decide +kernel
theorem dX10_isAhead_18 : decode cX10_isAhead 18 = .ok (.getfield 7, 3) := by decide +kernel
theorem dX10_isAhead_21 : decode cX10_isAhead 21 = .ok (.iconst 2, 1) := by decide +kernel
theorem dX10_isAhead_22 : decode cX10_isAhead 22 = .ok (.iaload, 1) := by decide +kernel
theorem dX10_isAhead_23 : decode cX10_isAhead 23 = .ok (.tableswitch 72 0 2 #[25, 36, 47], 25) := by decide +kernel
theorem dX10_isAhead_48 : decode cX10_isAhead 48 = .ok (.iload_n 1, 1) := by decide +kernel
theorem dX10_isAhead_49 : decode cX10_isAhead 49 = .ok (.iload_n 2, 1) := by decide +kernel
theorem dX10_isAhead_50 : decode cX10_isAhead 50 = .ok (.if_icmp .ge 7, 3) := by decide +kernel
theorem dX10_isAhead_53 : decode cX10_isAhead 53 = .ok (.iconst 1, 1) := by decide +kernel
theorem dX10_isAhead_54 : decode cX10_isAhead 54 = .ok (.goto 4, 3) := by decide +kernel
theorem dX10_isAhead_57 : decode cX10_isAhead 57 = .ok (.iconst 0, 1) := by decide +kernel
theorem dX10_isAhead_58 : decode cX10_isAhead 58 = .ok (.ireturn, 1) := by decide +kernel
theorem dX10_isAhead_59 : decode cX10_isAhead 59 = .ok (.iload_n 1, 1) := by decide +kernel
theorem dX10_isAhead_60 : decode cX10_isAhead 60 = .ok (.iload_n 2, 1) := by decide +kernel
theorem dX10_isAhead_61 : decode cX10_isAhead 61 = .ok (.if_icmp .le 7, 3) := by decide +kernel
theorem dX10_isAhead_64 : decode cX10_isAhead 64 = .ok (.iconst 1, 1) := by decide +kernel
theorem dX10_isAhead_65 : decode cX10_isAhead 65 = .ok (.goto 4, 3) := by decide +kernel
theorem dX10_isAhead_68 : decode cX10_isAhead 68 = .ok (.iconst 0, 1) := by decide +kernel
theorem dX10_isAhead_69 : decode cX10_isAhead 69 = .ok (.ireturn, 1) := by decide +kernel
theorem dX10_isAhead_70 : decode cX10_isAhead 70 = .ok (.iload_n 1, 1) := by decide +kernel
theorem dX10_isAhead_71 : decode cX10_isAhead 71 = .ok (.iload 4, 2) := by decide +kernel
theorem dX10_isAhead_73 : decode cX10_isAhead 73 = .ok (.isub, 1) := by decide +kernel
theorem dX10_isAhead_74 : decode cX10_isAhead 74 = .ok (.iload_n 3, 1) := by decide +kernel
theorem dX10_isAhead_75 : decode cX10_isAhead 75 = .ok (.iadd, 1) := by decide +kernel
theorem dX10_isAhead_76 : decode cX10_isAhead 76 = .ok (.iload_n 3, 1) := by decide +kernel
theorem dX10_isAhead_77 : decode cX10_isAhead 77 = .ok (.irem, 1) := by decide +kernel
theorem dX10_isAhead_78 : decode cX10_isAhead 78 = .ok (.iload_n 2, 1) := by decide +kernel
theorem dX10_isAhead_79 : decode cX10_isAhead 79 = .ok (.iload 4, 2) := by decide +kernel
theorem dX10_isAhead_81 : decode cX10_isAhead 81 = .ok (.isub, 1) := by decide +kernel
theorem dX10_isAhead_82 : decode cX10_isAhead 82 = .ok (.iload_n 3, 1) := by decide +kernel
theorem dX10_isAhead_83 : decode cX10_isAhead 83 = .ok (.iadd, 1) := by decide +kernel
theorem dX10_isAhead_84 : decode cX10_isAhead 84 = .ok (.iload_n 3, 1) := by decide +kernel
theorem dX10_isAhead_85 : decode cX10_isAhead 85 = .ok (.irem, 1) := by decide +kernel
theorem dX10_isAhead_86 : decode cX10_isAhead 86 = .ok (.if_icmp .ge 7, 3) := by decide +kernel
theorem dX10_isAhead_89 : decode cX10_isAhead 89 = .ok (.iconst 1, 1) := by decide +kernel
theorem dX10_isAhead_90 : decode cX10_isAhead 90 = .ok (.goto 4, 3) := by decide +kernel
theorem dX10_isAhead_93 : decode cX10_isAhead 93 = .ok (.iconst 0, 1) := by decide +kernel
theorem dX10_isAhead_94 : decode cX10_isAhead 94 = .ok (.ireturn, 1) := by decide +kernel
theorem dX10_isAhead_95 : decode cX10_isAhead 95 = .ok (.aload_n 0, 1) := by decide +kernel
theorem dX10_isAhead_96 : decode cX10_isAhead 96 = .ok (.iload_n 1, 1) := by decide +kernel
theorem dX10_isAhead_97 : decode cX10_isAhead 97 = .ok (.iconst 4, 1) := by decide +kernel
theorem dX10_isAhead_98 : decode cX10_isAhead 98 = .ok (.invokevirtual 50, 3) := by decide +kernel
theorem dX10_isAhead_101 : decode cX10_isAhead 101 = .ok (.aload_n 0, 1) := by decide +kernel
theorem dX10_isAhead_102 : decode cX10_isAhead 102 = .ok (.iload_n 2, 1) := by decide +kernel
theorem dX10_isAhead_103 : decode cX10_isAhead 103 = .ok (.iconst 4, 1) := by decide +kernel
theorem dX10_isAhead_104 : decode cX10_isAhead 104 = .ok (.invokevirtual 50, 3) := by decide +kernel
theorem dX10_isAhead_107 : decode cX10_isAhead 107 = .ok (.if_icmp .lt 23, 3) := by decide +kernel
theorem dX10_isAhead_110 : decode cX10_isAhead 110 = .ok (.aload_n 0, 1) := by decide +kernel
theorem dX10_isAhead_111 : decode cX10_isAhead 111 = .ok (.iload_n 1, 1) := by decide +kernel
theorem dX10_isAhead_112 : decode cX10_isAhead 112 = .ok (.iconst 4, 1) := by decide +kernel
theorem dX10_isAhead_113 : decode cX10_isAhead 113 = .ok (.invokevirtual 50, 3) := by decide +kernel
theorem dX10_isAhead_116 : decode cX10_isAhead 116 = .ok (.aload_n 0, 1) := by decide +kernel
theorem dX10_isAhead_117 : decode cX10_isAhead 117 = .ok (.iload_n 2, 1) := by decide +kernel
theorem dX10_isAhead_118 : decode cX10_isAhead 118 = .ok (.iconst 4, 1) := by decide +kernel
theorem dX10_isAhead_119 : decode cX10_isAhead 119 = .ok (.invokevirtual 50, 3) := by decide +kernel
theorem dX10_isAhead_122 : decode cX10_isAhead 122 = .ok (.if_icmp .ne 12, 3) := by decide +kernel
theorem dX10_isAhead_125 : decode cX10_isAhead 125 = .ok (.iload_n 1, 1) := by decide +kernel
theorem dX10_isAhead_126 : decode cX10_isAhead 126 = .ok (.iload_n 2, 1) := by decide +kernel
theorem dX10_isAhead_127 : decode cX10_isAhead 127 = .ok (.if_icmp .ge 7, 3) := by decide +kernel
theorem dX10_isAhead_130 : decode cX10_isAhead 130 = .ok (.iconst 1, 1) := by decide +kernel
theorem dX10_isAhead_131 : decode cX10_isAhead 131 = .ok (.goto 4, 3) := by decide +kernel
theorem dX10_isAhead_134 : decode cX10_isAhead 134 = .ok (.iconst 0, 1) := by decide +kernel
theorem dX10_isAhead_135 : decode cX10_isAhead 135 = .ok (.ireturn, 1) := by decide +kernel
set_option maxRecDepth 20000 in
theorem ggX10_onLine_X10_isOn : GoodIn wsX10_onLine wsX10_isOn := goodIn_r _ [6, 7, 8, 9, 5, 10, 1, 11, 12, 13, 14, 15, 16, 17, 18, 19, 20, 21, 22, 23, 24, 25, 26] (by decide +kernel) (by decide +kernel)
set_option maxRecDepth 20000 in
theorem gX10_onLine_X10_isOn : GoodIn wsX10_onLine (wsV RX10 58 RX10 yX10_isOn wsX10_isOn) := goodIn_app (goodIn_of _ (by decide +kernel)) ggX10_onLine_X10_isOn
theorem dX10_onLine_0 : decode cX10_onLine 0 = .ok (.iconst 0, 1) := by decide +kernel
theorem dX10_onLine_1 : decode cX10_onLine 1 = .ok (.istore_n 2, 1) := by decide +kernel
theorem dX10_onLine_2 : decode cX10_onLine 2 = .ok (.iconst 0, 1) := by decide +kernel
theorem dX10_onLine_3 : decode cX10_onLine 3 = .ok (.istore_n 3, 1) := by decide +kernel
theorem dX10_onLine_4 : decode cX10_onLine 4 = .ok (.iload_n 3, 1) := by decide +kernel
theorem dX10_onLine_5 : decode cX10_onLine 5 = .ok (.aload_n 0, 1) := by decide +kernel
theorem dX10_onLine_6 : decode cX10_onLine 6 = .ok (.getfield 7, 3) := by decide +kernel
theorem dX10_onLine_9 : decode cX10_onLine 9 = .ok (.iconst 0, 1) := by decide +kernel
theorem dX10_onLine_10 : decode cX10_onLine 10 = .ok (.iaload, 1) := by decide +kernel
theorem dX10_onLine_11 : decode cX10_onLine 11 = .ok (.if_icmp .ge 28, 3) := by decide +kernel
theorem dX10_onLine_14 : decode cX10_onLine 14 = .ok (.iload_n 2, 1) := by decide +kernel
theorem dX10_onLine_15 : decode cX10_onLine 15 = .ok (.aload_n 0, 1) := by decide +kernel
theorem dX10_onLine_16 : decode cX10_onLine 16 = .ok (.iload_n 3, 1) := by decide +kernel
theorem dX10_onLine_17 : decode cX10_onLine 17 = .ok (.iload_n 1, 1) := by decide +kernel
theorem dX10_onLine_18 : decode cX10_onLine 18 = .ok (.invokevirtual 58, 3) := by decide +kernel
theorem dX10_onLine_21 : decode cX10_onLine 21 = .ok (.ifCond .eq 9, 3) := by decide +kernel
theorem dX10_onLine_24 : decode cX10_onLine 24 = .ok (.iconst 1, 1) := by decide +kernel
theorem dX10_onLine_25 : decode cX10_onLine 25 = .ok (.iload_n 3, 1) := by decide +kernel
theorem dX10_onLine_26 : decode cX10_onLine 26 = .ok (.ishl, 1) := by decide +kernel
theorem dX10_onLine_27 : decode cX10_onLine 27 = .ok (.goto 4, 3) := by decide +kernel
theorem dX10_onLine_30 : decode cX10_onLine 30 = .ok (.iconst 0, 1) := by decide +kernel
theorem dX10_onLine_31 : decode cX10_onLine 31 = .ok (.ior, 1) := by decide +kernel
theorem dX10_onLine_32 : decode cX10_onLine 32 = .ok (.istore_n 2, 1) := by decide +kernel
theorem dX10_onLine_33 : decode cX10_onLine 33 = .ok (.iinc 3 1, 3) := by decide +kernel
theorem dX10_onLine_36 : decode cX10_onLine 36 = .ok (.goto (-32), 3) := by decide +kernel
theorem dX10_onLine_39 : decode cX10_onLine 39 = .ok (.iload_n 2, 1) := by decide +kernel
theorem dX10_onLine_40 : decode cX10_onLine 40 = .ok (.ireturn, 1) := by decide +kernel
set_option maxRecDepth 20000 in
theorem ggX10_drawnBy_X10_onLine : GoodIn wsX10_drawnBy wsX10_onLine := goodIn_r _ [6, 1, 7, 8, 9, 5, 10, 11, 12, 13, 14, 15, 16, 17, 25, 26, 27, 28, 29, 30, 31, 32, 33, 34, 35, 36, 37] (by decide +kernel) (by decide +kernel)
set_option maxRecDepth 20000 in
theorem gX10_drawnBy_X10_onLine : GoodIn wsX10_drawnBy (wsV RX10 61 RX10 yX10_onLine wsX10_onLine) := goodIn_app (goodIn_of _ (by decide +kernel)) ggX10_drawnBy_X10_onLine
set_option maxRecDepth 20000 in
theorem ggX10_drawnBy_X10_has : GoodIn wsX10_drawnBy wsX10_has := goodIn_r _ [20] (by decide +kernel) (by decide +kernel)
set_option maxRecDepth 20000 in
theorem gX10_drawnBy_X10_has : GoodIn wsX10_drawnBy (va_wsS RX10 54 yX10_has wsX10_has) := goodIn_app (goodIn_of _ (by decide +kernel)) ggX10_drawnBy_X10_has
set_option maxRecDepth 20000 in
theorem ggX10_drawnBy_X10_isAhead : GoodIn wsX10_drawnBy wsX10_isAhead := goodIn_r _ [24, 1, 11, 12, 13, 5, 14, 25, 26, 27, 28, 29, 30, 31, 32, 33, 34, 35, 36, 37] (by decide +kernel) (by decide +kernel)
set_option maxRecDepth 20000 in
theorem gX10_drawnBy_X10_isAhead : GoodIn wsX10_drawnBy (wsV RX10 65 RX10 yX10_isAhead wsX10_isAhead) := goodIn_app (goodIn_of _ (by decide +kernel)) ggX10_drawnBy_X10_isAhead
theorem dX10_drawnBy_0 : decode cX10_drawnBy 0 = .ok (.aload_n 0, 1) := by decide +kernel
theorem dX10_drawnBy_1 : decode cX10_drawnBy 1 = .ok (.iload_n 1, 1) := by decide +kernel
theorem dX10_drawnBy_2 : decode cX10_drawnBy 2 = .ok (.invokevirtual 61, 3) := by decide +kernel
theorem dX10_drawnBy_5 : decode cX10_drawnBy 5 = .ok (.istore_n 3, 1) := by decide +kernel
theorem dX10_drawnBy_6 : decode cX10_drawnBy 6 = .ok (.iconst 0, 1) := by decide +kernel
theorem dX10_drawnBy_7 : decode cX10_drawnBy 7 = .ok (.istore 4, 2) := by decide +kernel
theorem dX10_drawnBy_9 : decode cX10_drawnBy 9 = .ok (.iconst 0, 1) := by decide +kernel
theorem dX10_drawnBy_10 : decode cX10_drawnBy 10 = .ok (.istore 5, 2) := by decide +kernel
theorem dX10_drawnBy_12 : decode cX10_drawnBy 12 = .ok (.iload 5, 2) := by decide +kernel
theorem dX10_drawnBy_14 : decode cX10_drawnBy 14 = .ok (.aload_n 0, 1) := by decide +kernel
theorem dX10_drawnBy_15 : decode cX10_drawnBy 15 = .ok (.getfield 7, 3) := by decide +kernel
theorem dX10_drawnBy_18 : decode cX10_drawnBy 18 = .ok (.iconst 0, 1) := by decide +kernel
theorem dX10_drawnBy_19 : decode cX10_drawnBy 19 = .ok (.iaload, 1) := by decide +kernel
theorem dX10_drawnBy_20 : decode cX10_drawnBy 20 = .ok (.if_icmp .ge 97, 3) := by decide +kernel
theorem dX10_drawnBy_23 : decode cX10_drawnBy 23 = .ok (.iconst 0, 1) := by decide +kernel
theorem dX10_drawnBy_24 : decode cX10_drawnBy 24 = .ok (.istore 6, 2) := by decide +kernel
theorem dX10_drawnBy_26 : decode cX10_drawnBy 26 = .ok (.iconst 0, 1) := by decide +kernel
theorem dX10_drawnBy_27 : decode cX10_drawnBy 27 = .ok (.istore 7, 2) := by decide +kernel
theorem dX10_drawnBy_29 : decode cX10_drawnBy 29 = .ok (.iload 7, 2) := by decide +kernel
theorem dX10_drawnBy_31 : decode cX10_drawnBy 31 = .ok (.aload_n 0, 1) := by decide +kernel
theorem dX10_drawnBy_32 : decode cX10_drawnBy 32 = .ok (.getfield 7, 3) := by decide +kernel
theorem dX10_drawnBy_35 : decode cX10_drawnBy 35 = .ok (.iconst 0, 1) := by decide +kernel
theorem dX10_drawnBy_36 : decode cX10_drawnBy 36 = .ok (.iaload, 1) := by decide +kernel
theorem dX10_drawnBy_37 : decode cX10_drawnBy 37 = .ok (.if_icmp .ge 46, 3) := by decide +kernel
theorem dX10_drawnBy_40 : decode cX10_drawnBy 40 = .ok (.iload 6, 2) := by decide +kernel
theorem dX10_drawnBy_42 : decode cX10_drawnBy 42 = .ok (.iload 7, 2) := by decide +kernel
theorem dX10_drawnBy_44 : decode cX10_drawnBy 44 = .ok (.iload 5, 2) := by decide +kernel
theorem dX10_drawnBy_46 : decode cX10_drawnBy 46 = .ok (.if_icmp .eq 27, 3) := by decide +kernel
theorem dX10_drawnBy_49 : decode cX10_drawnBy 49 = .ok (.iload_n 3, 1) := by decide +kernel
theorem dX10_drawnBy_50 : decode cX10_drawnBy 50 = .ok (.iload 7, 2) := by decide +kernel
theorem dX10_drawnBy_52 : decode cX10_drawnBy 52 = .ok (.invokestatic 54, 3) := by decide +kernel
theorem dX10_drawnBy_55 : decode cX10_drawnBy 55 = .ok (.ifCond .eq 18, 3) := by decide +kernel
theorem dX10_drawnBy_58 : decode cX10_drawnBy 58 = .ok (.aload_n 0, 1) := by decide +kernel
theorem dX10_drawnBy_59 : decode cX10_drawnBy 59 = .ok (.iload 7, 2) := by decide +kernel
theorem dX10_drawnBy_61 : decode cX10_drawnBy 61 = .ok (.iload 5, 2) := by decide +kernel
theorem dX10_drawnBy_63 : decode cX10_drawnBy 63 = .ok (.invokevirtual 65, 3) := by decide +kernel
theorem dX10_drawnBy_66 : decode cX10_drawnBy 66 = .ok (.ifCond .eq 7, 3) := by decide +kernel
theorem dX10_drawnBy_69 : decode cX10_drawnBy 69 = .ok (.iconst 1, 1) := by decide +kernel
theorem dX10_drawnBy_70 : decode cX10_drawnBy 70 = .ok (.goto 4, 3) := by decide +kernel
theorem dX10_drawnBy_73 : decode cX10_drawnBy 73 = .ok (.iconst 0, 1) := by decide +kernel
theorem dX10_drawnBy_74 : decode cX10_drawnBy 74 = .ok (.iadd, 1) := by decide +kernel
theorem dX10_drawnBy_75 : decode cX10_drawnBy 75 = .ok (.istore 6, 2) := by decide +kernel
theorem dX10_drawnBy_77 : decode cX10_drawnBy 77 = .ok (.iinc 7 1, 3) := by decide +kernel
theorem dX10_drawnBy_80 : decode cX10_drawnBy 80 = .ok (.goto (-51), 3) := by decide +kernel
theorem dX10_drawnBy_83 : decode cX10_drawnBy 83 = .ok (.iload 4, 2) := by decide +kernel
theorem dX10_drawnBy_85 : decode cX10_drawnBy 85 = .ok (.iload_n 3, 1) := by decide +kernel
theorem dX10_drawnBy_86 : decode cX10_drawnBy 86 = .ok (.iload 5, 2) := by decide +kernel
theorem dX10_drawnBy_88 : decode cX10_drawnBy 88 = .ok (.invokestatic 54, 3) := by decide +kernel
theorem dX10_drawnBy_91 : decode cX10_drawnBy 91 = .ok (.ifCond .eq 16, 3) := by decide +kernel
theorem dX10_drawnBy_94 : decode cX10_drawnBy 94 = .ok (.iload 6, 2) := by decide +kernel
theorem dX10_drawnBy_96 : decode cX10_drawnBy 96 = .ok (.iload_n 2, 1) := by decide +kernel
theorem dX10_drawnBy_97 : decode cX10_drawnBy 97 = .ok (.if_icmp .ge 10, 3) := by decide +kernel
theorem dX10_drawnBy_100 : decode cX10_drawnBy 100 = .ok (.iconst 1, 1) := by decide +kernel
theorem dX10_drawnBy_101 : decode cX10_drawnBy 101 = .ok (.iload 5, 2) := by decide +kernel
theorem dX10_drawnBy_103 : decode cX10_drawnBy 103 = .ok (.ishl, 1) := by decide +kernel
theorem dX10_drawnBy_104 : decode cX10_drawnBy 104 = .ok (.goto 4, 3) := by decide +kernel
theorem dX10_drawnBy_107 : decode cX10_drawnBy 107 = .ok (.iconst 0, 1) := by decide +kernel
theorem dX10_drawnBy_108 : decode cX10_drawnBy 108 = .ok (.ior, 1) := by decide +kernel
theorem dX10_drawnBy_109 : decode cX10_drawnBy 109 = .ok (.istore 4, 2) := by decide +kernel
theorem dX10_drawnBy_111 : decode cX10_drawnBy 111 = .ok (.iinc 5 1, 3) := by decide +kernel
theorem dX10_drawnBy_114 : decode cX10_drawnBy 114 = .ok (.goto (-102), 3) := by decide +kernel
theorem dX10_drawnBy_117 : decode cX10_drawnBy 117 = .ok (.iload 4, 2) := by decide +kernel
theorem dX10_drawnBy_119 : decode cX10_drawnBy 119 = .ok (.ireturn, 1) := by decide +kernel
set_option maxRecDepth 20000 in
theorem ggX10_drawnOn_X10_drawnBy : GoodIn wsX10_drawnOn wsX10_drawnBy := goodIn_r _ [6, 1, 7, 8, 9, 5, 10, 11, 12, 13, 14, 15, 16, 17, 18, 19, 20, 21, 22, 23, 24, 25, 26, 27, 28, 29, 30, 31, 32, 33, 34, 35, 36, 37, 38, 39, 40, 41] (by decide +kernel) (by decide +kernel)
set_option maxRecDepth 20000 in
theorem gX10_drawnOn_X10_drawnBy : GoodIn wsX10_drawnOn (wsV RX10 68 RX10 yX10_drawnBy wsX10_drawnBy) := goodIn_app (goodIn_of _ (by decide +kernel)) ggX10_drawnOn_X10_drawnBy
theorem dX10_drawnOn_0 : decode cX10_drawnOn 0 = .ok (.aload_n 0, 1) := by decide +kernel
theorem dX10_drawnOn_1 : decode cX10_drawnOn 1 = .ok (.iload_n 1, 1) := by decide +kernel
theorem dX10_drawnOn_2 : decode cX10_drawnOn 2 = .ok (.aload_n 0, 1) := by decide +kernel
theorem dX10_drawnOn_3 : decode cX10_drawnOn 3 = .ok (.getfield 7, 3) := by decide +kernel
theorem dX10_drawnOn_6 : decode cX10_drawnOn 6 = .ok (.iconst 1, 1) := by decide +kernel
theorem dX10_drawnOn_7 : decode cX10_drawnOn 7 = .ok (.iaload, 1) := by decide +kernel
theorem dX10_drawnOn_8 : decode cX10_drawnOn 8 = .ok (.invokevirtual 68, 3) := by decide +kernel
theorem dX10_drawnOn_11 : decode cX10_drawnOn 11 = .ok (.ireturn, 1) := by decide +kernel
set_option maxRecDepth 20000 in
theorem ggX10_seenAt_X10_has : GoodIn wsX10_seenAt wsX10_has := goodIn_r _ [5] (by decide +kernel) (by decide +kernel)
set_option maxRecDepth 20000 in
theorem gX10_seenAt_X10_has : GoodIn wsX10_seenAt (va_wsS RX10 54 yX10_has wsX10_has) := goodIn_app (goodIn_of _ (by decide +kernel)) ggX10_seenAt_X10_has
set_option maxRecDepth 20000 in
theorem ggX10_seenAt_X10_hasDot : GoodIn wsX10_seenAt wsX10_hasDot := goodIn_r _ [9, 1, 10, 11, 12, 4, 13, 14, 15, 16, 2, 3, 5, 17, 18, 19, 20, 21, 22, 23, 24, 25, 26, 27, 28, 29] (by decide +kernel) (by decide +kernel)
set_option maxRecDepth 20000 in
theorem gX10_seenAt_X10_hasDot : GoodIn wsX10_seenAt (wsV RX10 71 RX10 yX10_hasDot wsX10_hasDot) := goodIn_app (goodIn_of _ (by decide +kernel)) ggX10_seenAt_X10_hasDot
set_option maxRecDepth 20000 in
theorem ggX10_seenAt_X10_of : GoodIn wsX10_seenAt wsX10_of := goodIn_r _ [13, 1, 17, 18, 19, 20, 21, 22, 23, 24, 25, 26, 27, 28, 29] (by decide +kernel) (by decide +kernel)
set_option maxRecDepth 20000 in
theorem gX10_seenAt_X10_of : GoodIn wsX10_seenAt (wsV RX10 50 RX10 yX10_of wsX10_of) := goodIn_app (goodIn_of _ (by decide +kernel)) ggX10_seenAt_X10_of
theorem dX10_seenAt_0 : decode cX10_seenAt 0 = .ok (.iconst (-1), 1) := by decide +kernel
theorem dX10_seenAt_1 : decode cX10_seenAt 1 = .ok (.istore 4, 2) := by decide +kernel
theorem dX10_seenAt_3 : decode cX10_seenAt 3 = .ok (.aload_n 0, 1) := by decide +kernel
theorem dX10_seenAt_4 : decode cX10_seenAt 4 = .ok (.getfield 7, 3) := by decide +kernel
theorem dX10_seenAt_7 : decode cX10_seenAt 7 = .ok (.iconst 0, 1) := by decide +kernel
theorem dX10_seenAt_8 : decode cX10_seenAt 8 = .ok (.iaload, 1) := by decide +kernel
theorem dX10_seenAt_9 : decode cX10_seenAt 9 = .ok (.iconst 1, 1) := by decide +kernel
theorem dX10_seenAt_10 : decode cX10_seenAt 10 = .ok (.isub, 1) := by decide +kernel
theorem dX10_seenAt_11 : decode cX10_seenAt 11 = .ok (.istore 5, 2) := by decide +kernel
theorem dX10_seenAt_13 : decode cX10_seenAt 13 = .ok (.iload 5, 2) := by decide +kernel
theorem dX10_seenAt_15 : decode cX10_seenAt 15 = .ok (.ifCond .lt 73, 3) := by decide +kernel
theorem dX10_seenAt_18 : decode cX10_seenAt 18 = .ok (.iload_n 1, 1) := by decide +kernel
theorem dX10_seenAt_19 : decode cX10_seenAt 19 = .ok (.iload 5, 2) := by decide +kernel
theorem dX10_seenAt_21 : decode cX10_seenAt 21 = .ok (.invokestatic 54, 3) := by decide +kernel
theorem dX10_seenAt_24 : decode cX10_seenAt 24 = .ok (.ifCond .eq 18, 3) := by decide +kernel
theorem dX10_seenAt_27 : decode cX10_seenAt 27 = .ok (.aload_n 0, 1) := by decide +kernel
theorem dX10_seenAt_28 : decode cX10_seenAt 28 = .ok (.iload 5, 2) := by decide +kernel
theorem dX10_seenAt_30 : decode cX10_seenAt 30 = .ok (.iload_n 2, 1) := by decide +kernel
theorem dX10_seenAt_31 : decode cX10_seenAt 31 = .ok (.iload_n 3, 1) := by decide +kernel
theorem dX10_seenAt_32 : decode cX10_seenAt 32 = .ok (.invokevirtual 71, 3) := by decide +kernel
theorem dX10_seenAt_35 : decode cX10_seenAt 35 = .ok (.ifCond .eq 7, 3) := by decide +kernel
theorem dX10_seenAt_38 : decode cX10_seenAt 38 = .ok (.iconst 1, 1) := by decide +kernel
theorem dX10_seenAt_39 : decode cX10_seenAt 39 = .ok (.goto 4, 3) := by decide +kernel
theorem dX10_seenAt_42 : decode cX10_seenAt 42 = .ok (.iconst 0, 1) := by decide +kernel
theorem dX10_seenAt_43 : decode cX10_seenAt 43 = .ok (.istore 6, 2) := by decide +kernel
theorem dX10_seenAt_45 : decode cX10_seenAt 45 = .ok (.iload 6, 2) := by decide +kernel
theorem dX10_seenAt_47 : decode cX10_seenAt 47 = .ok (.ifCond .eq 31, 3) := by decide +kernel
theorem dX10_seenAt_50 : decode cX10_seenAt 50 = .ok (.iload 4, 2) := by decide +kernel
theorem dX10_seenAt_52 : decode cX10_seenAt 52 = .ok (.iconst (-1), 1) := by decide +kernel
theorem dX10_seenAt_53 : decode cX10_seenAt 53 = .ok (.if_icmp .eq 20, 3) := by decide +kernel
theorem dX10_seenAt_56 : decode cX10_seenAt 56 = .ok (.aload_n 0, 1) := by decide +kernel
theorem dX10_seenAt_57 : decode cX10_seenAt 57 = .ok (.iload 5, 2) := by decide +kernel
theorem dX10_seenAt_59 : decode cX10_seenAt 59 = .ok (.iconst 4, 1) := by decide +kernel
theorem dX10_seenAt_60 : decode cX10_seenAt 60 = .ok (.invokevirtual 50, 3) := by decide +kernel
theorem dX10_seenAt_63 : decode cX10_seenAt 63 = .ok (.aload_n 0, 1) := by decide +kernel
theorem dX10_seenAt_64 : decode cX10_seenAt 64 = .ok (.iload 4, 2) := by decide +kernel
theorem dX10_seenAt_66 : decode cX10_seenAt 66 = .ok (.iconst 4, 1) := by decide +kernel
theorem dX10_seenAt_67 : decode cX10_seenAt 67 = .ok (.invokevirtual 50, 3) := by decide +kernel
theorem dX10_seenAt_70 : decode cX10_seenAt 70 = .ok (.if_icmp .gt 8, 3) := by decide +kernel
theorem dX10_seenAt_73 : decode cX10_seenAt 73 = .ok (.iload 5, 2) := by decide +kernel
theorem dX10_seenAt_75 : decode cX10_seenAt 75 = .ok (.goto 5, 3) := by decide +kernel
theorem dX10_seenAt_78 : decode cX10_seenAt 78 = .ok (.iload 4, 2) := by decide +kernel
theorem dX10_seenAt_80 : decode cX10_seenAt 80 = .ok (.istore 4, 2) := by decide +kernel
theorem dX10_seenAt_82 : decode cX10_seenAt 82 = .ok (.iinc 5 (-1), 3) := by decide +kernel
theorem dX10_seenAt_85 : decode cX10_seenAt 85 = .ok (.goto (-72), 3) := by decide +kernel
theorem dX10_seenAt_88 : decode cX10_seenAt 88 = .ok (.iload 4, 2) := by decide +kernel
theorem dX10_seenAt_90 : decode cX10_seenAt 90 = .ok (.ireturn, 1) := by decide +kernel
set_option maxRecDepth 20000 in
theorem ggX10_colourAt_X10_seenAt : GoodIn wsX10_colourAt wsX10_seenAt := goodIn_r _ [5, 6, 7, 8, 4, 9, 10, 11, 12, 13, 14, 15, 16, 17, 18, 19, 20, 21, 22, 23, 24, 25, 26, 27, 28, 29, 30, 31, 32, 33] (by decide +kernel) (by decide +kernel)
set_option maxRecDepth 20000 in
theorem gX10_colourAt_X10_seenAt : GoodIn wsX10_colourAt (wsV RX10 74 RX10 yX10_seenAt wsX10_seenAt) := goodIn_app (goodIn_of _ (by decide +kernel)) ggX10_colourAt_X10_seenAt
set_option maxRecDepth 20000 in
theorem ggX10_colourAt_X10_of : GoodIn wsX10_colourAt wsX10_of := goodIn_r _ [17, 6, 21, 22, 23, 24, 25, 26, 27, 28, 29, 30, 31, 32, 33] (by decide +kernel) (by decide +kernel)
set_option maxRecDepth 20000 in
theorem gX10_colourAt_X10_of : GoodIn wsX10_colourAt (wsV RX10 50 RX10 yX10_of wsX10_of) := goodIn_app (goodIn_of _ (by decide +kernel)) ggX10_colourAt_X10_of
theorem dX10_colourAt_0 : decode cX10_colourAt 0 = .ok (.aload_n 0, 1) := by decide +kernel
theorem dX10_colourAt_1 : decode cX10_colourAt 1 = .ok (.iload_n 1, 1) := by decide +kernel
theorem dX10_colourAt_2 : decode cX10_colourAt 2 = .ok (.iload_n 2, 1) := by decide +kernel
theorem dX10_colourAt_3 : decode cX10_colourAt 3 = .ok (.iload_n 3, 1) := by decide +kernel
theorem dX10_colourAt_4 : decode cX10_colourAt 4 = .ok (.invokevirtual 74, 3) := by decide +kernel
theorem dX10_colourAt_7 : decode cX10_colourAt 7 = .ok (.istore 4, 2) := by decide +kernel
theorem dX10_colourAt_9 : decode cX10_colourAt 9 = .ok (.iload 4, 2) := by decide +kernel
theorem dX10_colourAt_11 : decode cX10_colourAt 11 = .ok (.iconst (-1), 1) := by decide +kernel
theorem dX10_colourAt_12 : decode cX10_colourAt 12 = .ok (.if_icmp .ne 7, 3) := by decide +kernel
theorem dX10_colourAt_15 : decode cX10_colourAt 15 = .ok (.iconst 0, 1) := by decide +kernel
theorem dX10_colourAt_16 : decode cX10_colourAt 16 = .ok (.goto 10, 3) := by decide +kernel
theorem dX10_colourAt_19 : decode cX10_colourAt 19 = .ok (.aload_n 0, 1) := by decide +kernel
theorem dX10_colourAt_20 : decode cX10_colourAt 20 = .ok (.iload 4, 2) := by decide +kernel
theorem dX10_colourAt_22 : decode cX10_colourAt 22 = .ok (.iconst 5, 1) := by decide +kernel
theorem dX10_colourAt_23 : decode cX10_colourAt 23 = .ok (.invokevirtual 50, 3) := by decide +kernel
theorem dX10_colourAt_26 : decode cX10_colourAt 26 = .ok (.ireturn, 1) := by decide +kernel
set_option maxRecDepth 20000 in
theorem ggX10_draws_X10_drawnOn : GoodIn wsX10_draws wsX10_drawnOn := goodIn_r _ [6, 7, 8, 9, 10, 5, 11, 12, 13, 14, 15, 16, 17, 18, 19, 20, 21, 22, 23, 24, 25, 26, 27, 28, 29, 30, 31, 32, 33, 34, 35, 36, 37, 38, 39, 40, 41, 42, 43, 44, 45, 46] (by decide +kernel) (by decide +kernel)
set_option maxRecDepth 20000 in
theorem gX10_draws_X10_drawnOn : GoodIn wsX10_draws (wsV RX10 78 RX10 yX10_drawnOn wsX10_drawnOn) := goodIn_app (goodIn_of _ (by decide +kernel)) ggX10_draws_X10_drawnOn
theorem dX10_draws_0 : decode cX10_draws 0 = .ok (.iconst 0, 1) := by decide +kernel
theorem dX10_draws_1 : decode cX10_draws 1 = .ok (.istore_n 1, 1) := by decide +kernel
theorem dX10_draws_2 : decode cX10_draws 2 = .ok (.iload_n 1, 1) := by decide +kernel
theorem dX10_draws_3 : decode cX10_draws 3 = .ok (.bipush 24, 2) := by decide +kernel
theorem dX10_draws_5 : decode cX10_draws 5 = .ok (.if_icmp .ge 20, 3) := by decide +kernel
theorem dX10_draws_8 : decode cX10_draws 8 = .ok (.aload_n 0, 1) := by decide +kernel
theorem dX10_draws_9 : decode cX10_draws 9 = .ok (.getfield 33, 3) := by decide +kernel
theorem dX10_draws_12 : decode cX10_draws 12 = .ok (.iload_n 1, 1) := by decide +kernel
theorem dX10_draws_13 : decode cX10_draws 13 = .ok (.aload_n 0, 1) := by decide +kernel
theorem dX10_draws_14 : decode cX10_draws 14 = .ok (.iload_n 1, 1) := by decide +kernel
theorem dX10_draws_15 : decode cX10_draws 15 = .ok (.invokevirtual 78, 3) := by decide +kernel
theorem dX10_draws_18 : decode cX10_draws 18 = .ok (.iastore, 1) := by decide +kernel
theorem dX10_draws_19 : decode cX10_draws 19 = .ok (.iinc 1 1, 3) := by decide +kernel
theorem dX10_draws_22 : decode cX10_draws 22 = .ok (.goto (-20), 3) := by decide +kernel
theorem dX10_draws_25 : decode cX10_draws 25 = .ok (.return_, 1) := by decide +kernel
set_option maxRecDepth 20000 in
theorem ggX10_missing_X10_draws : GoodIn wsX10_missing wsX10_draws := goodIn_r _ [6, 1, 7, 8, 9, 5, 10, 11, 12, 13, 14, 15, 16, 17, 18, 19, 20, 21, 22, 23, 24, 25, 26, 27, 28, 29, 30, 31, 32, 33, 34, 35, 36, 37, 50, 51, 52, 53, 54, 55, 56, 57, 58, 59, 60, 61, 62] (by decide +kernel) (by decide +kernel)
set_option maxRecDepth 20000 in
theorem gX10_missing_X10_draws : GoodIn wsX10_missing (wsV RX10 81 RX10 yX10_draws wsX10_draws) := goodIn_app (goodIn_of _ (by decide +kernel)) ggX10_missing_X10_draws
set_option maxRecDepth 20000 in
theorem ggX10_missing_X10_onLine : GoodIn wsX10_missing wsX10_onLine := goodIn_r _ [19, 11, 20, 21, 22, 5, 23, 24, 25, 26, 27, 28, 29, 30, 50, 51, 52, 53, 54, 55, 56, 57, 58, 59, 60, 61, 62] (by decide +kernel) (by decide +kernel)
set_option maxRecDepth 20000 in
theorem gX10_missing_X10_onLine : GoodIn wsX10_missing (wsV RX10 61 RX10 yX10_onLine wsX10_onLine) := goodIn_app (goodIn_of _ (by decide +kernel)) ggX10_missing_X10_onLine
set_option maxRecDepth 20000 in
theorem ggX10_missing_X10_colourAt : GoodIn wsX10_missing wsX10_colourAt := goodIn_r _ [41, 42, 43, 44, 5, 45, 11, 31, 32, 33, 46, 47, 48, 49, 24, 25, 26, 27, 28, 29, 30, 50, 51, 52, 53, 54, 55, 56, 57, 58, 59, 60, 61, 62] (by decide +kernel) (by decide +kernel)
set_option maxRecDepth 20000 in
theorem gX10_missing_X10_colourAt : GoodIn wsX10_missing (wsV RX10 84 RX10 yX10_colourAt wsX10_colourAt) := goodIn_app (goodIn_of _ (by decide +kernel)) ggX10_missing_X10_colourAt
theorem dX10_missing_0 : decode cX10_missing 0 = .ok (.iconst 0, 1) := by decide +kernel
theorem dX10_missing_1 : decode cX10_missing 1 = .ok (.istore_n 1, 1) := by decide +kernel
theorem dX10_missing_2 : decode cX10_missing 2 = .ok (.aload_n 0, 1) := by decide +kernel
theorem dX10_missing_3 : decode cX10_missing 3 = .ok (.invokevirtual 81, 3) := by decide +kernel
theorem dX10_missing_6 : decode cX10_missing 6 = .ok (.iconst 0, 1) := by decide +kernel
theorem dX10_missing_7 : decode cX10_missing 7 = .ok (.istore_n 2, 1) := by decide +kernel
theorem dX10_missing_8 : decode cX10_missing 8 = .ok (.iload_n 2, 1) := by decide +kernel
theorem dX10_missing_9 : decode cX10_missing 9 = .ok (.bipush 24, 2) := by decide +kernel
theorem dX10_missing_11 : decode cX10_missing 11 = .ok (.if_icmp .ge 73, 3) := by decide +kernel
theorem dX10_missing_14 : decode cX10_missing 14 = .ok (.aload_n 0, 1) := by decide +kernel
theorem dX10_missing_15 : decode cX10_missing 15 = .ok (.iload_n 2, 1) := by decide +kernel
theorem dX10_missing_16 : decode cX10_missing 16 = .ok (.invokevirtual 61, 3) := by decide +kernel
theorem dX10_missing_19 : decode cX10_missing 19 = .ok (.istore_n 3, 1) := by decide +kernel
theorem dX10_missing_20 : decode cX10_missing 20 = .ok (.iconst 0, 1) := by decide +kernel
theorem dX10_missing_21 : decode cX10_missing 21 = .ok (.istore 4, 2) := by decide +kernel
theorem dX10_missing_23 : decode cX10_missing 23 = .ok (.iload 4, 2) := by decide +kernel
theorem dX10_missing_25 : decode cX10_missing 25 = .ok (.bipush 32, 2) := by decide +kernel
theorem dX10_missing_27 : decode cX10_missing 27 = .ok (.if_icmp .ge 51, 3) := by decide +kernel
theorem dX10_missing_30 : decode cX10_missing 30 = .ok (.iload_n 3, 1) := by decide +kernel
theorem dX10_missing_31 : decode cX10_missing 31 = .ok (.aload_n 0, 1) := by decide +kernel
theorem dX10_missing_32 : decode cX10_missing 32 = .ok (.getfield 33, 3) := by decide +kernel
theorem dX10_missing_35 : decode cX10_missing 35 = .ok (.iload_n 2, 1) := by decide +kernel
theorem dX10_missing_36 : decode cX10_missing 36 = .ok (.iaload, 1) := by decide +kernel
theorem dX10_missing_37 : decode cX10_missing 37 = .ok (.if_icmp .eq 41, 3) := by decide +kernel
theorem dX10_missing_40 : decode cX10_missing 40 = .ok (.iload_n 1, 1) := by decide +kernel
theorem dX10_missing_41 : decode cX10_missing 41 = .ok (.aload_n 0, 1) := by decide +kernel
theorem dX10_missing_42 : decode cX10_missing 42 = .ok (.iload_n 3, 1) := by decide +kernel
theorem dX10_missing_43 : decode cX10_missing 43 = .ok (.iload_n 2, 1) := by decide +kernel
theorem dX10_missing_44 : decode cX10_missing 44 = .ok (.iload 4, 2) := by decide +kernel
theorem dX10_missing_46 : decode cX10_missing 46 = .ok (.invokevirtual 84, 3) := by decide +kernel
theorem dX10_missing_49 : decode cX10_missing 49 = .ok (.aload_n 0, 1) := by decide +kernel
theorem dX10_missing_50 : decode cX10_missing 50 = .ok (.aload_n 0, 1) := by decide +kernel
theorem dX10_missing_51 : decode cX10_missing 51 = .ok (.getfield 33, 3) := by decide +kernel
theorem dX10_missing_54 : decode cX10_missing 54 = .ok (.iload_n 2, 1) := by decide +kernel
theorem dX10_missing_55 : decode cX10_missing 55 = .ok (.iaload, 1) := by decide +kernel
theorem dX10_missing_56 : decode cX10_missing 56 = .ok (.iload_n 2, 1) := by decide +kernel
theorem dX10_missing_57 : decode cX10_missing 57 = .ok (.iload 4, 2) := by decide +kernel
theorem dX10_missing_59 : decode cX10_missing 59 = .ok (.invokevirtual 84, 3) := by decide +kernel
theorem dX10_missing_62 : decode cX10_missing 62 = .ok (.if_icmp .eq 7, 3) := by decide +kernel
theorem dX10_missing_65 : decode cX10_missing 65 = .ok (.iconst 1, 1) := by decide +kernel
theorem dX10_missing_66 : decode cX10_missing 66 = .ok (.goto 4, 3) := by decide +kernel
theorem dX10_missing_69 : decode cX10_missing 69 = .ok (.iconst 0, 1) := by decide +kernel
theorem dX10_missing_70 : decode cX10_missing 70 = .ok (.iadd, 1) := by decide +kernel
theorem dX10_missing_71 : decode cX10_missing 71 = .ok (.istore_n 1, 1) := by decide +kernel
theorem dX10_missing_72 : decode cX10_missing 72 = .ok (.iinc 4 1, 3) := by decide +kernel
theorem dX10_missing_75 : decode cX10_missing 75 = .ok (.goto (-52), 3) := by decide +kernel
theorem dX10_missing_78 : decode cX10_missing 78 = .ok (.iinc 2 1, 3) := by decide +kernel
theorem dX10_missing_81 : decode cX10_missing 81 = .ok (.goto (-73), 3) := by decide +kernel
theorem dX10_missing_84 : decode cX10_missing 84 = .ok (.iload_n 1, 1) := by decide +kernel
theorem dX10_missing_85 : decode cX10_missing 85 = .ok (.ireturn, 1) := by decide +kernel
set_option maxRecDepth 20000 in
theorem ggX10_bestRule_X10_missing : GoodIn wsX10_bestRule wsX10_missing := goodIn_r _ [6, 7, 8, 9, 10, 5, 11, 12, 13, 14, 15, 1, 16, 17, 18, 19, 20, 21, 22, 23, 24, 25, 26, 27, 28, 29, 30, 31, 32, 33, 34, 35, 36, 37, 38, 39, 40, 41, 42, 43, 44, 45, 46, 47, 48, 49, 50, 51, 52, 53, 54, 55, 56, 57, 58, 59, 60, 61, 62, 63, 64, 65, 66] (by decide +kernel) (by decide +kernel)
set_option maxRecDepth 20000 in
theorem gX10_bestRule_X10_missing : GoodIn wsX10_bestRule (wsV RX10 87 RX10 yX10_missing wsX10_missing) := goodIn_app (goodIn_of _ (by decide +kernel)) ggX10_bestRule_X10_missing
theorem dX10_bestRule_0 : decode cX10_bestRule 0 = .ok (.aload_n 0, 1) := by decide +kernel
theorem dX10_bestRule_1 : decode cX10_bestRule 1 = .ok (.getfield 7, 3) := by decide +kernel
theorem dX10_bestRule_4 : decode cX10_bestRule 4 = .ok (.iconst 2, 1) := by decide +kernel
theorem dX10_bestRule_5 : decode cX10_bestRule 5 = .ok (.iaload, 1) := by decide +kernel
theorem dX10_bestRule_6 : decode cX10_bestRule 6 = .ok (.istore_n 1, 1) := by decide +kernel
theorem dX10_bestRule_7 : decode cX10_bestRule 7 = .ok (.iconst 0, 1) := by decide +kernel
theorem dX10_bestRule_8 : decode cX10_bestRule 8 = .ok (.istore_n 2, 1) := by decide +kernel
theorem dX10_bestRule_9 : decode cX10_bestRule 9 = .ok (.sipush 769, 3) := by decide +kernel
theorem dX10_bestRule_12 : decode cX10_bestRule 12 = .ok (.istore_n 3, 1) := by decide +kernel
theorem dX10_bestRule_13 : decode cX10_bestRule 13 = .ok (.iconst 0, 1) := by decide +kernel
theorem dX10_bestRule_14 : decode cX10_bestRule 14 = .ok (.istore 4, 2) := by decide +kernel
theorem dX10_bestRule_16 : decode cX10_bestRule 16 = .ok (.iload 4, 2) := by decide +kernel
theorem dX10_bestRule_18 : decode cX10_bestRule 18 = .ok (.iconst 4, 1) := by decide +kernel
theorem dX10_bestRule_19 : decode cX10_bestRule 19 = .ok (.if_icmp .ge 49, 3) := by decide +kernel
theorem dX10_bestRule_22 : decode cX10_bestRule 22 = .ok (.aload_n 0, 1) := by decide +kernel
theorem dX10_bestRule_23 : decode cX10_bestRule 23 = .ok (.getfield 7, 3) := by decide +kernel
theorem dX10_bestRule_26 : decode cX10_bestRule 26 = .ok (.iconst 2, 1) := by decide +kernel
theorem dX10_bestRule_27 : decode cX10_bestRule 27 = .ok (.iload 4, 2) := by decide +kernel
theorem dX10_bestRule_29 : decode cX10_bestRule 29 = .ok (.iastore, 1) := by decide +kernel
theorem dX10_bestRule_30 : decode cX10_bestRule 30 = .ok (.aload_n 0, 1) := by decide +kernel
theorem dX10_bestRule_31 : decode cX10_bestRule 31 = .ok (.invokevirtual 87, 3) := by decide +kernel
theorem dX10_bestRule_34 : decode cX10_bestRule 34 = .ok (.istore 5, 2) := by decide +kernel
theorem dX10_bestRule_36 : decode cX10_bestRule 36 = .ok (.iload 5, 2) := by decide +kernel
theorem dX10_bestRule_38 : decode cX10_bestRule 38 = .ok (.iload_n 3, 1) := by decide +kernel
theorem dX10_bestRule_39 : decode cX10_bestRule 39 = .ok (.if_icmp .ge 8, 3) := by decide +kernel
theorem dX10_bestRule_42 : decode cX10_bestRule 42 = .ok (.iload 4, 2) := by decide +kernel
theorem dX10_bestRule_44 : decode cX10_bestRule 44 = .ok (.goto 4, 3) := by decide +kernel
theorem dX10_bestRule_47 : decode cX10_bestRule 47 = .ok (.iload_n 2, 1) := by decide +kernel
theorem dX10_bestRule_48 : decode cX10_bestRule 48 = .ok (.istore_n 2, 1) := by decide +kernel
theorem dX10_bestRule_49 : decode cX10_bestRule 49 = .ok (.iload 5, 2) := by decide +kernel
theorem dX10_bestRule_51 : decode cX10_bestRule 51 = .ok (.iload_n 3, 1) := by decide +kernel
theorem dX10_bestRule_52 : decode cX10_bestRule 52 = .ok (.if_icmp .ge 8, 3) := by decide +kernel
theorem dX10_bestRule_55 : decode cX10_bestRule 55 = .ok (.iload 5, 2) := by decide +kernel
theorem dX10_bestRule_57 : decode cX10_bestRule 57 = .ok (.goto 4, 3) := by decide +kernel
theorem dX10_bestRule_60 : decode cX10_bestRule 60 = .ok (.iload_n 3, 1) := by decide +kernel
theorem dX10_bestRule_61 : decode cX10_bestRule 61 = .ok (.istore_n 3, 1) := by decide +kernel
theorem dX10_bestRule_62 : decode cX10_bestRule 62 = .ok (.iinc 4 1, 3) := by decide +kernel
theorem dX10_bestRule_65 : decode cX10_bestRule 65 = .ok (.goto (-49), 3) := by decide +kernel
theorem dX10_bestRule_68 : decode cX10_bestRule 68 = .ok (.aload_n 0, 1) := by decide +kernel
theorem dX10_bestRule_69 : decode cX10_bestRule 69 = .ok (.getfield 7, 3) := by decide +kernel
theorem dX10_bestRule_72 : decode cX10_bestRule 72 = .ok (.iconst 2, 1) := by decide +kernel
theorem dX10_bestRule_73 : decode cX10_bestRule 73 = .ok (.iload_n 1, 1) := by decide +kernel
theorem dX10_bestRule_74 : decode cX10_bestRule 74 = .ok (.iastore, 1) := by decide +kernel
theorem dX10_bestRule_75 : decode cX10_bestRule 75 = .ok (.iload_n 2, 1) := by decide +kernel
theorem dX10_bestRule_76 : decode cX10_bestRule 76 = .ok (.ireturn, 1) := by decide +kernel
set_option maxRecDepth 20000 in
theorem ggX10_enough_X10_onLine : GoodIn wsX10_enough wsX10_onLine := goodIn_r _ [5, 6, 7, 8, 9, 4, 10, 11, 12, 13, 14, 15, 16, 17, 21, 22, 23, 24, 25, 26, 27, 28, 29, 30, 31, 32, 33] (by decide +kernel) (by decide +kernel)
set_option maxRecDepth 20000 in
theorem gX10_enough_X10_onLine : GoodIn wsX10_enough (wsV RX10 61 RX10 yX10_onLine wsX10_onLine) := goodIn_app (goodIn_of _ (by decide +kernel)) ggX10_enough_X10_onLine
set_option maxRecDepth 20000 in
theorem ggX10_enough_X10_ones : GoodIn wsX10_enough wsX10_ones := goodIn_r _ [20] (by decide +kernel) (by decide +kernel)
set_option maxRecDepth 20000 in
theorem gX10_enough_X10_ones : GoodIn wsX10_enough (va_wsS RX10 91 yX10_ones wsX10_ones) := goodIn_app (goodIn_of _ (by decide +kernel)) ggX10_enough_X10_ones
theorem dX10_enough_0 : decode cX10_enough 0 = .ok (.iconst 1, 1) := by decide +kernel
theorem dX10_enough_1 : decode cX10_enough 1 = .ok (.istore_n 1, 1) := by decide +kernel
theorem dX10_enough_2 : decode cX10_enough 2 = .ok (.iconst 0, 1) := by decide +kernel
theorem dX10_enough_3 : decode cX10_enough 3 = .ok (.istore_n 2, 1) := by decide +kernel
theorem dX10_enough_4 : decode cX10_enough 4 = .ok (.iload_n 2, 1) := by decide +kernel
theorem dX10_enough_5 : decode cX10_enough 5 = .ok (.bipush 24, 2) := by decide +kernel
theorem dX10_enough_7 : decode cX10_enough 7 = .ok (.if_icmp .ge 29, 3) := by decide +kernel
theorem dX10_enough_10 : decode cX10_enough 10 = .ok (.aload_n 0, 1) := by decide +kernel
theorem dX10_enough_11 : decode cX10_enough 11 = .ok (.iload_n 2, 1) := by decide +kernel
theorem dX10_enough_12 : decode cX10_enough 12 = .ok (.invokevirtual 61, 3) := by decide +kernel
theorem dX10_enough_15 : decode cX10_enough 15 = .ok (.invokestatic 91, 3) := by decide +kernel
theorem dX10_enough_18 : decode cX10_enough 18 = .ok (.istore_n 3, 1) := by decide +kernel
theorem dX10_enough_19 : decode cX10_enough 19 = .ok (.iload_n 3, 1) := by decide +kernel
theorem dX10_enough_20 : decode cX10_enough 20 = .ok (.iload_n 1, 1) := by decide +kernel
theorem dX10_enough_21 : decode cX10_enough 21 = .ok (.if_icmp .le 7, 3) := by decide +kernel
theorem dX10_enough_24 : decode cX10_enough 24 = .ok (.iload_n 3, 1) := by decide +kernel
theorem dX10_enough_25 : decode cX10_enough 25 = .ok (.goto 4, 3) := by decide +kernel
theorem dX10_enough_28 : decode cX10_enough 28 = .ok (.iload_n 1, 1) := by decide +kernel
theorem dX10_enough_29 : decode cX10_enough 29 = .ok (.istore_n 1, 1) := by decide +kernel
theorem dX10_enough_30 : decode cX10_enough 30 = .ok (.iinc 2 1, 3) := by decide +kernel
theorem dX10_enough_33 : decode cX10_enough 33 = .ok (.goto (-29), 3) := by decide +kernel
theorem dX10_enough_36 : decode cX10_enough 36 = .ok (.iload_n 1, 1) := by decide +kernel
theorem dX10_enough_37 : decode cX10_enough 37 = .ok (.ireturn, 1) := by decide +kernel
set_option maxRecDepth 20000 in
theorem ggX10_holds_X10_of : GoodIn wsX10_holds wsX10_of := goodIn_r _ [8, 1, 9, 10, 11, 12, 13, 14, 15, 16, 17, 18, 19, 20, 21] (by decide +kernel) (by decide +kernel)
set_option maxRecDepth 20000 in
theorem gX10_holds_X10_of : GoodIn wsX10_holds (wsV RX10 50 RX10 yX10_of wsX10_of) := goodIn_app (goodIn_of _ (by decide +kernel)) ggX10_holds_X10_of
theorem dX10_holds_0 : decode cX10_holds 0 = .ok (.iconst 0, 1) := by decide +kernel
theorem dX10_holds_1 : decode cX10_holds 1 = .ok (.istore_n 1, 1) := by decide +kernel
theorem dX10_holds_2 : decode cX10_holds 2 = .ok (.bipush (-8), 2) := by decide +kernel
theorem dX10_holds_4 : decode cX10_holds 4 = .ok (.istore_n 2, 1) := by decide +kernel
theorem dX10_holds_5 : decode cX10_holds 5 = .ok (.iload_n 2, 1) := by decide +kernel
theorem dX10_holds_6 : decode cX10_holds 6 = .ok (.bipush 24, 2) := by decide +kernel
theorem dX10_holds_8 : decode cX10_holds 8 = .ok (.if_icmp .ge 96, 3) := by decide +kernel
theorem dX10_holds_11 : decode cX10_holds 11 = .ok (.iconst 0, 1) := by decide +kernel
theorem dX10_holds_12 : decode cX10_holds 12 = .ok (.istore_n 3, 1) := by decide +kernel
theorem dX10_holds_13 : decode cX10_holds 13 = .ok (.iload_n 3, 1) := by decide +kernel
theorem dX10_holds_14 : decode cX10_holds 14 = .ok (.aload_n 0, 1) := by decide +kernel
theorem dX10_holds_15 : decode cX10_holds 15 = .ok (.getfield 7, 3) := by decide +kernel
theorem dX10_holds_18 : decode cX10_holds 18 = .ok (.iconst 0, 1) := by decide +kernel
theorem dX10_holds_19 : decode cX10_holds 19 = .ok (.iaload, 1) := by decide +kernel
theorem dX10_holds_20 : decode cX10_holds 20 = .ok (.if_icmp .ge 78, 3) := by decide +kernel
theorem dX10_holds_23 : decode cX10_holds 23 = .ok (.aload_n 0, 1) := by decide +kernel
theorem dX10_holds_24 : decode cX10_holds 24 = .ok (.iload_n 3, 1) := by decide +kernel
theorem dX10_holds_25 : decode cX10_holds 25 = .ok (.iconst 1, 1) := by decide +kernel
theorem dX10_holds_26 : decode cX10_holds 26 = .ok (.invokevirtual 50, 3) := by decide +kernel
theorem dX10_holds_29 : decode cX10_holds 29 = .ok (.iload_n 2, 1) := by decide +kernel
theorem dX10_holds_30 : decode cX10_holds 30 = .ok (.if_icmp .ne 62, 3) := by decide +kernel
theorem dX10_holds_33 : decode cX10_holds 33 = .ok (.iconst 0, 1) := by decide +kernel
theorem dX10_holds_34 : decode cX10_holds 34 = .ok (.istore 4, 2) := by decide +kernel
theorem dX10_holds_36 : decode cX10_holds 36 = .ok (.iload 4, 2) := by decide +kernel
theorem dX10_holds_38 : decode cX10_holds 38 = .ok (.iload_n 1, 1) := by decide +kernel
theorem dX10_holds_39 : decode cX10_holds 39 = .ok (.if_icmp .ge 20, 3) := by decide +kernel
theorem dX10_holds_42 : decode cX10_holds 42 = .ok (.aload_n 0, 1) := by decide +kernel
theorem dX10_holds_43 : decode cX10_holds 43 = .ok (.getfield 39, 3) := by decide +kernel
theorem dX10_holds_46 : decode cX10_holds 46 = .ok (.iload 4, 2) := by decide +kernel
theorem dX10_holds_48 : decode cX10_holds 48 = .ok (.iaload, 1) := by decide +kernel
theorem dX10_holds_49 : decode cX10_holds 49 = .ok (.iload_n 2, 1) := by decide +kernel
theorem dX10_holds_50 : decode cX10_holds 50 = .ok (.if_icmp .le 9, 3) := by decide +kernel
theorem dX10_holds_53 : decode cX10_holds 53 = .ok (.iinc 4 1, 3) := by decide +kernel
theorem dX10_holds_56 : decode cX10_holds 56 = .ok (.goto (-20), 3) := by decide +kernel
theorem dX10_holds_59 : decode cX10_holds 59 = .ok (.iload 4, 2) := by decide +kernel
theorem dX10_holds_61 : decode cX10_holds 61 = .ok (.iload_n 1, 1) := by decide +kernel
theorem dX10_holds_62 : decode cX10_holds 62 = .ok (.if_icmp .ne 9, 3) := by decide +kernel
theorem dX10_holds_65 : decode cX10_holds 65 = .ok (.iload_n 1, 1) := by decide +kernel
theorem dX10_holds_66 : decode cX10_holds 66 = .ok (.iconst 1, 1) := by decide +kernel
theorem dX10_holds_67 : decode cX10_holds 67 = .ok (.iadd, 1) := by decide +kernel
theorem dX10_holds_68 : decode cX10_holds 68 = .ok (.goto 4, 3) := by decide +kernel
theorem dX10_holds_71 : decode cX10_holds 71 = .ok (.iload_n 1, 1) := by decide +kernel
theorem dX10_holds_72 : decode cX10_holds 72 = .ok (.istore_n 1, 1) := by decide +kernel
theorem dX10_holds_73 : decode cX10_holds 73 = .ok (.aload_n 0, 1) := by decide +kernel
theorem dX10_holds_74 : decode cX10_holds 74 = .ok (.getfield 36, 3) := by decide +kernel
theorem dX10_holds_77 : decode cX10_holds 77 = .ok (.iload_n 3, 1) := by decide +kernel
theorem dX10_holds_78 : decode cX10_holds 78 = .ok (.iload 4, 2) := by decide +kernel
theorem dX10_holds_80 : decode cX10_holds 80 = .ok (.iastore, 1) := by decide +kernel
theorem dX10_holds_81 : decode cX10_holds 81 = .ok (.aload_n 0, 1) := by decide +kernel
theorem dX10_holds_82 : decode cX10_holds 82 = .ok (.getfield 39, 3) := by decide +kernel
theorem dX10_holds_85 : decode cX10_holds 85 = .ok (.iload 4, 2) := by decide +kernel
theorem dX10_holds_87 : decode cX10_holds 87 = .ok (.iload_n 2, 1) := by decide +kernel
theorem dX10_holds_88 : decode cX10_holds 88 = .ok (.bipush 8, 2) := by decide +kernel
theorem dX10_holds_90 : decode cX10_holds 90 = .ok (.iadd, 1) := by decide +kernel
theorem dX10_holds_91 : decode cX10_holds 91 = .ok (.iastore, 1) := by decide +kernel
theorem dX10_holds_92 : decode cX10_holds 92 = .ok (.iinc 3 1, 3) := by decide +kernel
theorem dX10_holds_95 : decode cX10_holds 95 = .ok (.goto (-82), 3) := by decide +kernel
theorem dX10_holds_98 : decode cX10_holds 98 = .ok (.iinc 2 1, 3) := by decide +kernel
theorem dX10_holds_101 : decode cX10_holds 101 = .ok (.goto (-96), 3) := by decide +kernel
theorem dX10_holds_104 : decode cX10_holds 104 = .ok (.iload_n 1, 1) := by decide +kernel
theorem dX10_holds_105 : decode cX10_holds 105 = .ok (.ireturn, 1) := by decide +kernel
set_option maxRecDepth 20000 in
theorem ggX10_dots_X10_draws : GoodIn wsX10_dots wsX10_draws := goodIn_r _ [6, 1, 7, 8, 9, 5, 10, 11, 12, 13, 14, 15, 16, 17, 18, 19, 20, 21, 22, 23, 24, 25, 26, 27, 28, 29, 30, 31, 32, 33, 34, 35, 36, 37, 46, 47, 48, 49, 50, 51, 52, 53, 54, 55, 56, 57, 58] (by decide +kernel) (by decide +kernel)
set_option maxRecDepth 20000 in
theorem gX10_dots_X10_draws : GoodIn wsX10_dots (wsV RX10 81 RX10 yX10_draws wsX10_draws) := goodIn_app (goodIn_of _ (by decide +kernel)) ggX10_dots_X10_draws
set_option maxRecDepth 20000 in
theorem ggX10_dots_X10_seenAt : GoodIn wsX10_dots wsX10_seenAt := goodIn_r _ [41, 11, 31, 32, 5, 33, 42, 43, 44, 45, 24, 25, 26, 27, 28, 29, 30, 46, 47, 48, 49, 50, 51, 52, 53, 54, 55, 56, 57, 58] (by decide +kernel) (by decide +kernel)
set_option maxRecDepth 20000 in
theorem gX10_dots_X10_seenAt : GoodIn wsX10_dots (wsV RX10 74 RX10 yX10_seenAt wsX10_seenAt) := goodIn_app (goodIn_of _ (by decide +kernel)) ggX10_dots_X10_seenAt
theorem dX10_dots_0 : decode cX10_dots 0 = .ok (.iconst 0, 1) := by decide +kernel
theorem dX10_dots_1 : decode cX10_dots 1 = .ok (.istore_n 1, 1) := by decide +kernel
theorem dX10_dots_2 : decode cX10_dots 2 = .ok (.aload_n 0, 1) := by decide +kernel
theorem dX10_dots_3 : decode cX10_dots 3 = .ok (.invokevirtual 81, 3) := by decide +kernel
theorem dX10_dots_6 : decode cX10_dots 6 = .ok (.iconst 0, 1) := by decide +kernel
theorem dX10_dots_7 : decode cX10_dots 7 = .ok (.istore_n 2, 1) := by decide +kernel
theorem dX10_dots_8 : decode cX10_dots 8 = .ok (.iload_n 2, 1) := by decide +kernel
theorem dX10_dots_9 : decode cX10_dots 9 = .ok (.bipush 24, 2) := by decide +kernel
theorem dX10_dots_11 : decode cX10_dots 11 = .ok (.if_icmp .ge 47, 3) := by decide +kernel
theorem dX10_dots_14 : decode cX10_dots 14 = .ok (.iconst 0, 1) := by decide +kernel
theorem dX10_dots_15 : decode cX10_dots 15 = .ok (.istore_n 3, 1) := by decide +kernel
theorem dX10_dots_16 : decode cX10_dots 16 = .ok (.iload_n 3, 1) := by decide +kernel
theorem dX10_dots_17 : decode cX10_dots 17 = .ok (.bipush 32, 2) := by decide +kernel
theorem dX10_dots_19 : decode cX10_dots 19 = .ok (.if_icmp .ge 33, 3) := by decide +kernel
theorem dX10_dots_22 : decode cX10_dots 22 = .ok (.iload_n 1, 1) := by decide +kernel
theorem dX10_dots_23 : decode cX10_dots 23 = .ok (.aload_n 0, 1) := by decide +kernel
theorem dX10_dots_24 : decode cX10_dots 24 = .ok (.aload_n 0, 1) := by decide +kernel
theorem dX10_dots_25 : decode cX10_dots 25 = .ok (.getfield 33, 3) := by decide +kernel
theorem dX10_dots_28 : decode cX10_dots 28 = .ok (.iload_n 2, 1) := by decide +kernel
theorem dX10_dots_29 : decode cX10_dots 29 = .ok (.iaload, 1) := by decide +kernel
theorem dX10_dots_30 : decode cX10_dots 30 = .ok (.iload_n 2, 1) := by decide +kernel
theorem dX10_dots_31 : decode cX10_dots 31 = .ok (.iload_n 3, 1) := by decide +kernel
theorem dX10_dots_32 : decode cX10_dots 32 = .ok (.invokevirtual 74, 3) := by decide +kernel
theorem dX10_dots_35 : decode cX10_dots 35 = .ok (.iconst (-1), 1) := by decide +kernel
theorem dX10_dots_36 : decode cX10_dots 36 = .ok (.if_icmp .eq 7, 3) := by decide +kernel
theorem dX10_dots_39 : decode cX10_dots 39 = .ok (.iconst 1, 1) := by decide +kernel
theorem dX10_dots_40 : decode cX10_dots 40 = .ok (.goto 4, 3) := by decide +kernel
theorem dX10_dots_43 : decode cX10_dots 43 = .ok (.iconst 0, 1) := by decide +kernel
theorem dX10_dots_44 : decode cX10_dots 44 = .ok (.iadd, 1) := by decide +kernel
theorem dX10_dots_45 : decode cX10_dots 45 = .ok (.istore_n 1, 1) := by decide +kernel
theorem dX10_dots_46 : decode cX10_dots 46 = .ok (.iinc 3 1, 3) := by decide +kernel
theorem dX10_dots_49 : decode cX10_dots 49 = .ok (.goto (-33), 3) := by decide +kernel
theorem dX10_dots_52 : decode cX10_dots 52 = .ok (.iinc 2 1, 3) := by decide +kernel
theorem dX10_dots_55 : decode cX10_dots 55 = .ok (.goto (-47), 3) := by decide +kernel
theorem dX10_dots_58 : decode cX10_dots 58 = .ok (.iload_n 1, 1) := by decide +kernel
theorem dX10_dots_59 : decode cX10_dots 59 = .ok (.ireturn, 1) := by decide +kernel
set_option maxRecDepth 20000 in
theorem ggX10_wrong_X10_draws : GoodIn wsX10_wrong wsX10_draws := goodIn_r _ [8, 2, 9, 10, 11, 7, 12, 13, 14, 15, 16, 17, 18, 19, 20, 21, 22, 23, 24, 25, 26, 27, 28, 29, 30, 31, 32, 33, 34, 35, 36, 37, 38, 39, 52, 53, 54, 55, 56, 57, 58, 59, 60, 61, 62, 63, 64] (by decide +kernel) (by decide +kernel)
set_option maxRecDepth 20000 in
theorem gX10_wrong_X10_draws : GoodIn wsX10_wrong (wsV RX10 81 RX10 yX10_draws wsX10_draws) := goodIn_app (goodIn_of _ (by decide +kernel)) ggX10_wrong_X10_draws
set_option maxRecDepth 20000 in
theorem ggX10_wrong_X10_colourAt : GoodIn wsX10_wrong wsX10_colourAt := goodIn_r _ [43, 44, 45, 46, 7, 47, 13, 33, 34, 35, 48, 49, 50, 51, 26, 27, 28, 29, 30, 31, 32, 52, 53, 54, 55, 56, 57, 58, 59, 60, 61, 62, 63, 64] (by decide +kernel) (by decide +kernel)
set_option maxRecDepth 20000 in
theorem gX10_wrong_X10_colourAt : GoodIn wsX10_wrong (wsV RX10 84 RX10 yX10_colourAt wsX10_colourAt) := goodIn_app (goodIn_of _ (by decide +kernel)) ggX10_wrong_X10_colourAt
theorem dX10_wrong_0 : decode cX10_wrong 0 = .ok (.aload_n 0, 1) := by decide +kernel
theorem dX10_wrong_1 : decode cX10_wrong 1 = .ok (.invokevirtual 81, 3) := by decide +kernel
theorem dX10_wrong_4 : decode cX10_wrong 4 = .ok (.iconst 0, 1) := by decide +kernel
theorem dX10_wrong_5 : decode cX10_wrong 5 = .ok (.istore_n 1, 1) := by decide +kernel
theorem dX10_wrong_6 : decode cX10_wrong 6 = .ok (.iload_n 1, 1) := by decide +kernel
theorem dX10_wrong_7 : decode cX10_wrong 7 = .ok (.aload_n 0, 1) := by decide +kernel
theorem dX10_wrong_8 : decode cX10_wrong 8 = .ok (.getfield 94, 3) := by decide +kernel
theorem dX10_wrong_11 : decode cX10_wrong 11 = .ok (.if_icmp .ge 59, 3) := by decide +kernel
theorem dX10_wrong_14 : decode cX10_wrong 14 = .ok (.aload_n 0, 1) := by decide +kernel
theorem dX10_wrong_15 : decode cX10_wrong 15 = .ok (.aload_n 0, 1) := by decide +kernel
theorem dX10_wrong_16 : decode cX10_wrong 16 = .ok (.getfield 33, 3) := by decide +kernel
theorem dX10_wrong_19 : decode cX10_wrong 19 = .ok (.aload_n 0, 1) := by decide +kernel
theorem dX10_wrong_20 : decode cX10_wrong 20 = .ok (.getfield 30, 3) := by decide +kernel
theorem dX10_wrong_23 : decode cX10_wrong 23 = .ok (.iconst 3, 1) := by decide +kernel
theorem dX10_wrong_24 : decode cX10_wrong 24 = .ok (.iload_n 1, 1) := by decide +kernel
theorem dX10_wrong_25 : decode cX10_wrong 25 = .ok (.imul, 1) := by decide +kernel
theorem dX10_wrong_26 : decode cX10_wrong 26 = .ok (.iaload, 1) := by decide +kernel
theorem dX10_wrong_27 : decode cX10_wrong 27 = .ok (.iaload, 1) := by decide +kernel
theorem dX10_wrong_28 : decode cX10_wrong 28 = .ok (.aload_n 0, 1) := by decide +kernel
theorem dX10_wrong_29 : decode cX10_wrong 29 = .ok (.getfield 30, 3) := by decide +kernel
theorem dX10_wrong_32 : decode cX10_wrong 32 = .ok (.iconst 3, 1) := by decide +kernel
theorem dX10_wrong_33 : decode cX10_wrong 33 = .ok (.iload_n 1, 1) := by decide +kernel
theorem dX10_wrong_34 : decode cX10_wrong 34 = .ok (.imul, 1) := by decide +kernel
theorem dX10_wrong_35 : decode cX10_wrong 35 = .ok (.iaload, 1) := by decide +kernel
theorem dX10_wrong_36 : decode cX10_wrong 36 = .ok (.aload_n 0, 1) := by decide +kernel
theorem dX10_wrong_37 : decode cX10_wrong 37 = .ok (.getfield 30, 3) := by decide +kernel
theorem dX10_wrong_40 : decode cX10_wrong 40 = .ok (.iconst 3, 1) := by decide +kernel
theorem dX10_wrong_41 : decode cX10_wrong 41 = .ok (.iload_n 1, 1) := by decide +kernel
theorem dX10_wrong_42 : decode cX10_wrong 42 = .ok (.imul, 1) := by decide +kernel
theorem dX10_wrong_43 : decode cX10_wrong 43 = .ok (.iconst 1, 1) := by decide +kernel
theorem dX10_wrong_44 : decode cX10_wrong 44 = .ok (.iadd, 1) := by decide +kernel
theorem dX10_wrong_45 : decode cX10_wrong 45 = .ok (.iaload, 1) := by decide +kernel
theorem dX10_wrong_46 : decode cX10_wrong 46 = .ok (.invokevirtual 84, 3) := by decide +kernel
theorem dX10_wrong_49 : decode cX10_wrong 49 = .ok (.aload_n 0, 1) := by decide +kernel
theorem dX10_wrong_50 : decode cX10_wrong 50 = .ok (.getfield 30, 3) := by decide +kernel
theorem dX10_wrong_53 : decode cX10_wrong 53 = .ok (.iconst 3, 1) := by decide +kernel
theorem dX10_wrong_54 : decode cX10_wrong 54 = .ok (.iload_n 1, 1) := by decide +kernel
theorem dX10_wrong_55 : decode cX10_wrong 55 = .ok (.imul, 1) := by decide +kernel
theorem dX10_wrong_56 : decode cX10_wrong 56 = .ok (.iconst 2, 1) := by decide +kernel
theorem dX10_wrong_57 : decode cX10_wrong 57 = .ok (.iadd, 1) := by decide +kernel
theorem dX10_wrong_58 : decode cX10_wrong 58 = .ok (.iaload, 1) := by decide +kernel
theorem dX10_wrong_59 : decode cX10_wrong 59 = .ok (.if_icmp .eq 5, 3) := by decide +kernel
theorem dX10_wrong_62 : decode cX10_wrong 62 = .ok (.iload_n 1, 1) := by decide +kernel
theorem dX10_wrong_63 : decode cX10_wrong 63 = .ok (.ireturn, 1) := by decide +kernel
theorem dX10_wrong_64 : decode cX10_wrong 64 = .ok (.iinc 1 1, 3) := by decide +kernel
theorem dX10_wrong_67 : decode cX10_wrong 67 = .ok (.goto (-61), 3) := by decide +kernel
theorem dX10_wrong_70 : decode cX10_wrong 70 = .ok (.iconst (-1), 1) := by decide +kernel
theorem dX10_wrong_71 : decode cX10_wrong 71 = .ok (.ireturn, 1) := by decide +kernel
set_option maxRecDepth 20000 in
theorem ggX10_told_X10_missing : GoodIn wsX10_told wsX10_missing := goodIn_r _ [9, 10, 11, 12, 13, 8, 14, 15, 16, 17, 18, 1, 19, 20, 21, 22, 23, 24, 25, 26, 27, 28, 29, 30, 31, 32, 33, 34, 35, 36, 37, 38, 39, 40, 41, 42, 43, 44, 45, 46, 47, 48, 49, 50, 51, 52, 53, 54, 55, 56, 83, 84, 85, 86, 87, 88, 89, 90, 91, 92, 93, 94, 95] (by decide +kernel) (by decide +kernel)
set_option maxRecDepth 20000 in
theorem gX10_told_X10_missing : GoodIn wsX10_told (wsV RX10 87 RX10 yX10_missing wsX10_missing) := goodIn_app (goodIn_of _ (by decide +kernel)) ggX10_told_X10_missing
set_option maxRecDepth 20000 in
theorem ggX10_told_X10_bestRule : GoodIn wsX10_told wsX10_bestRule := goodIn_r _ [60, 1, 5, 6, 7, 8, 9, 10, 11, 12, 13, 14, 15, 16, 17, 18, 19, 20, 21, 22, 23, 24, 25, 26, 27, 28, 29, 30, 31, 32, 33, 34, 35, 36, 37, 38, 39, 40, 41, 42, 43, 44, 45, 46, 47, 48, 49, 50, 51, 52, 53, 54, 55, 56, 83, 84, 85, 86, 87, 88, 89, 90, 91, 92, 93, 94, 95] (by decide +kernel) (by decide +kernel)
set_option maxRecDepth 20000 in
theorem gX10_told_X10_bestRule : GoodIn wsX10_told (wsV RX10 97 RX10 yX10_bestRule wsX10_bestRule) := goodIn_app (goodIn_of _ (by decide +kernel)) ggX10_told_X10_bestRule
set_option maxRecDepth 20000 in
theorem ggX10_told_X10_enough : GoodIn wsX10_told wsX10_enough := goodIn_r _ [64, 23, 24, 25, 8, 26, 1, 27, 28, 29, 30, 31, 32, 33, 34, 35, 36, 37, 65, 66, 67, 83, 84, 85, 86, 87, 88, 89, 90, 91, 92, 93, 94, 95] (by decide +kernel) (by decide +kernel)
set_option maxRecDepth 20000 in
theorem gX10_told_X10_enough : GoodIn wsX10_told (wsV RX10 100 RX10 yX10_enough wsX10_enough) := goodIn_app (goodIn_of _ (by decide +kernel)) ggX10_told_X10_enough
set_option maxRecDepth 20000 in
theorem ggX10_told_X10_holds : GoodIn wsX10_told wsX10_holds := goodIn_r _ [71, 1, 72, 73, 31, 32, 33, 8, 34, 83, 84, 85, 86, 87, 88, 89, 90, 91, 92, 93, 94, 95] (by decide +kernel) (by decide +kernel)
set_option maxRecDepth 20000 in
theorem gX10_told_X10_holds : GoodIn wsX10_told (wsV RX10 103 RX10 yX10_holds wsX10_holds) := goodIn_app (goodIn_of _ (by decide +kernel)) ggX10_told_X10_holds
set_option maxRecDepth 20000 in
theorem ggX10_told_X10_dots : GoodIn wsX10_told wsX10_dots := goodIn_r _ [77, 10, 11, 12, 13, 8, 14, 15, 16, 17, 18, 1, 19, 20, 21, 22, 23, 24, 25, 26, 27, 28, 29, 30, 31, 32, 33, 34, 35, 36, 37, 38, 39, 40, 41, 42, 43, 44, 49, 50, 51, 52, 53, 54, 55, 56, 83, 84, 85, 86, 87, 88, 89, 90, 91, 92, 93, 94, 95] (by decide +kernel) (by decide +kernel)
set_option maxRecDepth 20000 in
theorem gX10_told_X10_dots : GoodIn wsX10_told (wsV RX10 106 RX10 yX10_dots wsX10_dots) := goodIn_app (goodIn_of _ (by decide +kernel)) ggX10_told_X10_dots
set_option maxRecDepth 20000 in
theorem ggX10_told_X10_wrong : GoodIn wsX10_told wsX10_wrong := goodIn_r _ [81, 2, 10, 82, 11, 12, 13, 8, 14, 15, 16, 17, 18, 1, 19, 20, 21, 22, 23, 24, 25, 26, 27, 28, 29, 30, 31, 32, 33, 34, 35, 36, 37, 38, 39, 40, 41, 42, 43, 44, 45, 46, 47, 48, 49, 50, 51, 52, 53, 54, 55, 56, 83, 84, 85, 86, 87, 88, 89, 90, 91, 92, 93, 94, 95] (by decide +kernel) (by decide +kernel)
set_option maxRecDepth 20000 in
theorem gX10_told_X10_wrong : GoodIn wsX10_told (wsV RX10 109 RX10 yX10_wrong wsX10_wrong) := goodIn_app (goodIn_of _ (by decide +kernel)) ggX10_told_X10_wrong
theorem dX10_told_0 : decode cX10_told 0 = .ok (.iload_n 1, 1) := by decide +kernel
theorem dX10_told_1 : decode cX10_told 1 = .ok (.tableswitch 110 0 11 #[63, 63, 63, 63, 70, 75, 80, 85, 90, 95, 100, 105], 63) := by decide +kernel
theorem dX10_told_64 : decode cX10_told 64 = .ok (.aload_n 0, 1) := by decide +kernel
theorem dX10_told_65 : decode cX10_told 65 = .ok (.getfield 7, 3) := by decide +kernel
theorem dX10_told_68 : decode cX10_told 68 = .ok (.iload_n 1, 1) := by decide +kernel
theorem dX10_told_69 : decode cX10_told 69 = .ok (.iaload, 1) := by decide +kernel
theorem dX10_told_70 : decode cX10_told 70 = .ok (.ireturn, 1) := by decide +kernel
theorem dX10_told_71 : decode cX10_told 71 = .ok (.aload_n 0, 1) := by decide +kernel
theorem dX10_told_72 : decode cX10_told 72 = .ok (.invokevirtual 87, 3) := by decide +kernel
theorem dX10_told_75 : decode cX10_told 75 = .ok (.ireturn, 1) := by decide +kernel
theorem dX10_told_76 : decode cX10_told 76 = .ok (.aload_n 0, 1) := by decide +kernel
theorem dX10_told_77 : decode cX10_told 77 = .ok (.invokevirtual 97, 3) := by decide +kernel
theorem dX10_told_80 : decode cX10_told 80 = .ok (.ireturn, 1) := by decide +kernel
theorem dX10_told_81 : decode cX10_told 81 = .ok (.aload_n 0, 1) := by decide +kernel
theorem dX10_told_82 : decode cX10_told 82 = .ok (.invokevirtual 100, 3) := by decide +kernel
theorem dX10_told_85 : decode cX10_told 85 = .ok (.ireturn, 1) := by decide +kernel
theorem dX10_told_86 : decode cX10_told 86 = .ok (.aload_n 0, 1) := by decide +kernel
theorem dX10_told_87 : decode cX10_told 87 = .ok (.invokevirtual 103, 3) := by decide +kernel
theorem dX10_told_90 : decode cX10_told 90 = .ok (.ireturn, 1) := by decide +kernel
theorem dX10_told_91 : decode cX10_told 91 = .ok (.aload_n 0, 1) := by decide +kernel
theorem dX10_told_92 : decode cX10_told 92 = .ok (.invokevirtual 106, 3) := by decide +kernel
theorem dX10_told_95 : decode cX10_told 95 = .ok (.ireturn, 1) := by decide +kernel
theorem dX10_told_96 : decode cX10_told 96 = .ok (.aload_n 0, 1) := by decide +kernel
theorem dX10_told_97 : decode cX10_told 97 = .ok (.getfield 94, 3) := by decide +kernel
theorem dX10_told_100 : decode cX10_told 100 = .ok (.ireturn, 1) := by decide +kernel
theorem dX10_told_101 : decode cX10_told 101 = .ok (.aload_n 0, 1) := by decide +kernel
theorem dX10_told_102 : decode cX10_told 102 = .ok (.invokevirtual 109, 3) := by decide +kernel
theorem dX10_told_105 : decode cX10_told 105 = .ok (.ireturn, 1) := by decide +kernel
theorem dX10_told_106 : decode cX10_told 106 = .ok (.aload_n 0, 1) := by decide +kernel
theorem dX10_told_107 : decode cX10_told 107 = .ok (.getfield 46, 3) := by decide +kernel
theorem dX10_told_110 : decode cX10_told 110 = .ok (.ireturn, 1) := by decide +kernel
theorem dX10_told_111 : decode cX10_told 111 = .ok (.ldc 112, 2) := by decide +kernel
theorem dX10_told_113 : decode cX10_told 113 = .ok (.ireturn, 1) := by decide +kernel
set_option maxRecDepth 20000 in
theorem ggX10_dotsOf_X10_draws : GoodIn wsX10_dotsOf wsX10_draws := goodIn_r _ [6, 1, 7, 8, 9, 5, 10, 11, 12, 13, 14, 15, 16, 17, 18, 19, 20, 21, 22, 23, 24, 25, 26, 27, 28, 29, 30, 31, 32, 33, 34, 35, 36, 37, 46, 47, 48, 49, 50, 51, 52, 53, 54, 55, 56, 57, 58] (by decide +kernel) (by decide +kernel)
set_option maxRecDepth 20000 in
theorem gX10_dotsOf_X10_draws : GoodIn wsX10_dotsOf (wsV RX10 81 RX10 yX10_draws wsX10_draws) := goodIn_app (goodIn_of _ (by decide +kernel)) ggX10_dotsOf_X10_draws
set_option maxRecDepth 20000 in
theorem ggX10_dotsOf_X10_has : GoodIn wsX10_dotsOf wsX10_has := goodIn_r _ [33] (by decide +kernel) (by decide +kernel)
set_option maxRecDepth 20000 in
theorem gX10_dotsOf_X10_has : GoodIn wsX10_dotsOf (va_wsS RX10 54 yX10_has wsX10_has) := goodIn_app (goodIn_of _ (by decide +kernel)) ggX10_dotsOf_X10_has
set_option maxRecDepth 20000 in
theorem ggX10_dotsOf_X10_hasDot : GoodIn wsX10_dotsOf wsX10_hasDot := goodIn_r _ [41, 11, 24, 25, 26, 5, 27, 28, 29, 30, 31, 32, 33, 46, 47, 48, 49, 50, 51, 52, 53, 54, 55, 56, 57, 58] (by decide +kernel) (by decide +kernel)
set_option maxRecDepth 20000 in
theorem gX10_dotsOf_X10_hasDot : GoodIn wsX10_dotsOf (wsV RX10 71 RX10 yX10_hasDot wsX10_hasDot) := goodIn_app (goodIn_of _ (by decide +kernel)) ggX10_dotsOf_X10_hasDot
set_option maxRecDepth 20000 in
theorem ggX10_dotsOf_X10_seenAt : GoodIn wsX10_dotsOf wsX10_seenAt := goodIn_r _ [45, 11, 31, 32, 5, 33, 38, 39, 40, 41, 24, 25, 26, 27, 28, 29, 30, 46, 47, 48, 49, 50, 51, 52, 53, 54, 55, 56, 57, 58] (by decide +kernel) (by decide +kernel)
set_option maxRecDepth 20000 in
theorem gX10_dotsOf_X10_seenAt : GoodIn wsX10_dotsOf (wsV RX10 74 RX10 yX10_seenAt wsX10_seenAt) := goodIn_app (goodIn_of _ (by decide +kernel)) ggX10_dotsOf_X10_seenAt
theorem dX10_dotsOf_0 : decode cX10_dotsOf 0 = .ok (.iconst 0, 1) := by decide +kernel
theorem dX10_dotsOf_1 : decode cX10_dotsOf 1 = .ok (.istore_n 3, 1) := by decide +kernel
theorem dX10_dotsOf_2 : decode cX10_dotsOf 2 = .ok (.aload_n 0, 1) := by decide +kernel
theorem dX10_dotsOf_3 : decode cX10_dotsOf 3 = .ok (.invokevirtual 81, 3) := by decide +kernel
theorem dX10_dotsOf_6 : decode cX10_dotsOf 6 = .ok (.iconst 0, 1) := by decide +kernel
theorem dX10_dotsOf_7 : decode cX10_dotsOf 7 = .ok (.istore 4, 2) := by decide +kernel
theorem dX10_dotsOf_9 : decode cX10_dotsOf 9 = .ok (.iload 4, 2) := by decide +kernel
theorem dX10_dotsOf_11 : decode cX10_dotsOf 11 = .ok (.bipush 24, 2) := by decide +kernel
theorem dX10_dotsOf_13 : decode cX10_dotsOf 13 = .ok (.if_icmp .ge 111, 3) := by decide +kernel
theorem dX10_dotsOf_16 : decode cX10_dotsOf 16 = .ok (.iconst 0, 1) := by decide +kernel
theorem dX10_dotsOf_17 : decode cX10_dotsOf 17 = .ok (.istore 5, 2) := by decide +kernel
theorem dX10_dotsOf_19 : decode cX10_dotsOf 19 = .ok (.iload 5, 2) := by decide +kernel
theorem dX10_dotsOf_21 : decode cX10_dotsOf 21 = .ok (.bipush 32, 2) := by decide +kernel
theorem dX10_dotsOf_23 : decode cX10_dotsOf 23 = .ok (.if_icmp .ge 95, 3) := by decide +kernel
theorem dX10_dotsOf_26 : decode cX10_dotsOf 26 = .ok (.aload_n 0, 1) := by decide +kernel
theorem dX10_dotsOf_27 : decode cX10_dotsOf 27 = .ok (.getfield 33, 3) := by decide +kernel
theorem dX10_dotsOf_30 : decode cX10_dotsOf 30 = .ok (.iload 4, 2) := by decide +kernel
theorem dX10_dotsOf_32 : decode cX10_dotsOf 32 = .ok (.iaload, 1) := by decide +kernel
theorem dX10_dotsOf_33 : decode cX10_dotsOf 33 = .ok (.iload_n 1, 1) := by decide +kernel
theorem dX10_dotsOf_34 : decode cX10_dotsOf 34 = .ok (.invokestatic 54, 3) := by decide +kernel
theorem dX10_dotsOf_37 : decode cX10_dotsOf 37 = .ok (.ifCond .eq 81, 3) := by decide +kernel
theorem dX10_dotsOf_40 : decode cX10_dotsOf 40 = .ok (.aload_n 0, 1) := by decide +kernel
theorem dX10_dotsOf_41 : decode cX10_dotsOf 41 = .ok (.iload_n 1, 1) := by decide +kernel
theorem dX10_dotsOf_42 : decode cX10_dotsOf 42 = .ok (.iload 4, 2) := by decide +kernel
theorem dX10_dotsOf_44 : decode cX10_dotsOf 44 = .ok (.iload 5, 2) := by decide +kernel
theorem dX10_dotsOf_46 : decode cX10_dotsOf 46 = .ok (.invokevirtual 71, 3) := by decide +kernel
theorem dX10_dotsOf_49 : decode cX10_dotsOf 49 = .ok (.ifCond .eq 26, 3) := by decide +kernel
theorem dX10_dotsOf_52 : decode cX10_dotsOf 52 = .ok (.aload_n 0, 1) := by decide +kernel
theorem dX10_dotsOf_53 : decode cX10_dotsOf 53 = .ok (.aload_n 0, 1) := by decide +kernel
theorem dX10_dotsOf_54 : decode cX10_dotsOf 54 = .ok (.getfield 33, 3) := by decide +kernel
theorem dX10_dotsOf_57 : decode cX10_dotsOf 57 = .ok (.iload 4, 2) := by decide +kernel
theorem dX10_dotsOf_59 : decode cX10_dotsOf 59 = .ok (.iaload, 1) := by decide +kernel
theorem dX10_dotsOf_60 : decode cX10_dotsOf 60 = .ok (.iload 4, 2) := by decide +kernel
theorem dX10_dotsOf_62 : decode cX10_dotsOf 62 = .ok (.iload 5, 2) := by decide +kernel
theorem dX10_dotsOf_64 : decode cX10_dotsOf 64 = .ok (.invokevirtual 74, 3) := by decide +kernel
theorem dX10_dotsOf_67 : decode cX10_dotsOf 67 = .ok (.iload_n 1, 1) := by decide +kernel
theorem dX10_dotsOf_68 : decode cX10_dotsOf 68 = .ok (.if_icmp .ne 7, 3) := by decide +kernel
theorem dX10_dotsOf_71 : decode cX10_dotsOf 71 = .ok (.iconst 1, 1) := by decide +kernel
theorem dX10_dotsOf_72 : decode cX10_dotsOf 72 = .ok (.goto 4, 3) := by decide +kernel
theorem dX10_dotsOf_75 : decode cX10_dotsOf 75 = .ok (.iconst 0, 1) := by decide +kernel
theorem dX10_dotsOf_76 : decode cX10_dotsOf 76 = .ok (.istore 6, 2) := by decide +kernel
theorem dX10_dotsOf_78 : decode cX10_dotsOf 78 = .ok (.iload_n 3, 1) := by decide +kernel
theorem dX10_dotsOf_79 : decode cX10_dotsOf 79 = .ok (.aload_n 0, 1) := by decide +kernel
theorem dX10_dotsOf_80 : decode cX10_dotsOf 80 = .ok (.iload_n 1, 1) := by decide +kernel
theorem dX10_dotsOf_81 : decode cX10_dotsOf 81 = .ok (.iload 4, 2) := by decide +kernel
theorem dX10_dotsOf_83 : decode cX10_dotsOf 83 = .ok (.iload 5, 2) := by decide +kernel
theorem dX10_dotsOf_85 : decode cX10_dotsOf 85 = .ok (.invokevirtual 71, 3) := by decide +kernel
theorem dX10_dotsOf_88 : decode cX10_dotsOf 88 = .ok (.ifCond .eq 21, 3) := by decide +kernel
theorem dX10_dotsOf_91 : decode cX10_dotsOf 91 = .ok (.iload 6, 2) := by decide +kernel
theorem dX10_dotsOf_93 : decode cX10_dotsOf 93 = .ok (.iload_n 2, 1) := by decide +kernel
theorem dX10_dotsOf_94 : decode cX10_dotsOf 94 = .ok (.ifCond .ne 7, 3) := by decide +kernel
theorem dX10_dotsOf_97 : decode cX10_dotsOf 97 = .ok (.iconst 1, 1) := by decide +kernel
theorem dX10_dotsOf_98 : decode cX10_dotsOf 98 = .ok (.goto 4, 3) := by decide +kernel
theorem dX10_dotsOf_101 : decode cX10_dotsOf 101 = .ok (.iconst 0, 1) := by decide +kernel
theorem dX10_dotsOf_102 : decode cX10_dotsOf 102 = .ok (.if_icmp .ne 7, 3) := by decide +kernel
theorem dX10_dotsOf_105 : decode cX10_dotsOf 105 = .ok (.iconst 1, 1) := by decide +kernel
theorem dX10_dotsOf_106 : decode cX10_dotsOf 106 = .ok (.goto 4, 3) := by decide +kernel
theorem dX10_dotsOf_109 : decode cX10_dotsOf 109 = .ok (.iconst 0, 1) := by decide +kernel
theorem dX10_dotsOf_110 : decode cX10_dotsOf 110 = .ok (.iadd, 1) := by decide +kernel
theorem dX10_dotsOf_111 : decode cX10_dotsOf 111 = .ok (.istore_n 3, 1) := by decide +kernel
theorem dX10_dotsOf_112 : decode cX10_dotsOf 112 = .ok (.iinc 5 1, 3) := by decide +kernel
theorem dX10_dotsOf_115 : decode cX10_dotsOf 115 = .ok (.goto (-96), 3) := by decide +kernel
theorem dX10_dotsOf_118 : decode cX10_dotsOf 118 = .ok (.iinc 4 1, 3) := by decide +kernel
theorem dX10_dotsOf_121 : decode cX10_dotsOf 121 = .ok (.goto (-112), 3) := by decide +kernel
theorem dX10_dotsOf_124 : decode cX10_dotsOf 124 = .ok (.iload_n 3, 1) := by decide +kernel
theorem dX10_dotsOf_125 : decode cX10_dotsOf 125 = .ok (.ireturn, 1) := by decide +kernel
set_option maxRecDepth 20000 in
theorem ggX10_droppedOf_X10_isOn : GoodIn wsX10_droppedOf wsX10_isOn := goodIn_r _ [5, 6, 7, 8, 4, 9, 10, 11, 12, 13, 33, 34, 35, 36, 37, 38, 39, 40, 41, 42, 43, 44, 45] (by decide +kernel) (by decide +kernel)
set_option maxRecDepth 20000 in
theorem gX10_droppedOf_X10_isOn : GoodIn wsX10_droppedOf (wsV RX10 58 RX10 yX10_isOn wsX10_isOn) := goodIn_app (goodIn_of _ (by decide +kernel)) ggX10_droppedOf_X10_isOn
set_option maxRecDepth 20000 in
theorem ggX10_droppedOf_X10_drawnOn : GoodIn wsX10_droppedOf wsX10_drawnOn := goodIn_r _ [17, 10, 18, 19, 20, 4, 21, 22, 23, 24, 25, 1, 2, 3, 5, 6, 7, 8, 9, 11, 12, 13, 26, 27, 28, 29, 30, 31, 32, 33, 34, 35, 36, 37, 38, 39, 40, 41, 42, 43, 44, 45] (by decide +kernel) (by decide +kernel)
set_option maxRecDepth 20000 in
theorem gX10_droppedOf_X10_drawnOn : GoodIn wsX10_droppedOf (wsV RX10 78 RX10 yX10_drawnOn wsX10_drawnOn) := goodIn_app (goodIn_of _ (by decide +kernel)) ggX10_droppedOf_X10_drawnOn
set_option maxRecDepth 20000 in
theorem ggX10_droppedOf_X10_has : GoodIn wsX10_droppedOf wsX10_has := goodIn_r _ [28] (by decide +kernel) (by decide +kernel)
set_option maxRecDepth 20000 in
theorem gX10_droppedOf_X10_has : GoodIn wsX10_droppedOf (va_wsS RX10 54 yX10_has wsX10_has) := goodIn_app (goodIn_of _ (by decide +kernel)) ggX10_droppedOf_X10_has
theorem dX10_droppedOf_0 : decode cX10_droppedOf 0 = .ok (.iconst 0, 1) := by decide +kernel
theorem dX10_droppedOf_1 : decode cX10_droppedOf 1 = .ok (.istore_n 2, 1) := by decide +kernel
theorem dX10_droppedOf_2 : decode cX10_droppedOf 2 = .ok (.iconst 0, 1) := by decide +kernel
theorem dX10_droppedOf_3 : decode cX10_droppedOf 3 = .ok (.istore_n 3, 1) := by decide +kernel
theorem dX10_droppedOf_4 : decode cX10_droppedOf 4 = .ok (.iload_n 3, 1) := by decide +kernel
theorem dX10_droppedOf_5 : decode cX10_droppedOf 5 = .ok (.bipush 24, 2) := by decide +kernel
theorem dX10_droppedOf_7 : decode cX10_droppedOf 7 = .ok (.if_icmp .ge 40, 3) := by decide +kernel
theorem dX10_droppedOf_10 : decode cX10_droppedOf 10 = .ok (.iload_n 2, 1) := by decide +kernel
theorem dX10_droppedOf_11 : decode cX10_droppedOf 11 = .ok (.aload_n 0, 1) := by decide +kernel
theorem dX10_droppedOf_12 : decode cX10_droppedOf 12 = .ok (.iload_n 1, 1) := by decide +kernel
theorem dX10_droppedOf_13 : decode cX10_droppedOf 13 = .ok (.iload_n 3, 1) := by decide +kernel
theorem dX10_droppedOf_14 : decode cX10_droppedOf 14 = .ok (.invokevirtual 58, 3) := by decide +kernel
theorem dX10_droppedOf_17 : decode cX10_droppedOf 17 = .ok (.ifCond .eq 21, 3) := by decide +kernel
theorem dX10_droppedOf_20 : decode cX10_droppedOf 20 = .ok (.aload_n 0, 1) := by decide +kernel
theorem dX10_droppedOf_21 : decode cX10_droppedOf 21 = .ok (.iload_n 3, 1) := by decide +kernel
theorem dX10_droppedOf_22 : decode cX10_droppedOf 22 = .ok (.invokevirtual 78, 3) := by decide +kernel
theorem dX10_droppedOf_25 : decode cX10_droppedOf 25 = .ok (.iload_n 1, 1) := by decide +kernel
theorem dX10_droppedOf_26 : decode cX10_droppedOf 26 = .ok (.invokestatic 54, 3) := by decide +kernel
theorem dX10_droppedOf_29 : decode cX10_droppedOf 29 = .ok (.ifCond .ne 9, 3) := by decide +kernel
theorem dX10_droppedOf_32 : decode cX10_droppedOf 32 = .ok (.iconst 1, 1) := by decide +kernel
theorem dX10_droppedOf_33 : decode cX10_droppedOf 33 = .ok (.iload_n 3, 1) := by decide +kernel
theorem dX10_droppedOf_34 : decode cX10_droppedOf 34 = .ok (.ishl, 1) := by decide +kernel
theorem dX10_droppedOf_35 : decode cX10_droppedOf 35 = .ok (.goto 4, 3) := by decide +kernel
theorem dX10_droppedOf_38 : decode cX10_droppedOf 38 = .ok (.iconst 0, 1) := by decide +kernel
theorem dX10_droppedOf_39 : decode cX10_droppedOf 39 = .ok (.ior, 1) := by decide +kernel
theorem dX10_droppedOf_40 : decode cX10_droppedOf 40 = .ok (.istore_n 2, 1) := by decide +kernel
theorem dX10_droppedOf_41 : decode cX10_droppedOf 41 = .ok (.iinc 3 1, 3) := by decide +kernel
theorem dX10_droppedOf_44 : decode cX10_droppedOf 44 = .ok (.goto (-40), 3) := by decide +kernel
theorem dX10_droppedOf_47 : decode cX10_droppedOf 47 = .ok (.iload_n 2, 1) := by decide +kernel
theorem dX10_droppedOf_48 : decode cX10_droppedOf 48 = .ok (.ireturn, 1) := by decide +kernel
set_option maxRecDepth 20000 in
theorem ggX10_meets_X10_draws : GoodIn wsX10_meets wsX10_draws := goodIn_r _ [7, 1, 8, 9, 10, 6, 11, 2, 12, 13, 14, 15, 16, 17, 18, 19, 20, 21, 22, 23, 24, 25, 26, 27, 28, 29, 30, 31, 32, 33, 34, 35, 36, 37, 42, 43, 44, 45, 46, 47, 48, 49, 50, 51, 52, 53, 54] (by decide +kernel) (by decide +kernel)
set_option maxRecDepth 20000 in
theorem gX10_meets_X10_draws : GoodIn wsX10_meets (wsV RX10 81 RX10 yX10_draws wsX10_draws) := goodIn_app (goodIn_of _ (by decide +kernel)) ggX10_meets_X10_draws
set_option maxRecDepth 20000 in
theorem ggX10_meets_X10_onLine : GoodIn wsX10_meets wsX10_onLine := goodIn_r _ [19, 2, 20, 21, 22, 6, 23, 24, 25, 26, 27, 28, 29, 30, 42, 43, 44, 45, 46, 47, 48, 49, 50, 51, 52, 53, 54] (by decide +kernel) (by decide +kernel)
set_option maxRecDepth 20000 in
theorem gX10_meets_X10_onLine : GoodIn wsX10_meets (wsV RX10 61 RX10 yX10_onLine wsX10_onLine) := goodIn_app (goodIn_of _ (by decide +kernel)) ggX10_meets_X10_onLine
set_option maxRecDepth 20000 in
theorem ggX10_meets_X10_has : GoodIn wsX10_meets wsX10_has := goodIn_r _ [33] (by decide +kernel) (by decide +kernel)
set_option maxRecDepth 20000 in
theorem gX10_meets_X10_has : GoodIn wsX10_meets (va_wsS RX10 54 yX10_has wsX10_has) := goodIn_app (goodIn_of _ (by decide +kernel)) ggX10_meets_X10_has
set_option maxRecDepth 20000 in
theorem ggX10_meets_X10_hasDot : GoodIn wsX10_meets wsX10_hasDot := goodIn_r _ [41, 2, 24, 25, 26, 6, 27, 28, 29, 30, 31, 32, 33, 42, 43, 44, 45, 46, 47, 48, 49, 50, 51, 52, 53, 54] (by decide +kernel) (by decide +kernel)
set_option maxRecDepth 20000 in
theorem gX10_meets_X10_hasDot : GoodIn wsX10_meets (wsV RX10 71 RX10 yX10_hasDot wsX10_hasDot) := goodIn_app (goodIn_of _ (by decide +kernel)) ggX10_meets_X10_hasDot
theorem dX10_meets_0 : decode cX10_meets 0 = .ok (.iconst 0, 1) := by decide +kernel
theorem dX10_meets_1 : decode cX10_meets 1 = .ok (.istore_n 3, 1) := by decide +kernel
theorem dX10_meets_2 : decode cX10_meets 2 = .ok (.aload_n 0, 1) := by decide +kernel
theorem dX10_meets_3 : decode cX10_meets 3 = .ok (.invokevirtual 81, 3) := by decide +kernel
theorem dX10_meets_6 : decode cX10_meets 6 = .ok (.iconst 0, 1) := by decide +kernel
theorem dX10_meets_7 : decode cX10_meets 7 = .ok (.istore 4, 2) := by decide +kernel
theorem dX10_meets_9 : decode cX10_meets 9 = .ok (.iload 4, 2) := by decide +kernel
theorem dX10_meets_11 : decode cX10_meets 11 = .ok (.bipush 24, 2) := by decide +kernel
theorem dX10_meets_13 : decode cX10_meets 13 = .ok (.if_icmp .ge 128, 3) := by decide +kernel
theorem dX10_meets_16 : decode cX10_meets 16 = .ok (.iload_n 2, 1) := by decide +kernel
theorem dX10_meets_17 : decode cX10_meets 17 = .ok (.ifCond .eq 12, 3) := by decide +kernel
theorem dX10_meets_20 : decode cX10_meets 20 = .ok (.aload_n 0, 1) := by decide +kernel
theorem dX10_meets_21 : decode cX10_meets 21 = .ok (.iload 4, 2) := by decide +kernel
theorem dX10_meets_23 : decode cX10_meets 23 = .ok (.invokevirtual 61, 3) := by decide +kernel
theorem dX10_meets_26 : decode cX10_meets 26 = .ok (.goto 10, 3) := by decide +kernel
theorem dX10_meets_29 : decode cX10_meets 29 = .ok (.aload_n 0, 1) := by decide +kernel
theorem dX10_meets_30 : decode cX10_meets 30 = .ok (.getfield 33, 3) := by decide +kernel
theorem dX10_meets_33 : decode cX10_meets 33 = .ok (.iload 4, 2) := by decide +kernel
theorem dX10_meets_35 : decode cX10_meets 35 = .ok (.iaload, 1) := by decide +kernel
theorem dX10_meets_36 : decode cX10_meets 36 = .ok (.istore 5, 2) := by decide +kernel
theorem dX10_meets_38 : decode cX10_meets 38 = .ok (.iconst 0, 1) := by decide +kernel
theorem dX10_meets_39 : decode cX10_meets 39 = .ok (.istore 6, 2) := by decide +kernel
theorem dX10_meets_41 : decode cX10_meets 41 = .ok (.iload 6, 2) := by decide +kernel
theorem dX10_meets_43 : decode cX10_meets 43 = .ok (.bipush 32, 2) := by decide +kernel
theorem dX10_meets_45 : decode cX10_meets 45 = .ok (.if_icmp .ge 90, 3) := by decide +kernel
theorem dX10_meets_48 : decode cX10_meets 48 = .ok (.iload 5, 2) := by decide +kernel
theorem dX10_meets_50 : decode cX10_meets 50 = .ok (.iload_n 1, 1) := by decide +kernel
theorem dX10_meets_51 : decode cX10_meets 51 = .ok (.invokestatic 54, 3) := by decide +kernel
theorem dX10_meets_54 : decode cX10_meets 54 = .ok (.ifCond .eq 81, 3) := by decide +kernel
theorem dX10_meets_57 : decode cX10_meets 57 = .ok (.iconst 0, 1) := by decide +kernel
theorem dX10_meets_58 : decode cX10_meets 58 = .ok (.istore 7, 2) := by decide +kernel
theorem dX10_meets_60 : decode cX10_meets 60 = .ok (.iload 7, 2) := by decide +kernel
theorem dX10_meets_62 : decode cX10_meets 62 = .ok (.aload_n 0, 1) := by decide +kernel
theorem dX10_meets_63 : decode cX10_meets 63 = .ok (.getfield 7, 3) := by decide +kernel
theorem dX10_meets_66 : decode cX10_meets 66 = .ok (.iconst 0, 1) := by decide +kernel
theorem dX10_meets_67 : decode cX10_meets 67 = .ok (.iaload, 1) := by decide +kernel
theorem dX10_meets_68 : decode cX10_meets 68 = .ok (.if_icmp .ge 61, 3) := by decide +kernel
theorem dX10_meets_71 : decode cX10_meets 71 = .ok (.iload_n 3, 1) := by decide +kernel
theorem dX10_meets_72 : decode cX10_meets 72 = .ok (.iload 7, 2) := by decide +kernel
theorem dX10_meets_74 : decode cX10_meets 74 = .ok (.iload_n 1, 1) := by decide +kernel
theorem dX10_meets_75 : decode cX10_meets 75 = .ok (.if_icmp .eq 45, 3) := by decide +kernel
theorem dX10_meets_78 : decode cX10_meets 78 = .ok (.iload 5, 2) := by decide +kernel
theorem dX10_meets_80 : decode cX10_meets 80 = .ok (.iload 7, 2) := by decide +kernel
theorem dX10_meets_82 : decode cX10_meets 82 = .ok (.invokestatic 54, 3) := by decide +kernel
theorem dX10_meets_85 : decode cX10_meets 85 = .ok (.ifCond .eq 35, 3) := by decide +kernel
theorem dX10_meets_88 : decode cX10_meets 88 = .ok (.aload_n 0, 1) := by decide +kernel
theorem dX10_meets_89 : decode cX10_meets 89 = .ok (.iload_n 1, 1) := by decide +kernel
theorem dX10_meets_90 : decode cX10_meets 90 = .ok (.iload 4, 2) := by decide +kernel
theorem dX10_meets_92 : decode cX10_meets 92 = .ok (.iload 6, 2) := by decide +kernel
theorem dX10_meets_94 : decode cX10_meets 94 = .ok (.invokevirtual 71, 3) := by decide +kernel
theorem dX10_meets_97 : decode cX10_meets 97 = .ok (.ifCond .eq 23, 3) := by decide +kernel
theorem dX10_meets_100 : decode cX10_meets 100 = .ok (.aload_n 0, 1) := by decide +kernel
theorem dX10_meets_101 : decode cX10_meets 101 = .ok (.iload 7, 2) := by decide +kernel
theorem dX10_meets_103 : decode cX10_meets 103 = .ok (.iload 4, 2) := by decide +kernel
theorem dX10_meets_105 : decode cX10_meets 105 = .ok (.iload 6, 2) := by decide +kernel
theorem dX10_meets_107 : decode cX10_meets 107 = .ok (.invokevirtual 71, 3) := by decide +kernel
theorem dX10_meets_110 : decode cX10_meets 110 = .ok (.ifCond .eq 10, 3) := by decide +kernel
theorem dX10_meets_113 : decode cX10_meets 113 = .ok (.iconst 1, 1) := by decide +kernel
theorem dX10_meets_114 : decode cX10_meets 114 = .ok (.iload 7, 2) := by decide +kernel
theorem dX10_meets_116 : decode cX10_meets 116 = .ok (.ishl, 1) := by decide +kernel
theorem dX10_meets_117 : decode cX10_meets 117 = .ok (.goto 4, 3) := by decide +kernel
theorem dX10_meets_120 : decode cX10_meets 120 = .ok (.iconst 0, 1) := by decide +kernel
theorem dX10_meets_121 : decode cX10_meets 121 = .ok (.ior, 1) := by decide +kernel
theorem dX10_meets_122 : decode cX10_meets 122 = .ok (.istore_n 3, 1) := by decide +kernel
theorem dX10_meets_123 : decode cX10_meets 123 = .ok (.iinc 7 1, 3) := by decide +kernel
theorem dX10_meets_126 : decode cX10_meets 126 = .ok (.goto (-66), 3) := by decide +kernel
theorem dX10_meets_129 : decode cX10_meets 129 = .ok (.iinc 6 1, 3) := by decide +kernel
theorem dX10_meets_132 : decode cX10_meets 132 = .ok (.goto (-91), 3) := by decide +kernel
theorem dX10_meets_135 : decode cX10_meets 135 = .ok (.iinc 4 1, 3) := by decide +kernel
theorem dX10_meets_138 : decode cX10_meets 138 = .ok (.goto (-129), 3) := by decide +kernel
theorem dX10_meets_141 : decode cX10_meets 141 = .ok (.iload_n 3, 1) := by decide +kernel
theorem dX10_meets_142 : decode cX10_meets 142 = .ok (.ireturn, 1) := by decide +kernel
set_option maxRecDepth 20000 in
theorem ggX10_thing_X10_isThing : GoodIn wsX10_thing wsX10_isThing := goodIn_r _ [8, 9, 10, 11, 7, 12, 70, 71, 72, 73, 74, 75, 76, 77, 78, 79, 80, 81, 82] (by decide +kernel) (by decide +kernel)
set_option maxRecDepth 20000 in
theorem gX10_thing_X10_isThing : GoodIn wsX10_thing (wsV RX10 113 RX10 yX10_isThing wsX10_isThing) := goodIn_app (goodIn_of _ (by decide +kernel)) ggX10_thing_X10_isThing
set_option maxRecDepth 20000 in
theorem ggX10_thing_X10_of : GoodIn wsX10_thing wsX10_of := goodIn_r _ [16, 9, 70, 71, 72, 73, 74, 75, 76, 77, 78, 79, 80, 81, 82] (by decide +kernel) (by decide +kernel)
set_option maxRecDepth 20000 in
theorem gX10_thing_X10_of : GoodIn wsX10_thing (wsV RX10 50 RX10 yX10_of wsX10_of) := goodIn_app (goodIn_of _ (by decide +kernel)) ggX10_thing_X10_of
set_option maxRecDepth 20000 in
theorem ggX10_thing_X10_dotsOf : GoodIn wsX10_thing wsX10_dotsOf := goodIn_r _ [20, 21, 22, 23, 24, 7, 25, 26, 27, 28, 29, 9, 30, 31, 32, 33, 34, 35, 36, 37, 38, 39, 40, 41, 13, 14, 15, 16, 10, 11, 12, 42, 43, 44, 45, 46, 47, 48, 49, 50, 51, 52, 53, 54, 55, 56, 70, 71, 72, 73, 74, 75, 76, 77, 78, 79, 80, 81, 82] (by decide +kernel) (by decide +kernel)
set_option maxRecDepth 20000 in
theorem gX10_thing_X10_dotsOf : GoodIn wsX10_thing (wsV RX10 118 RX10 yX10_dotsOf wsX10_dotsOf) := goodIn_app (goodIn_of _ (by decide +kernel)) ggX10_thing_X10_dotsOf
set_option maxRecDepth 20000 in
theorem ggX10_thing_X10_droppedOf : GoodIn wsX10_thing wsX10_droppedOf := goodIn_r _ [60, 38, 39, 40, 7, 41, 13, 14, 15, 16, 9, 10, 11, 12, 26, 27, 28, 29, 30, 31, 32, 33, 34, 35, 36, 37, 42, 43, 44, 45, 46, 47, 48, 70, 71, 72, 73, 74, 75, 76, 77, 78, 79, 80, 81, 82] (by decide +kernel) (by decide +kernel)
set_option maxRecDepth 20000 in
theorem gX10_thing_X10_droppedOf : GoodIn wsX10_thing (wsV RX10 121 RX10 yX10_droppedOf wsX10_droppedOf) := goodIn_app (goodIn_of _ (by decide +kernel)) ggX10_thing_X10_droppedOf
set_option maxRecDepth 20000 in
theorem ggX10_thing_X10_holds : GoodIn wsX10_thing wsX10_holds := goodIn_r _ [64, 9, 65, 2, 13, 14, 15, 7, 16, 70, 71, 72, 73, 74, 75, 76, 77, 78, 79, 80, 81, 82] (by decide +kernel) (by decide +kernel)
set_option maxRecDepth 20000 in
theorem gX10_thing_X10_holds : GoodIn wsX10_thing (wsV RX10 103 RX10 yX10_holds wsX10_holds) := goodIn_app (goodIn_of _ (by decide +kernel)) ggX10_thing_X10_holds
set_option maxRecDepth 20000 in
theorem ggX10_thing_X10_meets : GoodIn wsX10_thing wsX10_meets := goodIn_r _ [69, 21, 9, 22, 23, 24, 7, 25, 26, 27, 28, 29, 30, 31, 32, 33, 34, 35, 36, 37, 38, 39, 40, 41, 13, 14, 15, 16, 10, 11, 12, 42, 43, 44, 45, 46, 47, 48, 49, 50, 51, 52, 70, 71, 72, 73, 74, 75, 76, 77, 78, 79, 80, 81, 82] (by decide +kernel) (by decide +kernel)
set_option maxRecDepth 20000 in
theorem gX10_thing_X10_meets : GoodIn wsX10_thing (wsV RX10 124 RX10 yX10_meets wsX10_meets) := goodIn_app (goodIn_of _ (by decide +kernel)) ggX10_thing_X10_meets
theorem dX10_thing_0 : decode cX10_thing 0 = .ok (.aload_n 0, 1) := by decide +kernel
theorem dX10_thing_1 : decode cX10_thing 1 = .ok (.iload_n 1, 1) := by decide +kernel
theorem dX10_thing_2 : decode cX10_thing 2 = .ok (.invokevirtual 113, 3) := by decide +kernel
theorem dX10_thing_5 : decode cX10_thing 5 = .ok (.ifCond .ne 6, 3) := by decide +kernel
theorem dX10_thing_8 : decode cX10_thing 8 = .ok (.ldc 117, 2) := by decide +kernel
theorem dX10_thing_10 : decode cX10_thing 10 = .ok (.ireturn, 1) := by decide +kernel
theorem dX10_thing_11 : decode cX10_thing 11 = .ok (.iload_n 2, 1) := by decide +kernel
theorem dX10_thing_12 : decode cX10_thing 12 = .ok (.tableswitch 135 0 13 #[72, 72, 82, 82, 82, 82, 72, 72, 89, 96, 103, 109, 121, 128], 72) := by decide +kernel
theorem dX10_thing_84 : decode cX10_thing 84 = .ok (.aload_n 0, 1) := by decide +kernel
theorem dX10_thing_85 : decode cX10_thing 85 = .ok (.iload_n 1, 1) := by decide +kernel
theorem dX10_thing_86 : decode cX10_thing 86 = .ok (.iload_n 2, 1) := by decide +kernel
theorem dX10_thing_87 : decode cX10_thing 87 = .ok (.invokevirtual 50, 3) := by decide +kernel
theorem dX10_thing_90 : decode cX10_thing 90 = .ok (.bipush 8, 2) := by decide +kernel
theorem dX10_thing_92 : decode cX10_thing 92 = .ok (.iadd, 1) := by decide +kernel
theorem dX10_thing_93 : decode cX10_thing 93 = .ok (.ireturn, 1) := by decide +kernel
theorem dX10_thing_94 : decode cX10_thing 94 = .ok (.aload_n 0, 1) := by decide +kernel
theorem dX10_thing_95 : decode cX10_thing 95 = .ok (.iload_n 1, 1) := by decide +kernel
theorem dX10_thing_96 : decode cX10_thing 96 = .ok (.iload_n 2, 1) := by decide +kernel
theorem dX10_thing_97 : decode cX10_thing 97 = .ok (.invokevirtual 50, 3) := by decide +kernel
theorem dX10_thing_100 : decode cX10_thing 100 = .ok (.ireturn, 1) := by decide +kernel
theorem dX10_thing_101 : decode cX10_thing 101 = .ok (.aload_n 0, 1) := by decide +kernel
theorem dX10_thing_102 : decode cX10_thing 102 = .ok (.iload_n 1, 1) := by decide +kernel
theorem dX10_thing_103 : decode cX10_thing 103 = .ok (.iconst 0, 1) := by decide +kernel
theorem dX10_thing_104 : decode cX10_thing 104 = .ok (.invokevirtual 118, 3) := by decide +kernel
theorem dX10_thing_107 : decode cX10_thing 107 = .ok (.ireturn, 1) := by decide +kernel
theorem dX10_thing_108 : decode cX10_thing 108 = .ok (.aload_n 0, 1) := by decide +kernel
theorem dX10_thing_109 : decode cX10_thing 109 = .ok (.iload_n 1, 1) := by decide +kernel
theorem dX10_thing_110 : decode cX10_thing 110 = .ok (.iconst 1, 1) := by decide +kernel
theorem dX10_thing_111 : decode cX10_thing 111 = .ok (.invokevirtual 118, 3) := by decide +kernel
theorem dX10_thing_114 : decode cX10_thing 114 = .ok (.ireturn, 1) := by decide +kernel
theorem dX10_thing_115 : decode cX10_thing 115 = .ok (.aload_n 0, 1) := by decide +kernel
theorem dX10_thing_116 : decode cX10_thing 116 = .ok (.iload_n 1, 1) := by decide +kernel
theorem dX10_thing_117 : decode cX10_thing 117 = .ok (.invokevirtual 121, 3) := by decide +kernel
theorem dX10_thing_120 : decode cX10_thing 120 = .ok (.ireturn, 1) := by decide +kernel
theorem dX10_thing_121 : decode cX10_thing 121 = .ok (.aload_n 0, 1) := by decide +kernel
theorem dX10_thing_122 : decode cX10_thing 122 = .ok (.invokevirtual 103, 3) := by decide +kernel
theorem dX10_thing_125 : decode cX10_thing 125 = .ok (.pop, 1) := by decide +kernel
theorem dX10_thing_126 : decode cX10_thing 126 = .ok (.aload_n 0, 1) := by decide +kernel
theorem dX10_thing_127 : decode cX10_thing 127 = .ok (.getfield 36, 3) := by decide +kernel
theorem dX10_thing_130 : decode cX10_thing 130 = .ok (.iload_n 1, 1) := by decide +kernel
theorem dX10_thing_131 : decode cX10_thing 131 = .ok (.iaload, 1) := by decide +kernel
theorem dX10_thing_132 : decode cX10_thing 132 = .ok (.ireturn, 1) := by decide +kernel
theorem dX10_thing_133 : decode cX10_thing 133 = .ok (.aload_n 0, 1) := by decide +kernel
theorem dX10_thing_134 : decode cX10_thing 134 = .ok (.iload_n 1, 1) := by decide +kernel
theorem dX10_thing_135 : decode cX10_thing 135 = .ok (.iconst 0, 1) := by decide +kernel
theorem dX10_thing_136 : decode cX10_thing 136 = .ok (.invokevirtual 124, 3) := by decide +kernel
theorem dX10_thing_139 : decode cX10_thing 139 = .ok (.ireturn, 1) := by decide +kernel
theorem dX10_thing_140 : decode cX10_thing 140 = .ok (.aload_n 0, 1) := by decide +kernel
theorem dX10_thing_141 : decode cX10_thing 141 = .ok (.iload_n 1, 1) := by decide +kernel
theorem dX10_thing_142 : decode cX10_thing 142 = .ok (.iconst 1, 1) := by decide +kernel
theorem dX10_thing_143 : decode cX10_thing 143 = .ok (.invokevirtual 124, 3) := by decide +kernel
theorem dX10_thing_146 : decode cX10_thing 146 = .ok (.ireturn, 1) := by decide +kernel
theorem dX10_thing_147 : decode cX10_thing 147 = .ok (.ldc 112, 2) := by decide +kernel
theorem dX10_thing_149 : decode cX10_thing 149 = .ok (.ireturn, 1) := by decide +kernel
set_option maxRecDepth 20000 in
theorem ggX10_dot_X10_in : GoodIn wsX10_dot wsX10_in := goodIn_r _ [5] (by decide +kernel) (by decide +kernel)
set_option maxRecDepth 20000 in
theorem gX10_dot_X10_in : GoodIn wsX10_dot (va_wsS RX10 42 yX10_in wsX10_in) := goodIn_app (goodIn_of _ (by decide +kernel)) ggX10_dot_X10_in
set_option maxRecDepth 20000 in
theorem ggX10_dot_X10_drawnOn : GoodIn wsX10_dot wsX10_drawnOn := goodIn_r _ [9, 10, 11, 12, 13, 4, 14, 15, 16, 17, 18, 19, 20, 21, 22, 23, 24, 25, 26, 2, 3, 5, 27, 28, 29, 30, 31, 32, 33, 46, 47, 48, 49, 50, 51, 52, 53, 54, 55, 56, 57, 58] (by decide +kernel) (by decide +kernel)
set_option maxRecDepth 20000 in
theorem gX10_dot_X10_drawnOn : GoodIn wsX10_dot (wsV RX10 78 RX10 yX10_drawnOn wsX10_drawnOn) := goodIn_app (goodIn_of _ (by decide +kernel)) ggX10_dot_X10_drawnOn
set_option maxRecDepth 20000 in
theorem ggX10_dot_X10_seenAt : GoodIn wsX10_dot wsX10_seenAt := goodIn_r _ [37, 10, 27, 28, 4, 29, 38, 39, 40, 41, 23, 24, 25, 26, 2, 3, 5, 46, 47, 48, 49, 50, 51, 52, 53, 54, 55, 56, 57, 58] (by decide +kernel) (by decide +kernel)
set_option maxRecDepth 20000 in
theorem gX10_dot_X10_seenAt : GoodIn wsX10_dot (wsV RX10 74 RX10 yX10_seenAt wsX10_seenAt) := goodIn_app (goodIn_of _ (by decide +kernel)) ggX10_dot_X10_seenAt
set_option maxRecDepth 20000 in
theorem ggX10_dot_X10_onLine : GoodIn wsX10_dot wsX10_onLine := goodIn_r _ [18, 10, 19, 20, 21, 4, 22, 23, 24, 25, 26, 2, 3, 5, 46, 47, 48, 49, 50, 51, 52, 53, 54, 55, 56, 57, 58] (by decide +kernel) (by decide +kernel)
set_option maxRecDepth 20000 in
theorem gX10_dot_X10_onLine : GoodIn wsX10_dot (wsV RX10 61 RX10 yX10_onLine wsX10_onLine) := goodIn_app (goodIn_of _ (by decide +kernel)) ggX10_dot_X10_onLine
set_option maxRecDepth 20000 in
theorem ggX10_dot_X10_colourAt : GoodIn wsX10_dot wsX10_colourAt := goodIn_r _ [45, 34, 35, 36, 4, 37, 10, 27, 28, 29, 38, 39, 40, 41, 23, 24, 25, 26, 2, 3, 5, 46, 47, 48, 49, 50, 51, 52, 53, 54, 55, 56, 57, 58] (by decide +kernel) (by decide +kernel)
set_option maxRecDepth 20000 in
theorem gX10_dot_X10_colourAt : GoodIn wsX10_dot (wsV RX10 84 RX10 yX10_colourAt wsX10_colourAt) := goodIn_app (goodIn_of _ (by decide +kernel)) ggX10_dot_X10_colourAt
theorem dX10_dot_0 : decode cX10_dot 0 = .ok (.iload_n 1, 1) := by decide +kernel
theorem dX10_dot_1 : decode cX10_dot 1 = .ok (.iconst 0, 1) := by decide +kernel
theorem dX10_dot_2 : decode cX10_dot 2 = .ok (.bipush 23, 2) := by decide +kernel
theorem dX10_dot_4 : decode cX10_dot 4 = .ok (.invokestatic 42, 3) := by decide +kernel
theorem dX10_dot_7 : decode cX10_dot 7 = .ok (.ifCond .eq 22, 3) := by decide +kernel
theorem dX10_dot_10 : decode cX10_dot 10 = .ok (.iload_n 2, 1) := by decide +kernel
theorem dX10_dot_11 : decode cX10_dot 11 = .ok (.iconst 0, 1) := by decide +kernel
theorem dX10_dot_12 : decode cX10_dot 12 = .ok (.bipush 31, 2) := by decide +kernel
theorem dX10_dot_14 : decode cX10_dot 14 = .ok (.invokestatic 42, 3) := by decide +kernel
theorem dX10_dot_17 : decode cX10_dot 17 = .ok (.ifCond .eq 12, 3) := by decide +kernel
theorem dX10_dot_20 : decode cX10_dot 20 = .ok (.iload_n 3, 1) := by decide +kernel
theorem dX10_dot_21 : decode cX10_dot 21 = .ok (.iconst 0, 1) := by decide +kernel
theorem dX10_dot_22 : decode cX10_dot 22 = .ok (.iconst 2, 1) := by decide +kernel
theorem dX10_dot_23 : decode cX10_dot 23 = .ok (.invokestatic 42, 3) := by decide +kernel
theorem dX10_dot_26 : decode cX10_dot 26 = .ok (.ifCond .ne 6, 3) := by decide +kernel
theorem dX10_dot_29 : decode cX10_dot 29 = .ok (.ldc 112, 2) := by decide +kernel
theorem dX10_dot_31 : decode cX10_dot 31 = .ok (.ireturn, 1) := by decide +kernel
theorem dX10_dot_32 : decode cX10_dot 32 = .ok (.iload_n 3, 1) := by decide +kernel
theorem dX10_dot_33 : decode cX10_dot 33 = .ok (.iconst 1, 1) := by decide +kernel
theorem dX10_dot_34 : decode cX10_dot 34 = .ok (.if_icmp .ne 17, 3) := by decide +kernel
theorem dX10_dot_37 : decode cX10_dot 37 = .ok (.aload_n 0, 1) := by decide +kernel
theorem dX10_dot_38 : decode cX10_dot 38 = .ok (.aload_n 0, 1) := by decide +kernel
theorem dX10_dot_39 : decode cX10_dot 39 = .ok (.iload_n 1, 1) := by decide +kernel
theorem dX10_dot_40 : decode cX10_dot 40 = .ok (.invokevirtual 78, 3) := by decide +kernel
theorem dX10_dot_43 : decode cX10_dot 43 = .ok (.iload_n 1, 1) := by decide +kernel
theorem dX10_dot_44 : decode cX10_dot 44 = .ok (.iload_n 2, 1) := by decide +kernel
theorem dX10_dot_45 : decode cX10_dot 45 = .ok (.invokevirtual 74, 3) := by decide +kernel
theorem dX10_dot_48 : decode cX10_dot 48 = .ok (.goto 26, 3) := by decide +kernel
theorem dX10_dot_51 : decode cX10_dot 51 = .ok (.aload_n 0, 1) := by decide +kernel
theorem dX10_dot_52 : decode cX10_dot 52 = .ok (.iload_n 3, 1) := by decide +kernel
theorem dX10_dot_53 : decode cX10_dot 53 = .ok (.ifCond .ne 11, 3) := by decide +kernel
theorem dX10_dot_56 : decode cX10_dot 56 = .ok (.aload_n 0, 1) := by decide +kernel
theorem dX10_dot_57 : decode cX10_dot 57 = .ok (.iload_n 1, 1) := by decide +kernel
theorem dX10_dot_58 : decode cX10_dot 58 = .ok (.invokevirtual 78, 3) := by decide +kernel
theorem dX10_dot_61 : decode cX10_dot 61 = .ok (.goto 8, 3) := by decide +kernel
theorem dX10_dot_64 : decode cX10_dot 64 = .ok (.aload_n 0, 1) := by decide +kernel
theorem dX10_dot_65 : decode cX10_dot 65 = .ok (.iload_n 1, 1) := by decide +kernel
theorem dX10_dot_66 : decode cX10_dot 66 = .ok (.invokevirtual 61, 3) := by decide +kernel
theorem dX10_dot_69 : decode cX10_dot 69 = .ok (.iload_n 1, 1) := by decide +kernel
theorem dX10_dot_70 : decode cX10_dot 70 = .ok (.iload_n 2, 1) := by decide +kernel
theorem dX10_dot_71 : decode cX10_dot 71 = .ok (.invokevirtual 84, 3) := by decide +kernel
theorem dX10_dot_74 : decode cX10_dot 74 = .ok (.ireturn, 1) := by decide +kernel
set_option maxRecDepth 20000 in
theorem ggX10_line_X10_in : GoodIn wsX10_line wsX10_in := goodIn_r _ [6] (by decide +kernel) (by decide +kernel)
set_option maxRecDepth 20000 in
theorem gX10_line_X10_in : GoodIn wsX10_line (va_wsS RX10 42 yX10_in wsX10_in) := goodIn_app (goodIn_of _ (by decide +kernel)) ggX10_line_X10_in
set_option maxRecDepth 20000 in
theorem ggX10_line_X10_drawnOn : GoodIn wsX10_line wsX10_drawnOn := goodIn_r _ [10, 11, 12, 13, 14, 5, 15, 16, 17, 18, 19, 20, 21, 22, 23, 24, 25, 26, 27, 3, 4, 6, 28, 29, 30, 31, 32, 33, 34, 47, 48, 49, 50, 51, 52, 53, 54, 55, 56, 57, 58, 59] (by decide +kernel) (by decide +kernel)
set_option maxRecDepth 20000 in
theorem gX10_line_X10_drawnOn : GoodIn wsX10_line (wsV RX10 78 RX10 yX10_drawnOn wsX10_drawnOn) := goodIn_app (goodIn_of _ (by decide +kernel)) ggX10_line_X10_drawnOn
set_option maxRecDepth 20000 in
theorem ggX10_line_X10_colourAt : GoodIn wsX10_line wsX10_colourAt := goodIn_r _ [38, 39, 40, 41, 5, 42, 11, 28, 29, 30, 43, 44, 45, 46, 24, 25, 26, 27, 3, 4, 6, 47, 48, 49, 50, 51, 52, 53, 54, 55, 56, 57, 58, 59] (by decide +kernel) (by decide +kernel)
set_option maxRecDepth 20000 in
theorem gX10_line_X10_colourAt : GoodIn wsX10_line (wsV RX10 84 RX10 yX10_colourAt wsX10_colourAt) := goodIn_app (goodIn_of _ (by decide +kernel)) ggX10_line_X10_colourAt
theorem dX10_line_0 : decode cX10_line 0 = .ok (.iload_n 1, 1) := by decide +kernel
theorem dX10_line_1 : decode cX10_line 1 = .ok (.iconst 0, 1) := by decide +kernel
theorem dX10_line_2 : decode cX10_line 2 = .ok (.bipush 23, 2) := by decide +kernel
theorem dX10_line_4 : decode cX10_line 4 = .ok (.invokestatic 42, 3) := by decide +kernel
theorem dX10_line_7 : decode cX10_line 7 = .ok (.ifCond .eq 12, 3) := by decide +kernel
theorem dX10_line_10 : decode cX10_line 10 = .ok (.iload_n 2, 1) := by decide +kernel
theorem dX10_line_11 : decode cX10_line 11 = .ok (.iconst 0, 1) := by decide +kernel
theorem dX10_line_12 : decode cX10_line 12 = .ok (.iconst 3, 1) := by decide +kernel
theorem dX10_line_13 : decode cX10_line 13 = .ok (.invokestatic 42, 3) := by decide +kernel
theorem dX10_line_16 : decode cX10_line 16 = .ok (.ifCond .ne 7, 3) := by decide +kernel
theorem dX10_line_19 : decode cX10_line 19 = .ok (.ldc2_w 128, 3) := by decide +kernel
theorem dX10_line_22 : decode cX10_line 22 = .ok (.lreturn, 1) := by decide +kernel
theorem dX10_line_23 : decode cX10_line 23 = .ok (.aload_n 0, 1) := by decide +kernel
theorem dX10_line_24 : decode cX10_line 24 = .ok (.iload_n 1, 1) := by decide +kernel
theorem dX10_line_25 : decode cX10_line 25 = .ok (.invokevirtual 78, 3) := by decide +kernel
theorem dX10_line_28 : decode cX10_line 28 = .ok (.istore_n 3, 1) := by decide +kernel
theorem dX10_line_29 : decode cX10_line 29 = .ok (.lconst 0, 1) := by decide +kernel
theorem dX10_line_30 : decode cX10_line 30 = .ok (.lstore 4, 2) := by decide +kernel
theorem dX10_line_32 : decode cX10_line 32 = .ok (.bipush 8, 2) := by decide +kernel
theorem dX10_line_34 : decode cX10_line 34 = .ok (.iload_n 2, 1) := by decide +kernel
theorem dX10_line_35 : decode cX10_line 35 = .ok (.imul, 1) := by decide +kernel
theorem dX10_line_36 : decode cX10_line 36 = .ok (.istore 6, 2) := by decide +kernel
theorem dX10_line_38 : decode cX10_line 38 = .ok (.iload 6, 2) := by decide +kernel
theorem dX10_line_40 : decode cX10_line 40 = .ok (.bipush 8, 2) := by decide +kernel
theorem dX10_line_42 : decode cX10_line 42 = .ok (.iload_n 2, 1) := by decide +kernel
theorem dX10_line_43 : decode cX10_line 43 = .ok (.imul, 1) := by decide +kernel
theorem dX10_line_44 : decode cX10_line 44 = .ok (.bipush 8, 2) := by decide +kernel
theorem dX10_line_46 : decode cX10_line 46 = .ok (.iadd, 1) := by decide +kernel
theorem dX10_line_47 : decode cX10_line 47 = .ok (.if_icmp .ge 27, 3) := by decide +kernel
theorem dX10_line_50 : decode cX10_line 50 = .ok (.ldc2_w 130, 3) := by decide +kernel
theorem dX10_line_53 : decode cX10_line 53 = .ok (.lload 4, 2) := by decide +kernel
theorem dX10_line_55 : decode cX10_line 55 = .ok (.lmul, 1) := by decide +kernel
theorem dX10_line_56 : decode cX10_line 56 = .ok (.aload_n 0, 1) := by decide +kernel
theorem dX10_line_57 : decode cX10_line 57 = .ok (.iload_n 3, 1) := by decide +kernel
theorem dX10_line_58 : decode cX10_line 58 = .ok (.iload_n 1, 1) := by decide +kernel
theorem dX10_line_59 : decode cX10_line 59 = .ok (.iload 6, 2) := by decide +kernel
theorem dX10_line_61 : decode cX10_line 61 = .ok (.invokevirtual 84, 3) := by decide +kernel
theorem dX10_line_64 : decode cX10_line 64 = .ok (.i2l, 1) := by decide +kernel
theorem dX10_line_65 : decode cX10_line 65 = .ok (.ladd, 1) := by decide +kernel
theorem dX10_line_66 : decode cX10_line 66 = .ok (.lstore 4, 2) := by decide +kernel
theorem dX10_line_68 : decode cX10_line 68 = .ok (.iinc 6 1, 3) := by decide +kernel
theorem dX10_line_71 : decode cX10_line 71 = .ok (.goto (-33), 3) := by decide +kernel
theorem dX10_line_74 : decode cX10_line 74 = .ok (.lload 4, 2) := by decide +kernel
theorem dX10_line_76 : decode cX10_line 76 = .ok (.lreturn, 1) := by decide +kernel
set_option maxRecDepth 20000 in
theorem ggX10_drawn_X10_in : GoodIn wsX10_drawn wsX10_in := goodIn_r _ [5] (by decide +kernel) (by decide +kernel)
set_option maxRecDepth 20000 in
theorem gX10_drawn_X10_in : GoodIn wsX10_drawn (va_wsS RX10 42 yX10_in wsX10_in) := goodIn_app (goodIn_of _ (by decide +kernel)) ggX10_drawn_X10_in
set_option maxRecDepth 20000 in
theorem ggX10_drawn_X10_drawnOn : GoodIn wsX10_drawn wsX10_drawnOn := goodIn_r _ [9, 10, 11, 12, 13, 4, 14, 15, 16, 17, 18, 19, 20, 21, 22, 23, 24, 25, 26, 2, 3, 5, 27, 28, 29, 30, 31, 32, 33, 34, 35, 36, 37, 38, 39, 40, 41, 42, 43, 44, 45, 46] (by decide +kernel) (by decide +kernel)
set_option maxRecDepth 20000 in
theorem gX10_drawn_X10_drawnOn : GoodIn wsX10_drawn (wsV RX10 78 RX10 yX10_drawnOn wsX10_drawnOn) := goodIn_app (goodIn_of _ (by decide +kernel)) ggX10_drawn_X10_drawnOn
set_option maxRecDepth 20000 in
theorem ggX10_drawn_X10_onLine : GoodIn wsX10_drawn wsX10_onLine := goodIn_r _ [18, 10, 19, 20, 21, 4, 22, 23, 24, 25, 26, 2, 3, 5, 34, 35, 36, 37, 38, 39, 40, 41, 42, 43, 44, 45, 46] (by decide +kernel) (by decide +kernel)
set_option maxRecDepth 20000 in
theorem gX10_drawn_X10_onLine : GoodIn wsX10_drawn (wsV RX10 61 RX10 yX10_onLine wsX10_onLine) := goodIn_app (goodIn_of _ (by decide +kernel)) ggX10_drawn_X10_onLine
theorem dX10_drawn_0 : decode cX10_drawn 0 = .ok (.iload_n 1, 1) := by decide +kernel
theorem dX10_drawn_1 : decode cX10_drawn 1 = .ok (.iconst 0, 1) := by decide +kernel
theorem dX10_drawn_2 : decode cX10_drawn 2 = .ok (.bipush 23, 2) := by decide +kernel
theorem dX10_drawn_4 : decode cX10_drawn 4 = .ok (.invokestatic 42, 3) := by decide +kernel
theorem dX10_drawn_7 : decode cX10_drawn 7 = .ok (.ifCond .eq 12, 3) := by decide +kernel
theorem dX10_drawn_10 : decode cX10_drawn 10 = .ok (.iload_n 2, 1) := by decide +kernel
theorem dX10_drawn_11 : decode cX10_drawn 11 = .ok (.iconst 0, 1) := by decide +kernel
theorem dX10_drawn_12 : decode cX10_drawn 12 = .ok (.iconst 1, 1) := by decide +kernel
theorem dX10_drawn_13 : decode cX10_drawn 13 = .ok (.invokestatic 42, 3) := by decide +kernel
theorem dX10_drawn_16 : decode cX10_drawn 16 = .ok (.ifCond .ne 6, 3) := by decide +kernel
theorem dX10_drawn_19 : decode cX10_drawn 19 = .ok (.ldc 112, 2) := by decide +kernel
theorem dX10_drawn_21 : decode cX10_drawn 21 = .ok (.ireturn, 1) := by decide +kernel
theorem dX10_drawn_22 : decode cX10_drawn 22 = .ok (.iload_n 2, 1) := by decide +kernel
theorem dX10_drawn_23 : decode cX10_drawn 23 = .ok (.ifCond .ne 11, 3) := by decide +kernel
theorem dX10_drawn_26 : decode cX10_drawn 26 = .ok (.aload_n 0, 1) := by decide +kernel
theorem dX10_drawn_27 : decode cX10_drawn 27 = .ok (.iload_n 1, 1) := by decide +kernel
theorem dX10_drawn_28 : decode cX10_drawn 28 = .ok (.invokevirtual 78, 3) := by decide +kernel
theorem dX10_drawn_31 : decode cX10_drawn 31 = .ok (.goto 16, 3) := by decide +kernel
theorem dX10_drawn_34 : decode cX10_drawn 34 = .ok (.aload_n 0, 1) := by decide +kernel
theorem dX10_drawn_35 : decode cX10_drawn 35 = .ok (.iload_n 1, 1) := by decide +kernel
theorem dX10_drawn_36 : decode cX10_drawn 36 = .ok (.invokevirtual 61, 3) := by decide +kernel
theorem dX10_drawn_39 : decode cX10_drawn 39 = .ok (.aload_n 0, 1) := by decide +kernel
theorem dX10_drawn_40 : decode cX10_drawn 40 = .ok (.iload_n 1, 1) := by decide +kernel
theorem dX10_drawn_41 : decode cX10_drawn 41 = .ok (.invokevirtual 78, 3) := by decide +kernel
theorem dX10_drawn_44 : decode cX10_drawn 44 = .ok (.iconst (-1), 1) := by decide +kernel
theorem dX10_drawn_45 : decode cX10_drawn 45 = .ok (.ixor, 1) := by decide +kernel
theorem dX10_drawn_46 : decode cX10_drawn 46 = .ok (.iand, 1) := by decide +kernel
theorem dX10_drawn_47 : decode cX10_drawn 47 = .ok (.ireturn, 1) := by decide +kernel
set_option maxRecDepth 20000 in
theorem ggX10_pictureRow_X10_in : GoodIn wsX10_pictureRow wsX10_in := goodIn_r _ [7] (by decide +kernel) (by decide +kernel)
set_option maxRecDepth 20000 in
theorem gX10_pictureRow_X10_in : GoodIn wsX10_pictureRow (va_wsS RX10 42 yX10_in wsX10_in) := goodIn_app (goodIn_of _ (by decide +kernel)) ggX10_pictureRow_X10_in
theorem dX10_pictureRow_0 : decode cX10_pictureRow 0 = .ok (.iload_n 1, 1) := by decide +kernel
theorem dX10_pictureRow_1 : decode cX10_pictureRow 1 = .ok (.iconst 0, 1) := by decide +kernel
theorem dX10_pictureRow_2 : decode cX10_pictureRow 2 = .ok (.iconst 3, 1) := by decide +kernel
theorem dX10_pictureRow_3 : decode cX10_pictureRow 3 = .ok (.invokestatic 42, 3) := by decide +kernel
theorem dX10_pictureRow_6 : decode cX10_pictureRow 6 = .ok (.ifCond .ne 8, 3) := by decide +kernel
theorem dX10_pictureRow_9 : decode cX10_pictureRow 9 = .ok (.ldc 117, 2) := by decide +kernel
theorem dX10_pictureRow_11 : decode cX10_pictureRow 11 = .ok (.goto 31, 3) := by decide +kernel
theorem dX10_pictureRow_14 : decode cX10_pictureRow 14 = .ok (.iload_n 2, 1) := by decide +kernel
theorem dX10_pictureRow_15 : decode cX10_pictureRow 15 = .ok (.iconst 0, 1) := by decide +kernel
theorem dX10_pictureRow_16 : decode cX10_pictureRow 16 = .ok (.bipush 7, 2) := by decide +kernel
theorem dX10_pictureRow_18 : decode cX10_pictureRow 18 = .ok (.invokestatic 42, 3) := by decide +kernel
theorem dX10_pictureRow_21 : decode cX10_pictureRow 21 = .ok (.ifCond .eq 19, 3) := by decide +kernel
theorem dX10_pictureRow_24 : decode cX10_pictureRow 24 = .ok (.aload_n 0, 1) := by decide +kernel
theorem dX10_pictureRow_25 : decode cX10_pictureRow 25 = .ok (.getfield 7, 3) := by decide +kernel
theorem dX10_pictureRow_28 : decode cX10_pictureRow 28 = .ok (.iconst 4, 1) := by decide +kernel
theorem dX10_pictureRow_29 : decode cX10_pictureRow 29 = .ok (.bipush 8, 2) := by decide +kernel
theorem dX10_pictureRow_31 : decode cX10_pictureRow 31 = .ok (.iload_n 1, 1) := by decide +kernel
theorem dX10_pictureRow_32 : decode cX10_pictureRow 32 = .ok (.imul, 1) := by decide +kernel
theorem dX10_pictureRow_33 : decode cX10_pictureRow 33 = .ok (.iadd, 1) := by decide +kernel
theorem dX10_pictureRow_34 : decode cX10_pictureRow 34 = .ok (.iload_n 2, 1) := by decide +kernel
theorem dX10_pictureRow_35 : decode cX10_pictureRow 35 = .ok (.iadd, 1) := by decide +kernel
theorem dX10_pictureRow_36 : decode cX10_pictureRow 36 = .ok (.iaload, 1) := by decide +kernel
theorem dX10_pictureRow_37 : decode cX10_pictureRow 37 = .ok (.goto 5, 3) := by decide +kernel
theorem dX10_pictureRow_40 : decode cX10_pictureRow 40 = .ok (.ldc 112, 2) := by decide +kernel
theorem dX10_pictureRow_42 : decode cX10_pictureRow 42 = .ok (.ireturn, 1) := by decide +kernel
set_option maxRecDepth 20000 in
theorem ggX10_row_X10_in : GoodIn wsX10_row wsX10_in := goodIn_r _ [7] (by decide +kernel) (by decide +kernel)
set_option maxRecDepth 20000 in
theorem gX10_row_X10_in : GoodIn wsX10_row (va_wsS RX10 42 yX10_in wsX10_in) := goodIn_app (goodIn_of _ (by decide +kernel)) ggX10_row_X10_in
set_option maxRecDepth 20000 in
theorem ggX10_row_X10_notes : GoodIn wsX10_row wsX10_notes := goodIn_r _ [11, 12, 13, 3, 14, 15, 16, 17, 18, 19, 20, 21, 22, 23, 24, 25, 26] (by decide +kernel) (by decide +kernel)
set_option maxRecDepth 20000 in
theorem gX10_row_X10_notes : GoodIn wsX10_row (wsV RX10 132 RX10 yX10_notes wsX10_notes) := goodIn_app (goodIn_of _ (by decide +kernel)) ggX10_row_X10_notes
theorem dX10_row_0 : decode cX10_row 0 = .ok (.iload_n 1, 1) := by decide +kernel
theorem dX10_row_1 : decode cX10_row 1 = .ok (.iconst 0, 1) := by decide +kernel
theorem dX10_row_2 : decode cX10_row 2 = .ok (.iconst 3, 1) := by decide +kernel
theorem dX10_row_3 : decode cX10_row 3 = .ok (.invokestatic 42, 3) := by decide +kernel
theorem dX10_row_6 : decode cX10_row 6 = .ok (.ifCond .ne 6, 3) := by decide +kernel
theorem dX10_row_9 : decode cX10_row 9 = .ok (.ldc 117, 2) := by decide +kernel
theorem dX10_row_11 : decode cX10_row 11 = .ok (.ireturn, 1) := by decide +kernel
theorem dX10_row_12 : decode cX10_row 12 = .ok (.iload_n 2, 1) := by decide +kernel
theorem dX10_row_13 : decode cX10_row 13 = .ok (.iconst 0, 1) := by decide +kernel
theorem dX10_row_14 : decode cX10_row 14 = .ok (.bipush 7, 2) := by decide +kernel
theorem dX10_row_16 : decode cX10_row 16 = .ok (.invokestatic 42, 3) := by decide +kernel
theorem dX10_row_19 : decode cX10_row 19 = .ok (.ifCond .eq 14, 3) := by decide +kernel
theorem dX10_row_22 : decode cX10_row 22 = .ok (.iload_n 3, 1) := by decide +kernel
theorem dX10_row_23 : decode cX10_row 23 = .ok (.iconst 0, 1) := by decide +kernel
theorem dX10_row_24 : decode cX10_row 24 = .ok (.sipush 255, 3) := by decide +kernel
theorem dX10_row_27 : decode cX10_row 27 = .ok (.invokestatic 42, 3) := by decide +kernel
theorem dX10_row_30 : decode cX10_row 30 = .ok (.ifCond .ne 6, 3) := by decide +kernel
theorem dX10_row_33 : decode cX10_row 33 = .ok (.ldc 112, 2) := by decide +kernel
theorem dX10_row_35 : decode cX10_row 35 = .ok (.ireturn, 1) := by decide +kernel
theorem dX10_row_36 : decode cX10_row 36 = .ok (.aload_n 0, 1) := by decide +kernel
theorem dX10_row_37 : decode cX10_row 37 = .ok (.invokevirtual 132, 3) := by decide +kernel
theorem dX10_row_40 : decode cX10_row 40 = .ok (.aload_n 0, 1) := by decide +kernel
theorem dX10_row_41 : decode cX10_row 41 = .ok (.getfield 7, 3) := by decide +kernel
theorem dX10_row_44 : decode cX10_row 44 = .ok (.iconst 4, 1) := by decide +kernel
theorem dX10_row_45 : decode cX10_row 45 = .ok (.bipush 8, 2) := by decide +kernel
theorem dX10_row_47 : decode cX10_row 47 = .ok (.iload_n 1, 1) := by decide +kernel
theorem dX10_row_48 : decode cX10_row 48 = .ok (.imul, 1) := by decide +kernel
theorem dX10_row_49 : decode cX10_row 49 = .ok (.iadd, 1) := by decide +kernel
theorem dX10_row_50 : decode cX10_row 50 = .ok (.iload_n 2, 1) := by decide +kernel
theorem dX10_row_51 : decode cX10_row 51 = .ok (.iadd, 1) := by decide +kernel
theorem dX10_row_52 : decode cX10_row 52 = .ok (.iaload, 1) := by decide +kernel
theorem dX10_row_53 : decode cX10_row 53 = .ok (.istore 4, 2) := by decide +kernel
theorem dX10_row_55 : decode cX10_row 55 = .ok (.aload_n 0, 1) := by decide +kernel
theorem dX10_row_56 : decode cX10_row 56 = .ok (.getfield 7, 3) := by decide +kernel
theorem dX10_row_59 : decode cX10_row 59 = .ok (.iconst 4, 1) := by decide +kernel
theorem dX10_row_60 : decode cX10_row 60 = .ok (.bipush 8, 2) := by decide +kernel
theorem dX10_row_62 : decode cX10_row 62 = .ok (.iload_n 1, 1) := by decide +kernel
theorem dX10_row_63 : decode cX10_row 63 = .ok (.imul, 1) := by decide +kernel
theorem dX10_row_64 : decode cX10_row 64 = .ok (.iadd, 1) := by decide +kernel
theorem dX10_row_65 : decode cX10_row 65 = .ok (.iload_n 2, 1) := by decide +kernel
theorem dX10_row_66 : decode cX10_row 66 = .ok (.iadd, 1) := by decide +kernel
theorem dX10_row_67 : decode cX10_row 67 = .ok (.iload_n 3, 1) := by decide +kernel
theorem dX10_row_68 : decode cX10_row 68 = .ok (.iastore, 1) := by decide +kernel
theorem dX10_row_69 : decode cX10_row 69 = .ok (.iload 4, 2) := by decide +kernel
theorem dX10_row_71 : decode cX10_row 71 = .ok (.ireturn, 1) := by decide +kernel
theorem dX10_puts_0 : decode cX10_puts 0 = .ok (.bipush 36, 2) := by decide +kernel
theorem dX10_puts_2 : decode cX10_puts 2 = .ok (.bipush 8, 2) := by decide +kernel
theorem dX10_puts_4 : decode cX10_puts 4 = .ok (.aload_n 0, 1) := by decide +kernel
theorem dX10_puts_5 : decode cX10_puts 5 = .ok (.getfield 7, 3) := by decide +kernel
theorem dX10_puts_8 : decode cX10_puts 8 = .ok (.iconst 0, 1) := by decide +kernel
theorem dX10_puts_9 : decode cX10_puts 9 = .ok (.iaload, 1) := by decide +kernel
theorem dX10_puts_10 : decode cX10_puts 10 = .ok (.imul, 1) := by decide +kernel
theorem dX10_puts_11 : decode cX10_puts 11 = .ok (.iadd, 1) := by decide +kernel
theorem dX10_puts_12 : decode cX10_puts 12 = .ok (.istore 7, 2) := by decide +kernel
theorem dX10_puts_14 : decode cX10_puts 14 = .ok (.aload_n 0, 1) := by decide +kernel
theorem dX10_puts_15 : decode cX10_puts 15 = .ok (.getfield 7, 3) := by decide +kernel
theorem dX10_puts_18 : decode cX10_puts 18 = .ok (.iload 7, 2) := by decide +kernel
theorem dX10_puts_20 : decode cX10_puts 20 = .ok (.iconst 0, 1) := by decide +kernel
theorem dX10_puts_21 : decode cX10_puts 21 = .ok (.iadd, 1) := by decide +kernel
theorem dX10_puts_22 : decode cX10_puts 22 = .ok (.iload_n 1, 1) := by decide +kernel
theorem dX10_puts_23 : decode cX10_puts 23 = .ok (.iastore, 1) := by decide +kernel
theorem dX10_puts_24 : decode cX10_puts 24 = .ok (.aload_n 0, 1) := by decide +kernel
theorem dX10_puts_25 : decode cX10_puts 25 = .ok (.getfield 7, 3) := by decide +kernel
theorem dX10_puts_28 : decode cX10_puts 28 = .ok (.iload 7, 2) := by decide +kernel
theorem dX10_puts_30 : decode cX10_puts 30 = .ok (.iconst 1, 1) := by decide +kernel
theorem dX10_puts_31 : decode cX10_puts 31 = .ok (.iadd, 1) := by decide +kernel
theorem dX10_puts_32 : decode cX10_puts 32 = .ok (.iload_n 2, 1) := by decide +kernel
theorem dX10_puts_33 : decode cX10_puts 33 = .ok (.iastore, 1) := by decide +kernel
theorem dX10_puts_34 : decode cX10_puts 34 = .ok (.aload_n 0, 1) := by decide +kernel
theorem dX10_puts_35 : decode cX10_puts 35 = .ok (.getfield 7, 3) := by decide +kernel
theorem dX10_puts_38 : decode cX10_puts 38 = .ok (.iload 7, 2) := by decide +kernel
theorem dX10_puts_40 : decode cX10_puts 40 = .ok (.iconst 2, 1) := by decide +kernel
theorem dX10_puts_41 : decode cX10_puts 41 = .ok (.iadd, 1) := by decide +kernel
theorem dX10_puts_42 : decode cX10_puts 42 = .ok (.iload_n 3, 1) := by decide +kernel
theorem dX10_puts_43 : decode cX10_puts 43 = .ok (.iastore, 1) := by decide +kernel
theorem dX10_puts_44 : decode cX10_puts 44 = .ok (.aload_n 0, 1) := by decide +kernel
theorem dX10_puts_45 : decode cX10_puts 45 = .ok (.getfield 7, 3) := by decide +kernel
theorem dX10_puts_48 : decode cX10_puts 48 = .ok (.iload 7, 2) := by decide +kernel
theorem dX10_puts_50 : decode cX10_puts 50 = .ok (.iconst 3, 1) := by decide +kernel
theorem dX10_puts_51 : decode cX10_puts 51 = .ok (.iadd, 1) := by decide +kernel
theorem dX10_puts_52 : decode cX10_puts 52 = .ok (.iload 4, 2) := by decide +kernel
theorem dX10_puts_54 : decode cX10_puts 54 = .ok (.iastore, 1) := by decide +kernel
theorem dX10_puts_55 : decode cX10_puts 55 = .ok (.aload_n 0, 1) := by decide +kernel
theorem dX10_puts_56 : decode cX10_puts 56 = .ok (.getfield 7, 3) := by decide +kernel
theorem dX10_puts_59 : decode cX10_puts 59 = .ok (.iload 7, 2) := by decide +kernel
theorem dX10_puts_61 : decode cX10_puts 61 = .ok (.iconst 4, 1) := by decide +kernel
theorem dX10_puts_62 : decode cX10_puts 62 = .ok (.iadd, 1) := by decide +kernel
theorem dX10_puts_63 : decode cX10_puts 63 = .ok (.iload 5, 2) := by decide +kernel
theorem dX10_puts_65 : decode cX10_puts 65 = .ok (.iastore, 1) := by decide +kernel
theorem dX10_puts_66 : decode cX10_puts 66 = .ok (.aload_n 0, 1) := by decide +kernel
theorem dX10_puts_67 : decode cX10_puts 67 = .ok (.getfield 7, 3) := by decide +kernel
theorem dX10_puts_70 : decode cX10_puts 70 = .ok (.iload 7, 2) := by decide +kernel
theorem dX10_puts_72 : decode cX10_puts 72 = .ok (.iconst 5, 1) := by decide +kernel
theorem dX10_puts_73 : decode cX10_puts 73 = .ok (.iadd, 1) := by decide +kernel
theorem dX10_puts_74 : decode cX10_puts 74 = .ok (.iload 6, 2) := by decide +kernel
theorem dX10_puts_76 : decode cX10_puts 76 = .ok (.iastore, 1) := by decide +kernel
theorem dX10_puts_77 : decode cX10_puts 77 = .ok (.aload_n 0, 1) := by decide +kernel
theorem dX10_puts_78 : decode cX10_puts 78 = .ok (.getfield 7, 3) := by decide +kernel
theorem dX10_puts_81 : decode cX10_puts 81 = .ok (.iload 7, 2) := by decide +kernel
theorem dX10_puts_83 : decode cX10_puts 83 = .ok (.bipush 6, 2) := by decide +kernel
theorem dX10_puts_85 : decode cX10_puts 85 = .ok (.iadd, 1) := by decide +kernel
theorem dX10_puts_86 : decode cX10_puts 86 = .ok (.iconst 0, 1) := by decide +kernel
theorem dX10_puts_87 : decode cX10_puts 87 = .ok (.iastore, 1) := by decide +kernel
theorem dX10_puts_88 : decode cX10_puts 88 = .ok (.aload_n 0, 1) := by decide +kernel
theorem dX10_puts_89 : decode cX10_puts 89 = .ok (.getfield 7, 3) := by decide +kernel
theorem dX10_puts_92 : decode cX10_puts 92 = .ok (.iload 7, 2) := by decide +kernel
theorem dX10_puts_94 : decode cX10_puts 94 = .ok (.bipush 7, 2) := by decide +kernel
theorem dX10_puts_96 : decode cX10_puts 96 = .ok (.iadd, 1) := by decide +kernel
theorem dX10_puts_97 : decode cX10_puts 97 = .ok (.iconst 0, 1) := by decide +kernel
theorem dX10_puts_98 : decode cX10_puts 98 = .ok (.iastore, 1) := by decide +kernel
theorem dX10_puts_99 : decode cX10_puts 99 = .ok (.aload_n 0, 1) := by decide +kernel
theorem dX10_puts_100 : decode cX10_puts 100 = .ok (.getfield 7, 3) := by decide +kernel
theorem dX10_puts_103 : decode cX10_puts 103 = .ok (.iconst 0, 1) := by decide +kernel
theorem dX10_puts_104 : decode cX10_puts 104 = .ok (.dup2, 1) := by decide +kernel
theorem dX10_puts_105 : decode cX10_puts 105 = .ok (.iaload, 1) := by decide +kernel
theorem dX10_puts_106 : decode cX10_puts 106 = .ok (.iconst 1, 1) := by decide +kernel
theorem dX10_puts_107 : decode cX10_puts 107 = .ok (.iadd, 1) := by decide +kernel
theorem dX10_puts_108 : decode cX10_puts 108 = .ok (.iastore, 1) := by decide +kernel
theorem dX10_puts_109 : decode cX10_puts 109 = .ok (.return_, 1) := by decide +kernel
set_option maxRecDepth 20000 in
theorem ggX10_isPlace_X10_in : GoodIn wsX10_isPlace wsX10_in := goodIn_r _ [4] (by decide +kernel) (by decide +kernel)
set_option maxRecDepth 20000 in
theorem gX10_isPlace_X10_in : GoodIn wsX10_isPlace (va_wsS RX10 42 yX10_in wsX10_in) := goodIn_app (goodIn_of _ (by decide +kernel)) ggX10_isPlace_X10_in
theorem dX10_isPlace_0 : decode cX10_isPlace 0 = .ok (.iload_n 0, 1) := by decide +kernel
theorem dX10_isPlace_1 : decode cX10_isPlace 1 = .ok (.bipush (-8), 2) := by decide +kernel
theorem dX10_isPlace_3 : decode cX10_isPlace 3 = .ok (.bipush 31, 2) := by decide +kernel
theorem dX10_isPlace_5 : decode cX10_isPlace 5 = .ok (.invokestatic 42, 3) := by decide +kernel
theorem dX10_isPlace_8 : decode cX10_isPlace 8 = .ok (.ifCond .eq 18, 3) := by decide +kernel
theorem dX10_isPlace_11 : decode cX10_isPlace 11 = .ok (.iload_n 1, 1) := by decide +kernel
theorem dX10_isPlace_12 : decode cX10_isPlace 12 = .ok (.bipush (-8), 2) := by decide +kernel
theorem dX10_isPlace_14 : decode cX10_isPlace 14 = .ok (.bipush 23, 2) := by decide +kernel
theorem dX10_isPlace_16 : decode cX10_isPlace 16 = .ok (.invokestatic 42, 3) := by decide +kernel
theorem dX10_isPlace_19 : decode cX10_isPlace 19 = .ok (.ifCond .eq 7, 3) := by decide +kernel
theorem dX10_isPlace_22 : decode cX10_isPlace 22 = .ok (.iconst 1, 1) := by decide +kernel
theorem dX10_isPlace_23 : decode cX10_isPlace 23 = .ok (.goto 4, 3) := by decide +kernel
theorem dX10_isPlace_26 : decode cX10_isPlace 26 = .ok (.iconst 0, 1) := by decide +kernel
theorem dX10_isPlace_27 : decode cX10_isPlace 27 = .ok (.ireturn, 1) := by decide +kernel
set_option maxRecDepth 20000 in
theorem ggX10_put_X10_in : GoodIn wsX10_put wsX10_in := goodIn_r _ [8] (by decide +kernel) (by decide +kernel)
set_option maxRecDepth 20000 in
theorem gX10_put_X10_in : GoodIn wsX10_put (va_wsS RX10 42 yX10_in wsX10_in) := goodIn_app (goodIn_of _ (by decide +kernel)) ggX10_put_X10_in
set_option maxRecDepth 20000 in
theorem ggX10_put_X10_isPlace : GoodIn wsX10_put wsX10_isPlace := goodIn_r _ [11, 5, 6, 7, 8] (by decide +kernel) (by decide +kernel)
set_option maxRecDepth 20000 in
theorem gX10_put_X10_isPlace : GoodIn wsX10_put (va_wsS RX10 135 yX10_isPlace wsX10_isPlace) := goodIn_app (goodIn_of _ (by decide +kernel)) ggX10_put_X10_isPlace
set_option maxRecDepth 20000 in
theorem ggX10_put_X10_notes : GoodIn wsX10_put wsX10_notes := goodIn_r _ [15, 16, 17, 3, 22, 23, 24, 25, 26, 27, 28, 29, 30, 31, 32, 33, 34] (by decide +kernel) (by decide +kernel)
set_option maxRecDepth 20000 in
theorem gX10_put_X10_notes : GoodIn wsX10_put (wsV RX10 132 RX10 yX10_notes wsX10_notes) := goodIn_app (goodIn_of _ (by decide +kernel)) ggX10_put_X10_notes
set_option maxRecDepth 20000 in
theorem ggX10_put_X10_puts : GoodIn wsX10_put wsX10_puts := goodIn_r _ [21, 3, 22, 23, 24, 25, 26, 27, 28, 29, 30, 31, 32, 33, 34] (by decide +kernel) (by decide +kernel)
set_option maxRecDepth 20000 in
theorem gX10_put_X10_puts : GoodIn wsX10_put (wsV RX10 139 RX10 yX10_puts wsX10_puts) := goodIn_app (goodIn_of _ (by decide +kernel)) ggX10_put_X10_puts
theorem dX10_put_0 : decode cX10_put 0 = .ok (.iload_n 3, 1) := by decide +kernel
theorem dX10_put_1 : decode cX10_put 1 = .ok (.iconst 0, 1) := by decide +kernel
theorem dX10_put_2 : decode cX10_put 2 = .ok (.iconst 3, 1) := by decide +kernel
theorem dX10_put_3 : decode cX10_put 3 = .ok (.invokestatic 42, 3) := by decide +kernel
theorem dX10_put_6 : decode cX10_put 6 = .ok (.ifCond .ne 6, 3) := by decide +kernel
theorem dX10_put_9 : decode cX10_put 9 = .ok (.ldc 117, 2) := by decide +kernel
theorem dX10_put_11 : decode cX10_put 11 = .ok (.ireturn, 1) := by decide +kernel
theorem dX10_put_12 : decode cX10_put 12 = .ok (.iload_n 1, 1) := by decide +kernel
theorem dX10_put_13 : decode cX10_put 13 = .ok (.iload_n 2, 1) := by decide +kernel
theorem dX10_put_14 : decode cX10_put 14 = .ok (.invokestatic 135, 3) := by decide +kernel
theorem dX10_put_17 : decode cX10_put 17 = .ok (.ifCond .eq 34, 3) := by decide +kernel
theorem dX10_put_20 : decode cX10_put 20 = .ok (.iload 4, 2) := by decide +kernel
theorem dX10_put_22 : decode cX10_put 22 = .ok (.iconst 0, 1) := by decide +kernel
theorem dX10_put_23 : decode cX10_put 23 = .ok (.iconst 3, 1) := by decide +kernel
theorem dX10_put_24 : decode cX10_put 24 = .ok (.invokestatic 42, 3) := by decide +kernel
theorem dX10_put_27 : decode cX10_put 27 = .ok (.ifCond .eq 24, 3) := by decide +kernel
theorem dX10_put_30 : decode cX10_put 30 = .ok (.iload 5, 2) := by decide +kernel
theorem dX10_put_32 : decode cX10_put 32 = .ok (.iconst 0, 1) := by decide +kernel
theorem dX10_put_33 : decode cX10_put 33 = .ok (.iconst 3, 1) := by decide +kernel
theorem dX10_put_34 : decode cX10_put 34 = .ok (.invokestatic 42, 3) := by decide +kernel
theorem dX10_put_37 : decode cX10_put 37 = .ok (.ifCond .eq 14, 3) := by decide +kernel
theorem dX10_put_40 : decode cX10_put 40 = .ok (.iload 6, 2) := by decide +kernel
theorem dX10_put_42 : decode cX10_put 42 = .ok (.iconst 1, 1) := by decide +kernel
theorem dX10_put_43 : decode cX10_put 43 = .ok (.bipush 7, 2) := by decide +kernel
theorem dX10_put_45 : decode cX10_put 45 = .ok (.invokestatic 42, 3) := by decide +kernel
theorem dX10_put_48 : decode cX10_put 48 = .ok (.ifCond .ne 6, 3) := by decide +kernel
theorem dX10_put_51 : decode cX10_put 51 = .ok (.ldc 112, 2) := by decide +kernel
theorem dX10_put_53 : decode cX10_put 53 = .ok (.ireturn, 1) := by decide +kernel
theorem dX10_put_54 : decode cX10_put 54 = .ok (.aload_n 0, 1) := by decide +kernel
theorem dX10_put_55 : decode cX10_put 55 = .ok (.getfield 7, 3) := by decide +kernel
theorem dX10_put_58 : decode cX10_put 58 = .ok (.iconst 0, 1) := by decide +kernel
theorem dX10_put_59 : decode cX10_put 59 = .ok (.iaload, 1) := by decide +kernel
theorem dX10_put_60 : decode cX10_put 60 = .ok (.bipush 12, 2) := by decide +kernel
theorem dX10_put_62 : decode cX10_put 62 = .ok (.if_icmp .ne 6, 3) := by decide +kernel
theorem dX10_put_65 : decode cX10_put 65 = .ok (.ldc 138, 2) := by decide +kernel
theorem dX10_put_67 : decode cX10_put 67 = .ok (.ireturn, 1) := by decide +kernel
theorem dX10_put_68 : decode cX10_put 68 = .ok (.aload_n 0, 1) := by decide +kernel
theorem dX10_put_69 : decode cX10_put 69 = .ok (.invokevirtual 132, 3) := by decide +kernel
theorem dX10_put_72 : decode cX10_put 72 = .ok (.aload_n 0, 1) := by decide +kernel
theorem dX10_put_73 : decode cX10_put 73 = .ok (.iload_n 1, 1) := by decide +kernel
theorem dX10_put_74 : decode cX10_put 74 = .ok (.iload_n 2, 1) := by decide +kernel
theorem dX10_put_75 : decode cX10_put 75 = .ok (.iload_n 3, 1) := by decide +kernel
theorem dX10_put_76 : decode cX10_put 76 = .ok (.iload 4, 2) := by decide +kernel
theorem dX10_put_78 : decode cX10_put 78 = .ok (.iload 5, 2) := by decide +kernel
theorem dX10_put_80 : decode cX10_put 80 = .ok (.iload 6, 2) := by decide +kernel
theorem dX10_put_82 : decode cX10_put 82 = .ok (.invokevirtual 139, 3) := by decide +kernel
theorem dX10_put_85 : decode cX10_put 85 = .ok (.aload_n 0, 1) := by decide +kernel
theorem dX10_put_86 : decode cX10_put 86 = .ok (.getfield 7, 3) := by decide +kernel
theorem dX10_put_89 : decode cX10_put 89 = .ok (.iconst 0, 1) := by decide +kernel
theorem dX10_put_90 : decode cX10_put 90 = .ok (.iaload, 1) := by decide +kernel
theorem dX10_put_91 : decode cX10_put 91 = .ok (.iconst 1, 1) := by decide +kernel
theorem dX10_put_92 : decode cX10_put 92 = .ok (.isub, 1) := by decide +kernel
theorem dX10_put_93 : decode cX10_put 93 = .ok (.ireturn, 1) := by decide +kernel
set_option maxRecDepth 20000 in
theorem ggX10_move_X10_isThing : GoodIn wsX10_move wsX10_isThing := goodIn_r _ [8, 3, 9, 10, 7, 11, 29, 30, 31, 32, 33, 34, 35, 36, 37, 38, 39, 40, 41] (by decide +kernel) (by decide +kernel)
set_option maxRecDepth 20000 in
theorem gX10_move_X10_isThing : GoodIn wsX10_move (wsV RX10 113 RX10 yX10_isThing wsX10_isThing) := goodIn_app (goodIn_of _ (by decide +kernel)) ggX10_move_X10_isThing
set_option maxRecDepth 20000 in
theorem ggX10_move_X10_isPlace : GoodIn wsX10_move wsX10_isPlace := goodIn_r _ [14, 9, 10, 7, 11] (by decide +kernel) (by decide +kernel)
set_option maxRecDepth 20000 in
theorem gX10_move_X10_isPlace : GoodIn wsX10_move (va_wsS RX10 135 yX10_isPlace wsX10_isPlace) := goodIn_app (goodIn_of _ (by decide +kernel)) ggX10_move_X10_isPlace
set_option maxRecDepth 20000 in
theorem ggX10_move_X10_notes : GoodIn wsX10_move wsX10_notes := goodIn_r _ [18, 19, 20, 3, 29, 30, 31, 32, 33, 34, 35, 36, 37, 38, 39, 40, 41] (by decide +kernel) (by decide +kernel)
set_option maxRecDepth 20000 in
theorem gX10_move_X10_notes : GoodIn wsX10_move (wsV RX10 132 RX10 yX10_notes wsX10_notes) := goodIn_app (goodIn_of _ (by decide +kernel)) ggX10_move_X10_notes
set_option maxRecDepth 20000 in
theorem ggX10_move_X10_isOn : GoodIn wsX10_move wsX10_isOn := goodIn_r _ [24, 25, 26, 27, 7, 28, 3, 9, 10, 11, 29, 30, 31, 32, 33, 34, 35, 36, 37, 38, 39, 40, 41] (by decide +kernel) (by decide +kernel)
set_option maxRecDepth 20000 in
theorem gX10_move_X10_isOn : GoodIn wsX10_move (wsV RX10 58 RX10 yX10_isOn wsX10_isOn) := goodIn_app (goodIn_of _ (by decide +kernel)) ggX10_move_X10_isOn
theorem dX10_move_0 : decode cX10_move 0 = .ok (.aload_n 0, 1) := by decide +kernel
theorem dX10_move_1 : decode cX10_move 1 = .ok (.iload_n 1, 1) := by decide +kernel
theorem dX10_move_2 : decode cX10_move 2 = .ok (.invokevirtual 113, 3) := by decide +kernel
theorem dX10_move_5 : decode cX10_move 5 = .ok (.ifCond .ne 6, 3) := by decide +kernel
theorem dX10_move_8 : decode cX10_move 8 = .ok (.ldc 117, 2) := by decide +kernel
theorem dX10_move_10 : decode cX10_move 10 = .ok (.ireturn, 1) := by decide +kernel
theorem dX10_move_11 : decode cX10_move 11 = .ok (.iload_n 2, 1) := by decide +kernel
theorem dX10_move_12 : decode cX10_move 12 = .ok (.iload_n 3, 1) := by decide +kernel
theorem dX10_move_13 : decode cX10_move 13 = .ok (.invokestatic 135, 3) := by decide +kernel
theorem dX10_move_16 : decode cX10_move 16 = .ok (.ifCond .ne 6, 3) := by decide +kernel
theorem dX10_move_19 : decode cX10_move 19 = .ok (.ldc 112, 2) := by decide +kernel
theorem dX10_move_21 : decode cX10_move 21 = .ok (.ireturn, 1) := by decide +kernel
theorem dX10_move_22 : decode cX10_move 22 = .ok (.aload_n 0, 1) := by decide +kernel
theorem dX10_move_23 : decode cX10_move 23 = .ok (.invokevirtual 132, 3) := by decide +kernel
theorem dX10_move_26 : decode cX10_move 26 = .ok (.aload_n 0, 1) := by decide +kernel
theorem dX10_move_27 : decode cX10_move 27 = .ok (.getfield 7, 3) := by decide +kernel
theorem dX10_move_30 : decode cX10_move 30 = .ok (.bipush 36, 2) := by decide +kernel
theorem dX10_move_32 : decode cX10_move 32 = .ok (.bipush 8, 2) := by decide +kernel
theorem dX10_move_34 : decode cX10_move 34 = .ok (.iload_n 1, 1) := by decide +kernel
theorem dX10_move_35 : decode cX10_move 35 = .ok (.imul, 1) := by decide +kernel
theorem dX10_move_36 : decode cX10_move 36 = .ok (.iadd, 1) := by decide +kernel
theorem dX10_move_37 : decode cX10_move 37 = .ok (.iconst 0, 1) := by decide +kernel
theorem dX10_move_38 : decode cX10_move 38 = .ok (.iadd, 1) := by decide +kernel
theorem dX10_move_39 : decode cX10_move 39 = .ok (.iload_n 2, 1) := by decide +kernel
theorem dX10_move_40 : decode cX10_move 40 = .ok (.iastore, 1) := by decide +kernel
theorem dX10_move_41 : decode cX10_move 41 = .ok (.aload_n 0, 1) := by decide +kernel
theorem dX10_move_42 : decode cX10_move 42 = .ok (.getfield 7, 3) := by decide +kernel
theorem dX10_move_45 : decode cX10_move 45 = .ok (.bipush 36, 2) := by decide +kernel
theorem dX10_move_47 : decode cX10_move 47 = .ok (.bipush 8, 2) := by decide +kernel
theorem dX10_move_49 : decode cX10_move 49 = .ok (.iload_n 1, 1) := by decide +kernel
theorem dX10_move_50 : decode cX10_move 50 = .ok (.imul, 1) := by decide +kernel
theorem dX10_move_51 : decode cX10_move 51 = .ok (.iadd, 1) := by decide +kernel
theorem dX10_move_52 : decode cX10_move 52 = .ok (.iconst 1, 1) := by decide +kernel
theorem dX10_move_53 : decode cX10_move 53 = .ok (.iadd, 1) := by decide +kernel
theorem dX10_move_54 : decode cX10_move 54 = .ok (.iload_n 3, 1) := by decide +kernel
theorem dX10_move_55 : decode cX10_move 55 = .ok (.iastore, 1) := by decide +kernel
theorem dX10_move_56 : decode cX10_move 56 = .ok (.iconst 0, 1) := by decide +kernel
theorem dX10_move_57 : decode cX10_move 57 = .ok (.istore 4, 2) := by decide +kernel
theorem dX10_move_59 : decode cX10_move 59 = .ok (.iconst 0, 1) := by decide +kernel
theorem dX10_move_60 : decode cX10_move 60 = .ok (.istore 5, 2) := by decide +kernel
theorem dX10_move_62 : decode cX10_move 62 = .ok (.iload 5, 2) := by decide +kernel
theorem dX10_move_64 : decode cX10_move 64 = .ok (.bipush 24, 2) := by decide +kernel
theorem dX10_move_66 : decode cX10_move 66 = .ok (.if_icmp .ge 29, 3) := by decide +kernel
theorem dX10_move_69 : decode cX10_move 69 = .ok (.iload 4, 2) := by decide +kernel
theorem dX10_move_71 : decode cX10_move 71 = .ok (.aload_n 0, 1) := by decide +kernel
theorem dX10_move_72 : decode cX10_move 72 = .ok (.iload_n 1, 1) := by decide +kernel
theorem dX10_move_73 : decode cX10_move 73 = .ok (.iload 5, 2) := by decide +kernel
theorem dX10_move_75 : decode cX10_move 75 = .ok (.invokevirtual 58, 3) := by decide +kernel
theorem dX10_move_78 : decode cX10_move 78 = .ok (.ifCond .eq 7, 3) := by decide +kernel
theorem dX10_move_81 : decode cX10_move 81 = .ok (.iconst 1, 1) := by decide +kernel
theorem dX10_move_82 : decode cX10_move 82 = .ok (.goto 4, 3) := by decide +kernel
theorem dX10_move_85 : decode cX10_move 85 = .ok (.iconst 0, 1) := by decide +kernel
theorem dX10_move_86 : decode cX10_move 86 = .ok (.iadd, 1) := by decide +kernel
theorem dX10_move_87 : decode cX10_move 87 = .ok (.istore 4, 2) := by decide +kernel
theorem dX10_move_89 : decode cX10_move 89 = .ok (.iinc 5 1, 3) := by decide +kernel
theorem dX10_move_92 : decode cX10_move 92 = .ok (.goto (-30), 3) := by decide +kernel
theorem dX10_move_95 : decode cX10_move 95 = .ok (.iload 4, 2) := by decide +kernel
theorem dX10_move_97 : decode cX10_move 97 = .ok (.ireturn, 1) := by decide +kernel
set_option maxRecDepth 20000 in
theorem ggX10_turn_X10_isThing : GoodIn wsX10_turn wsX10_isThing := goodIn_r _ [8, 3, 9, 10, 7, 11, 62, 63, 64, 65, 66, 67, 68, 69, 70, 71, 72, 73, 74] (by decide +kernel) (by decide +kernel)
set_option maxRecDepth 20000 in
theorem gX10_turn_X10_isThing : GoodIn wsX10_turn (wsV RX10 113 RX10 yX10_isThing wsX10_isThing) := goodIn_app (goodIn_of _ (by decide +kernel)) ggX10_turn_X10_isThing
set_option maxRecDepth 20000 in
theorem ggX10_turn_X10_in : GoodIn wsX10_turn wsX10_in := goodIn_r _ [11] (by decide +kernel) (by decide +kernel)
set_option maxRecDepth 20000 in
theorem gX10_turn_X10_in : GoodIn wsX10_turn (va_wsS RX10 42 yX10_in wsX10_in) := goodIn_app (goodIn_of _ (by decide +kernel)) ggX10_turn_X10_in
set_option maxRecDepth 20000 in
theorem ggX10_turn_X10_notes : GoodIn wsX10_turn wsX10_notes := goodIn_r _ [15, 16, 17, 3, 62, 63, 64, 65, 66, 67, 68, 69, 70, 71, 72, 73, 74] (by decide +kernel) (by decide +kernel)
set_option maxRecDepth 20000 in
theorem gX10_turn_X10_notes : GoodIn wsX10_turn (wsV RX10 132 RX10 yX10_notes wsX10_notes) := goodIn_app (goodIn_of _ (by decide +kernel)) ggX10_turn_X10_notes
set_option maxRecDepth 20000 in
theorem ggX10_turn_X10_dotsOf : GoodIn wsX10_turn wsX10_dotsOf := goodIn_r _ [21, 22, 23, 24, 25, 7, 26, 27, 28, 29, 30, 3, 31, 32, 33, 34, 35, 36, 37, 38, 39, 40, 41, 42, 43, 44, 45, 46, 9, 10, 11, 47, 48, 49, 50, 51, 52, 53, 54, 55, 56, 57, 58, 59, 60, 61, 62, 63, 64, 65, 66, 67, 68, 69, 70, 71, 72, 73, 74] (by decide +kernel) (by decide +kernel)
set_option maxRecDepth 20000 in
theorem gX10_turn_X10_dotsOf : GoodIn wsX10_turn (wsV RX10 118 RX10 yX10_dotsOf wsX10_dotsOf) := goodIn_app (goodIn_of _ (by decide +kernel)) ggX10_turn_X10_dotsOf
theorem dX10_turn_0 : decode cX10_turn 0 = .ok (.aload_n 0, 1) := by decide +kernel
theorem dX10_turn_1 : decode cX10_turn 1 = .ok (.iload_n 1, 1) := by decide +kernel
theorem dX10_turn_2 : decode cX10_turn 2 = .ok (.invokevirtual 113, 3) := by decide +kernel
theorem dX10_turn_5 : decode cX10_turn 5 = .ok (.ifCond .ne 6, 3) := by decide +kernel
theorem dX10_turn_8 : decode cX10_turn 8 = .ok (.ldc 117, 2) := by decide +kernel
theorem dX10_turn_10 : decode cX10_turn 10 = .ok (.ireturn, 1) := by decide +kernel
theorem dX10_turn_11 : decode cX10_turn 11 = .ok (.iload_n 2, 1) := by decide +kernel
theorem dX10_turn_12 : decode cX10_turn 12 = .ok (.iconst 0, 1) := by decide +kernel
theorem dX10_turn_13 : decode cX10_turn 13 = .ok (.iconst 3, 1) := by decide +kernel
theorem dX10_turn_14 : decode cX10_turn 14 = .ok (.invokestatic 42, 3) := by decide +kernel
theorem dX10_turn_17 : decode cX10_turn 17 = .ok (.ifCond .eq 12, 3) := by decide +kernel
theorem dX10_turn_20 : decode cX10_turn 20 = .ok (.iload_n 3, 1) := by decide +kernel
theorem dX10_turn_21 : decode cX10_turn 21 = .ok (.iconst 0, 1) := by decide +kernel
theorem dX10_turn_22 : decode cX10_turn 22 = .ok (.iconst 3, 1) := by decide +kernel
theorem dX10_turn_23 : decode cX10_turn 23 = .ok (.invokestatic 42, 3) := by decide +kernel
theorem dX10_turn_26 : decode cX10_turn 26 = .ok (.ifCond .ne 6, 3) := by decide +kernel
theorem dX10_turn_29 : decode cX10_turn 29 = .ok (.ldc 112, 2) := by decide +kernel
theorem dX10_turn_31 : decode cX10_turn 31 = .ok (.ireturn, 1) := by decide +kernel
theorem dX10_turn_32 : decode cX10_turn 32 = .ok (.aload_n 0, 1) := by decide +kernel
theorem dX10_turn_33 : decode cX10_turn 33 = .ok (.invokevirtual 132, 3) := by decide +kernel
theorem dX10_turn_36 : decode cX10_turn 36 = .ok (.aload_n 0, 1) := by decide +kernel
theorem dX10_turn_37 : decode cX10_turn 37 = .ok (.getfield 7, 3) := by decide +kernel
theorem dX10_turn_40 : decode cX10_turn 40 = .ok (.bipush 36, 2) := by decide +kernel
theorem dX10_turn_42 : decode cX10_turn 42 = .ok (.bipush 8, 2) := by decide +kernel
theorem dX10_turn_44 : decode cX10_turn 44 = .ok (.iload_n 1, 1) := by decide +kernel
theorem dX10_turn_45 : decode cX10_turn 45 = .ok (.imul, 1) := by decide +kernel
theorem dX10_turn_46 : decode cX10_turn 46 = .ok (.iadd, 1) := by decide +kernel
theorem dX10_turn_47 : decode cX10_turn 47 = .ok (.iconst 3, 1) := by decide +kernel
theorem dX10_turn_48 : decode cX10_turn 48 = .ok (.iadd, 1) := by decide +kernel
theorem dX10_turn_49 : decode cX10_turn 49 = .ok (.iload_n 2, 1) := by decide +kernel
theorem dX10_turn_50 : decode cX10_turn 50 = .ok (.iastore, 1) := by decide +kernel
theorem dX10_turn_51 : decode cX10_turn 51 = .ok (.aload_n 0, 1) := by decide +kernel
theorem dX10_turn_52 : decode cX10_turn 52 = .ok (.getfield 7, 3) := by decide +kernel
theorem dX10_turn_55 : decode cX10_turn 55 = .ok (.bipush 36, 2) := by decide +kernel
theorem dX10_turn_57 : decode cX10_turn 57 = .ok (.bipush 8, 2) := by decide +kernel
theorem dX10_turn_59 : decode cX10_turn 59 = .ok (.iload_n 1, 1) := by decide +kernel
theorem dX10_turn_60 : decode cX10_turn 60 = .ok (.imul, 1) := by decide +kernel
theorem dX10_turn_61 : decode cX10_turn 61 = .ok (.iadd, 1) := by decide +kernel
theorem dX10_turn_62 : decode cX10_turn 62 = .ok (.iconst 4, 1) := by decide +kernel
theorem dX10_turn_63 : decode cX10_turn 63 = .ok (.iadd, 1) := by decide +kernel
theorem dX10_turn_64 : decode cX10_turn 64 = .ok (.iload_n 3, 1) := by decide +kernel
theorem dX10_turn_65 : decode cX10_turn 65 = .ok (.iastore, 1) := by decide +kernel
theorem dX10_turn_66 : decode cX10_turn 66 = .ok (.aload_n 0, 1) := by decide +kernel
theorem dX10_turn_67 : decode cX10_turn 67 = .ok (.iload_n 1, 1) := by decide +kernel
theorem dX10_turn_68 : decode cX10_turn 68 = .ok (.iconst 0, 1) := by decide +kernel
theorem dX10_turn_69 : decode cX10_turn 69 = .ok (.invokevirtual 118, 3) := by decide +kernel
theorem dX10_turn_72 : decode cX10_turn 72 = .ok (.ireturn, 1) := by decide +kernel
set_option maxRecDepth 20000 in
theorem ggX10_speed_X10_isThing : GoodIn wsX10_speed wsX10_isThing := goodIn_r _ [8, 3, 9, 10, 7, 11, 18, 19, 20, 21, 22, 23, 24, 25, 26, 27, 28, 29, 30] (by decide +kernel) (by decide +kernel)
set_option maxRecDepth 20000 in
theorem gX10_speed_X10_isThing : GoodIn wsX10_speed (wsV RX10 113 RX10 yX10_isThing wsX10_isThing) := goodIn_app (goodIn_of _ (by decide +kernel)) ggX10_speed_X10_isThing
set_option maxRecDepth 20000 in
theorem ggX10_speed_X10_in : GoodIn wsX10_speed wsX10_in := goodIn_r _ [11] (by decide +kernel) (by decide +kernel)
set_option maxRecDepth 20000 in
theorem gX10_speed_X10_in : GoodIn wsX10_speed (va_wsS RX10 42 yX10_in wsX10_in) := goodIn_app (goodIn_of _ (by decide +kernel)) ggX10_speed_X10_in
set_option maxRecDepth 20000 in
theorem ggX10_speed_X10_notes : GoodIn wsX10_speed wsX10_notes := goodIn_r _ [15, 16, 17, 3, 18, 19, 20, 21, 22, 23, 24, 25, 26, 27, 28, 29, 30] (by decide +kernel) (by decide +kernel)
set_option maxRecDepth 20000 in
theorem gX10_speed_X10_notes : GoodIn wsX10_speed (wsV RX10 132 RX10 yX10_notes wsX10_notes) := goodIn_app (goodIn_of _ (by decide +kernel)) ggX10_speed_X10_notes
theorem dX10_speed_0 : decode cX10_speed 0 = .ok (.aload_n 0, 1) := by decide +kernel
theorem dX10_speed_1 : decode cX10_speed 1 = .ok (.iload_n 1, 1) := by decide +kernel
theorem dX10_speed_2 : decode cX10_speed 2 = .ok (.invokevirtual 113, 3) := by decide +kernel
theorem dX10_speed_5 : decode cX10_speed 5 = .ok (.ifCond .ne 6, 3) := by decide +kernel
theorem dX10_speed_8 : decode cX10_speed 8 = .ok (.ldc 117, 2) := by decide +kernel
theorem dX10_speed_10 : decode cX10_speed 10 = .ok (.ireturn, 1) := by decide +kernel
theorem dX10_speed_11 : decode cX10_speed 11 = .ok (.iload_n 2, 1) := by decide +kernel
theorem dX10_speed_12 : decode cX10_speed 12 = .ok (.bipush (-8), 2) := by decide +kernel
theorem dX10_speed_14 : decode cX10_speed 14 = .ok (.bipush 8, 2) := by decide +kernel
theorem dX10_speed_16 : decode cX10_speed 16 = .ok (.invokestatic 42, 3) := by decide +kernel
theorem dX10_speed_19 : decode cX10_speed 19 = .ok (.ifCond .eq 14, 3) := by decide +kernel
theorem dX10_speed_22 : decode cX10_speed 22 = .ok (.iload_n 3, 1) := by decide +kernel
theorem dX10_speed_23 : decode cX10_speed 23 = .ok (.bipush (-8), 2) := by decide +kernel
theorem dX10_speed_25 : decode cX10_speed 25 = .ok (.bipush 8, 2) := by decide +kernel
theorem dX10_speed_27 : decode cX10_speed 27 = .ok (.invokestatic 42, 3) := by decide +kernel
theorem dX10_speed_30 : decode cX10_speed 30 = .ok (.ifCond .ne 6, 3) := by decide +kernel
theorem dX10_speed_33 : decode cX10_speed 33 = .ok (.ldc 112, 2) := by decide +kernel
theorem dX10_speed_35 : decode cX10_speed 35 = .ok (.ireturn, 1) := by decide +kernel
theorem dX10_speed_36 : decode cX10_speed 36 = .ok (.aload_n 0, 1) := by decide +kernel
theorem dX10_speed_37 : decode cX10_speed 37 = .ok (.invokevirtual 132, 3) := by decide +kernel
theorem dX10_speed_40 : decode cX10_speed 40 = .ok (.aload_n 0, 1) := by decide +kernel
theorem dX10_speed_41 : decode cX10_speed 41 = .ok (.getfield 7, 3) := by decide +kernel
theorem dX10_speed_44 : decode cX10_speed 44 = .ok (.bipush 36, 2) := by decide +kernel
theorem dX10_speed_46 : decode cX10_speed 46 = .ok (.bipush 8, 2) := by decide +kernel
theorem dX10_speed_48 : decode cX10_speed 48 = .ok (.iload_n 1, 1) := by decide +kernel
theorem dX10_speed_49 : decode cX10_speed 49 = .ok (.imul, 1) := by decide +kernel
theorem dX10_speed_50 : decode cX10_speed 50 = .ok (.iadd, 1) := by decide +kernel
theorem dX10_speed_51 : decode cX10_speed 51 = .ok (.bipush 6, 2) := by decide +kernel
theorem dX10_speed_53 : decode cX10_speed 53 = .ok (.iadd, 1) := by decide +kernel
theorem dX10_speed_54 : decode cX10_speed 54 = .ok (.iload_n 2, 1) := by decide +kernel
theorem dX10_speed_55 : decode cX10_speed 55 = .ok (.iastore, 1) := by decide +kernel
theorem dX10_speed_56 : decode cX10_speed 56 = .ok (.aload_n 0, 1) := by decide +kernel
theorem dX10_speed_57 : decode cX10_speed 57 = .ok (.getfield 7, 3) := by decide +kernel
theorem dX10_speed_60 : decode cX10_speed 60 = .ok (.bipush 36, 2) := by decide +kernel
theorem dX10_speed_62 : decode cX10_speed 62 = .ok (.bipush 8, 2) := by decide +kernel
theorem dX10_speed_64 : decode cX10_speed 64 = .ok (.iload_n 1, 1) := by decide +kernel
theorem dX10_speed_65 : decode cX10_speed 65 = .ok (.imul, 1) := by decide +kernel
theorem dX10_speed_66 : decode cX10_speed 66 = .ok (.iadd, 1) := by decide +kernel
theorem dX10_speed_67 : decode cX10_speed 67 = .ok (.bipush 7, 2) := by decide +kernel
theorem dX10_speed_69 : decode cX10_speed 69 = .ok (.iadd, 1) := by decide +kernel
theorem dX10_speed_70 : decode cX10_speed 70 = .ok (.iload_n 3, 1) := by decide +kernel
theorem dX10_speed_71 : decode cX10_speed 71 = .ok (.iastore, 1) := by decide +kernel
theorem dX10_speed_72 : decode cX10_speed 72 = .ok (.iconst 1, 1) := by decide +kernel
theorem dX10_speed_73 : decode cX10_speed 73 = .ok (.ireturn, 1) := by decide +kernel
set_option maxRecDepth 20000 in
theorem ggX10_take_X10_isThing : GoodIn wsX10_take wsX10_isThing := goodIn_r _ [7, 2, 8, 9, 6, 10, 17, 18, 19, 20, 21, 22, 23, 24, 25, 26, 27, 28, 29] (by decide +kernel) (by decide +kernel)
set_option maxRecDepth 20000 in
theorem gX10_take_X10_isThing : GoodIn wsX10_take (wsV RX10 113 RX10 yX10_isThing wsX10_isThing) := goodIn_app (goodIn_of _ (by decide +kernel)) ggX10_take_X10_isThing
set_option maxRecDepth 20000 in
theorem ggX10_take_X10_notes : GoodIn wsX10_take wsX10_notes := goodIn_r _ [14, 15, 16, 2, 17, 18, 19, 20, 21, 22, 23, 24, 25, 26, 27, 28, 29] (by decide +kernel) (by decide +kernel)
set_option maxRecDepth 20000 in
theorem gX10_take_X10_notes : GoodIn wsX10_take (wsV RX10 132 RX10 yX10_notes wsX10_notes) := goodIn_app (goodIn_of _ (by decide +kernel)) ggX10_take_X10_notes
theorem dX10_take_0 : decode cX10_take 0 = .ok (.aload_n 0, 1) := by decide +kernel
theorem dX10_take_1 : decode cX10_take 1 = .ok (.iload_n 1, 1) := by decide +kernel
theorem dX10_take_2 : decode cX10_take 2 = .ok (.invokevirtual 113, 3) := by decide +kernel
theorem dX10_take_5 : decode cX10_take 5 = .ok (.ifCond .ne 6, 3) := by decide +kernel
theorem dX10_take_8 : decode cX10_take 8 = .ok (.ldc 117, 2) := by decide +kernel
theorem dX10_take_10 : decode cX10_take 10 = .ok (.ireturn, 1) := by decide +kernel
theorem dX10_take_11 : decode cX10_take 11 = .ok (.aload_n 0, 1) := by decide +kernel
theorem dX10_take_12 : decode cX10_take 12 = .ok (.invokevirtual 132, 3) := by decide +kernel
theorem dX10_take_15 : decode cX10_take 15 = .ok (.bipush 36, 2) := by decide +kernel
theorem dX10_take_17 : decode cX10_take 17 = .ok (.bipush 8, 2) := by decide +kernel
theorem dX10_take_19 : decode cX10_take 19 = .ok (.iload_n 1, 1) := by decide +kernel
theorem dX10_take_20 : decode cX10_take 20 = .ok (.imul, 1) := by decide +kernel
theorem dX10_take_21 : decode cX10_take 21 = .ok (.iadd, 1) := by decide +kernel
theorem dX10_take_22 : decode cX10_take 22 = .ok (.istore_n 2, 1) := by decide +kernel
theorem dX10_take_23 : decode cX10_take 23 = .ok (.iload_n 2, 1) := by decide +kernel
theorem dX10_take_24 : decode cX10_take 24 = .ok (.bipush 8, 2) := by decide +kernel
theorem dX10_take_26 : decode cX10_take 26 = .ok (.iadd, 1) := by decide +kernel
theorem dX10_take_27 : decode cX10_take 27 = .ok (.sipush 132, 3) := by decide +kernel
theorem dX10_take_30 : decode cX10_take 30 = .ok (.if_icmp .ge 24, 3) := by decide +kernel
theorem dX10_take_33 : decode cX10_take 33 = .ok (.aload_n 0, 1) := by decide +kernel
theorem dX10_take_34 : decode cX10_take 34 = .ok (.getfield 7, 3) := by decide +kernel
theorem dX10_take_37 : decode cX10_take 37 = .ok (.iload_n 2, 1) := by decide +kernel
theorem dX10_take_38 : decode cX10_take 38 = .ok (.aload_n 0, 1) := by decide +kernel
theorem dX10_take_39 : decode cX10_take 39 = .ok (.getfield 7, 3) := by decide +kernel
theorem dX10_take_42 : decode cX10_take 42 = .ok (.iload_n 2, 1) := by decide +kernel
theorem dX10_take_43 : decode cX10_take 43 = .ok (.bipush 8, 2) := by decide +kernel
theorem dX10_take_45 : decode cX10_take 45 = .ok (.iadd, 1) := by decide +kernel
theorem dX10_take_46 : decode cX10_take 46 = .ok (.iaload, 1) := by decide +kernel
theorem dX10_take_47 : decode cX10_take 47 = .ok (.iastore, 1) := by decide +kernel
theorem dX10_take_48 : decode cX10_take 48 = .ok (.iinc 2 1, 3) := by decide +kernel
theorem dX10_take_51 : decode cX10_take 51 = .ok (.goto (-28), 3) := by decide +kernel
theorem dX10_take_54 : decode cX10_take 54 = .ok (.aload_n 0, 1) := by decide +kernel
theorem dX10_take_55 : decode cX10_take 55 = .ok (.getfield 7, 3) := by decide +kernel
theorem dX10_take_58 : decode cX10_take 58 = .ok (.iconst 0, 1) := by decide +kernel
theorem dX10_take_59 : decode cX10_take 59 = .ok (.dup2, 1) := by decide +kernel
theorem dX10_take_60 : decode cX10_take 60 = .ok (.iaload, 1) := by decide +kernel
theorem dX10_take_61 : decode cX10_take 61 = .ok (.iconst 1, 1) := by decide +kernel
theorem dX10_take_62 : decode cX10_take 62 = .ok (.isub, 1) := by decide +kernel
theorem dX10_take_63 : decode cX10_take 63 = .ok (.iastore, 1) := by decide +kernel
theorem dX10_take_64 : decode cX10_take 64 = .ok (.aload_n 0, 1) := by decide +kernel
theorem dX10_take_65 : decode cX10_take 65 = .ok (.getfield 7, 3) := by decide +kernel
theorem dX10_take_68 : decode cX10_take 68 = .ok (.iconst 0, 1) := by decide +kernel
theorem dX10_take_69 : decode cX10_take 69 = .ok (.iaload, 1) := by decide +kernel
theorem dX10_take_70 : decode cX10_take 70 = .ok (.ireturn, 1) := by decide +kernel
set_option maxRecDepth 20000 in
theorem ggX10_limit_X10_in : GoodIn wsX10_limit wsX10_in := goodIn_r _ [6] (by decide +kernel) (by decide +kernel)
set_option maxRecDepth 20000 in
theorem gX10_limit_X10_in : GoodIn wsX10_limit (va_wsS RX10 42 yX10_in wsX10_in) := goodIn_app (goodIn_of _ (by decide +kernel)) ggX10_limit_X10_in
set_option maxRecDepth 20000 in
theorem ggX10_limit_X10_notes : GoodIn wsX10_limit wsX10_notes := goodIn_r _ [10, 11, 12, 2, 61, 62, 63, 64, 65, 66, 67, 68, 69, 70, 71, 72, 73] (by decide +kernel) (by decide +kernel)
set_option maxRecDepth 20000 in
theorem gX10_limit_X10_notes : GoodIn wsX10_limit (wsV RX10 132 RX10 yX10_notes wsX10_notes) := goodIn_app (goodIn_of _ (by decide +kernel)) ggX10_limit_X10_notes
set_option maxRecDepth 20000 in
theorem ggX10_limit_X10_missing : GoodIn wsX10_limit wsX10_missing := goodIn_r _ [16, 17, 18, 19, 20, 5, 21, 22, 23, 24, 25, 2, 26, 27, 28, 29, 30, 31, 32, 33, 34, 35, 36, 37, 38, 39, 40, 41, 3, 4, 6, 42, 43, 44, 45, 46, 47, 48, 49, 50, 51, 52, 53, 54, 55, 56, 57, 58, 59, 60, 61, 62, 63, 64, 65, 66, 67, 68, 69, 70, 71, 72, 73] (by decide +kernel) (by decide +kernel)
set_option maxRecDepth 20000 in
theorem gX10_limit_X10_missing : GoodIn wsX10_limit (wsV RX10 87 RX10 yX10_missing wsX10_missing) := goodIn_app (goodIn_of _ (by decide +kernel)) ggX10_limit_X10_missing
theorem dX10_limit_0 : decode cX10_limit 0 = .ok (.iload_n 1, 1) := by decide +kernel
theorem dX10_limit_1 : decode cX10_limit 1 = .ok (.iconst 1, 1) := by decide +kernel
theorem dX10_limit_2 : decode cX10_limit 2 = .ok (.bipush 8, 2) := by decide +kernel
theorem dX10_limit_4 : decode cX10_limit 4 = .ok (.invokestatic 42, 3) := by decide +kernel
theorem dX10_limit_7 : decode cX10_limit 7 = .ok (.ifCond .ne 6, 3) := by decide +kernel
theorem dX10_limit_10 : decode cX10_limit 10 = .ok (.ldc 112, 2) := by decide +kernel
theorem dX10_limit_12 : decode cX10_limit 12 = .ok (.ireturn, 1) := by decide +kernel
theorem dX10_limit_13 : decode cX10_limit 13 = .ok (.aload_n 0, 1) := by decide +kernel
theorem dX10_limit_14 : decode cX10_limit 14 = .ok (.invokevirtual 132, 3) := by decide +kernel
theorem dX10_limit_17 : decode cX10_limit 17 = .ok (.aload_n 0, 1) := by decide +kernel
theorem dX10_limit_18 : decode cX10_limit 18 = .ok (.getfield 7, 3) := by decide +kernel
theorem dX10_limit_21 : decode cX10_limit 21 = .ok (.iconst 1, 1) := by decide +kernel
theorem dX10_limit_22 : decode cX10_limit 22 = .ok (.iload_n 1, 1) := by decide +kernel
theorem dX10_limit_23 : decode cX10_limit 23 = .ok (.iastore, 1) := by decide +kernel
theorem dX10_limit_24 : decode cX10_limit 24 = .ok (.aload_n 0, 1) := by decide +kernel
theorem dX10_limit_25 : decode cX10_limit 25 = .ok (.invokevirtual 87, 3) := by decide +kernel
theorem dX10_limit_28 : decode cX10_limit 28 = .ok (.ireturn, 1) := by decide +kernel
set_option maxRecDepth 20000 in
theorem ggX10_rule_X10_in : GoodIn wsX10_rule wsX10_in := goodIn_r _ [6] (by decide +kernel) (by decide +kernel)
set_option maxRecDepth 20000 in
theorem gX10_rule_X10_in : GoodIn wsX10_rule (va_wsS RX10 42 yX10_in wsX10_in) := goodIn_app (goodIn_of _ (by decide +kernel)) ggX10_rule_X10_in
set_option maxRecDepth 20000 in
theorem ggX10_rule_X10_notes : GoodIn wsX10_rule wsX10_notes := goodIn_r _ [10, 11, 12, 2, 61, 62, 63, 64, 65, 66, 67, 68, 69, 70, 71, 72, 73] (by decide +kernel) (by decide +kernel)
set_option maxRecDepth 20000 in
theorem gX10_rule_X10_notes : GoodIn wsX10_rule (wsV RX10 132 RX10 yX10_notes wsX10_notes) := goodIn_app (goodIn_of _ (by decide +kernel)) ggX10_rule_X10_notes
set_option maxRecDepth 20000 in
theorem ggX10_rule_X10_missing : GoodIn wsX10_rule wsX10_missing := goodIn_r _ [16, 17, 18, 19, 20, 5, 21, 22, 23, 24, 25, 2, 26, 27, 28, 29, 30, 31, 32, 33, 34, 35, 36, 37, 38, 39, 40, 41, 3, 4, 6, 42, 43, 44, 45, 46, 47, 48, 49, 50, 51, 52, 53, 54, 55, 56, 57, 58, 59, 60, 61, 62, 63, 64, 65, 66, 67, 68, 69, 70, 71, 72, 73] (by decide +kernel) (by decide +kernel)
set_option maxRecDepth 20000 in
theorem gX10_rule_X10_missing : GoodIn wsX10_rule (wsV RX10 87 RX10 yX10_missing wsX10_missing) := goodIn_app (goodIn_of _ (by decide +kernel)) ggX10_rule_X10_missing
theorem dX10_rule_0 : decode cX10_rule 0 = .ok (.iload_n 1, 1) := by decide +kernel
theorem dX10_rule_1 : decode cX10_rule 1 = .ok (.iconst 0, 1) := by decide +kernel
theorem dX10_rule_2 : decode cX10_rule 2 = .ok (.iconst 3, 1) := by decide +kernel
theorem dX10_rule_3 : decode cX10_rule 3 = .ok (.invokestatic 42, 3) := by decide +kernel
theorem dX10_rule_6 : decode cX10_rule 6 = .ok (.ifCond .ne 6, 3) := by decide +kernel
theorem dX10_rule_9 : decode cX10_rule 9 = .ok (.ldc 112, 2) := by decide +kernel
theorem dX10_rule_11 : decode cX10_rule 11 = .ok (.ireturn, 1) := by decide +kernel
theorem dX10_rule_12 : decode cX10_rule 12 = .ok (.aload_n 0, 1) := by decide +kernel
theorem dX10_rule_13 : decode cX10_rule 13 = .ok (.invokevirtual 132, 3) := by decide +kernel
theorem dX10_rule_16 : decode cX10_rule 16 = .ok (.aload_n 0, 1) := by decide +kernel
theorem dX10_rule_17 : decode cX10_rule 17 = .ok (.getfield 7, 3) := by decide +kernel
theorem dX10_rule_20 : decode cX10_rule 20 = .ok (.iconst 2, 1) := by decide +kernel
theorem dX10_rule_21 : decode cX10_rule 21 = .ok (.iload_n 1, 1) := by decide +kernel
theorem dX10_rule_22 : decode cX10_rule 22 = .ok (.iastore, 1) := by decide +kernel
theorem dX10_rule_23 : decode cX10_rule 23 = .ok (.aload_n 0, 1) := by decide +kernel
theorem dX10_rule_24 : decode cX10_rule 24 = .ok (.invokevirtual 87, 3) := by decide +kernel
theorem dX10_rule_27 : decode cX10_rule 27 = .ok (.ireturn, 1) := by decide +kernel
theorem dX10_goes_0 : decode cX10_goes 0 = .ok (.aload_n 0, 1) := by decide +kernel
theorem dX10_goes_1 : decode cX10_goes 1 = .ok (.getfield 7, 3) := by decide +kernel
theorem dX10_goes_4 : decode cX10_goes 4 = .ok (.iconst 3, 1) := by decide +kernel
theorem dX10_goes_5 : decode cX10_goes 5 = .ok (.dup2, 1) := by decide +kernel
theorem dX10_goes_6 : decode cX10_goes 6 = .ok (.iaload, 1) := by decide +kernel
theorem dX10_goes_7 : decode cX10_goes 7 = .ok (.iconst 1, 1) := by decide +kernel
theorem dX10_goes_8 : decode cX10_goes 8 = .ok (.iadd, 1) := by decide +kernel
theorem dX10_goes_9 : decode cX10_goes 9 = .ok (.iastore, 1) := by decide +kernel
theorem dX10_goes_10 : decode cX10_goes 10 = .ok (.iconst 0, 1) := by decide +kernel
theorem dX10_goes_11 : decode cX10_goes 11 = .ok (.istore_n 1, 1) := by decide +kernel
theorem dX10_goes_12 : decode cX10_goes 12 = .ok (.iload_n 1, 1) := by decide +kernel
theorem dX10_goes_13 : decode cX10_goes 13 = .ok (.aload_n 0, 1) := by decide +kernel
theorem dX10_goes_14 : decode cX10_goes 14 = .ok (.getfield 7, 3) := by decide +kernel
theorem dX10_goes_17 : decode cX10_goes 17 = .ok (.iconst 0, 1) := by decide +kernel
theorem dX10_goes_18 : decode cX10_goes 18 = .ok (.iaload, 1) := by decide +kernel
theorem dX10_goes_19 : decode cX10_goes 19 = .ok (.if_icmp .ge 87, 3) := by decide +kernel
theorem dX10_goes_22 : decode cX10_goes 22 = .ok (.bipush 36, 2) := by decide +kernel
theorem dX10_goes_24 : decode cX10_goes 24 = .ok (.bipush 8, 2) := by decide +kernel
theorem dX10_goes_26 : decode cX10_goes 26 = .ok (.iload_n 1, 1) := by decide +kernel
theorem dX10_goes_27 : decode cX10_goes 27 = .ok (.imul, 1) := by decide +kernel
theorem dX10_goes_28 : decode cX10_goes 28 = .ok (.iadd, 1) := by decide +kernel
theorem dX10_goes_29 : decode cX10_goes 29 = .ok (.istore_n 2, 1) := by decide +kernel
theorem dX10_goes_30 : decode cX10_goes 30 = .ok (.aload_n 0, 1) := by decide +kernel
theorem dX10_goes_31 : decode cX10_goes 31 = .ok (.getfield 7, 3) := by decide +kernel
theorem dX10_goes_34 : decode cX10_goes 34 = .ok (.iload_n 2, 1) := by decide +kernel
theorem dX10_goes_35 : decode cX10_goes 35 = .ok (.iconst 0, 1) := by decide +kernel
theorem dX10_goes_36 : decode cX10_goes 36 = .ok (.iadd, 1) := by decide +kernel
theorem dX10_goes_37 : decode cX10_goes 37 = .ok (.aload_n 0, 1) := by decide +kernel
theorem dX10_goes_38 : decode cX10_goes 38 = .ok (.getfield 7, 3) := by decide +kernel
theorem dX10_goes_41 : decode cX10_goes 41 = .ok (.iload_n 2, 1) := by decide +kernel
theorem dX10_goes_42 : decode cX10_goes 42 = .ok (.iconst 0, 1) := by decide +kernel
theorem dX10_goes_43 : decode cX10_goes 43 = .ok (.iadd, 1) := by decide +kernel
theorem dX10_goes_44 : decode cX10_goes 44 = .ok (.iaload, 1) := by decide +kernel
theorem dX10_goes_45 : decode cX10_goes 45 = .ok (.aload_n 0, 1) := by decide +kernel
theorem dX10_goes_46 : decode cX10_goes 46 = .ok (.getfield 7, 3) := by decide +kernel
theorem dX10_goes_49 : decode cX10_goes 49 = .ok (.iload_n 2, 1) := by decide +kernel
theorem dX10_goes_50 : decode cX10_goes 50 = .ok (.bipush 6, 2) := by decide +kernel
theorem dX10_goes_52 : decode cX10_goes 52 = .ok (.iadd, 1) := by decide +kernel
theorem dX10_goes_53 : decode cX10_goes 53 = .ok (.iaload, 1) := by decide +kernel
theorem dX10_goes_54 : decode cX10_goes 54 = .ok (.iadd, 1) := by decide +kernel
theorem dX10_goes_55 : decode cX10_goes 55 = .ok (.bipush 48, 2) := by decide +kernel
theorem dX10_goes_57 : decode cX10_goes 57 = .ok (.iadd, 1) := by decide +kernel
theorem dX10_goes_58 : decode cX10_goes 58 = .ok (.bipush 40, 2) := by decide +kernel
theorem dX10_goes_60 : decode cX10_goes 60 = .ok (.irem, 1) := by decide +kernel
theorem dX10_goes_61 : decode cX10_goes 61 = .ok (.bipush 8, 2) := by decide +kernel
theorem dX10_goes_63 : decode cX10_goes 63 = .ok (.isub, 1) := by decide +kernel
theorem dX10_goes_64 : decode cX10_goes 64 = .ok (.iastore, 1) := by decide +kernel
theorem dX10_goes_65 : decode cX10_goes 65 = .ok (.aload_n 0, 1) := by decide +kernel
theorem dX10_goes_66 : decode cX10_goes 66 = .ok (.getfield 7, 3) := by decide +kernel
theorem dX10_goes_69 : decode cX10_goes 69 = .ok (.iload_n 2, 1) := by decide +kernel
theorem dX10_goes_70 : decode cX10_goes 70 = .ok (.iconst 1, 1) := by decide +kernel
theorem dX10_goes_71 : decode cX10_goes 71 = .ok (.iadd, 1) := by decide +kernel
theorem dX10_goes_72 : decode cX10_goes 72 = .ok (.aload_n 0, 1) := by decide +kernel
theorem dX10_goes_73 : decode cX10_goes 73 = .ok (.getfield 7, 3) := by decide +kernel
theorem dX10_goes_76 : decode cX10_goes 76 = .ok (.iload_n 2, 1) := by decide +kernel
theorem dX10_goes_77 : decode cX10_goes 77 = .ok (.iconst 1, 1) := by decide +kernel
theorem dX10_goes_78 : decode cX10_goes 78 = .ok (.iadd, 1) := by decide +kernel
theorem dX10_goes_79 : decode cX10_goes 79 = .ok (.iaload, 1) := by decide +kernel
theorem dX10_goes_80 : decode cX10_goes 80 = .ok (.aload_n 0, 1) := by decide +kernel
theorem dX10_goes_81 : decode cX10_goes 81 = .ok (.getfield 7, 3) := by decide +kernel
theorem dX10_goes_84 : decode cX10_goes 84 = .ok (.iload_n 2, 1) := by decide +kernel
theorem dX10_goes_85 : decode cX10_goes 85 = .ok (.bipush 7, 2) := by decide +kernel
theorem dX10_goes_87 : decode cX10_goes 87 = .ok (.iadd, 1) := by decide +kernel
theorem dX10_goes_88 : decode cX10_goes 88 = .ok (.iaload, 1) := by decide +kernel
theorem dX10_goes_89 : decode cX10_goes 89 = .ok (.iadd, 1) := by decide +kernel
theorem dX10_goes_90 : decode cX10_goes 90 = .ok (.bipush 40, 2) := by decide +kernel
theorem dX10_goes_92 : decode cX10_goes 92 = .ok (.iadd, 1) := by decide +kernel
theorem dX10_goes_93 : decode cX10_goes 93 = .ok (.bipush 32, 2) := by decide +kernel
theorem dX10_goes_95 : decode cX10_goes 95 = .ok (.irem, 1) := by decide +kernel
theorem dX10_goes_96 : decode cX10_goes 96 = .ok (.bipush 8, 2) := by decide +kernel
theorem dX10_goes_98 : decode cX10_goes 98 = .ok (.isub, 1) := by decide +kernel
theorem dX10_goes_99 : decode cX10_goes 99 = .ok (.iastore, 1) := by decide +kernel
theorem dX10_goes_100 : decode cX10_goes 100 = .ok (.iinc 1 1, 3) := by decide +kernel
theorem dX10_goes_103 : decode cX10_goes 103 = .ok (.goto (-91), 3) := by decide +kernel
theorem dX10_goes_106 : decode cX10_goes 106 = .ok (.return_, 1) := by decide +kernel
set_option maxRecDepth 20000 in
theorem ggX10_frame_X10_in : GoodIn wsX10_frame wsX10_in := goodIn_r _ [6] (by decide +kernel) (by decide +kernel)
set_option maxRecDepth 20000 in
theorem gX10_frame_X10_in : GoodIn wsX10_frame (va_wsS RX10 42 yX10_in wsX10_in) := goodIn_app (goodIn_of _ (by decide +kernel)) ggX10_frame_X10_in
set_option maxRecDepth 20000 in
theorem ggX10_frame_X10_notes : GoodIn wsX10_frame wsX10_notes := goodIn_r _ [10, 11, 12, 2, 17, 18, 19, 20, 21, 22, 23, 24, 25, 26, 27, 28, 29] (by decide +kernel) (by decide +kernel)
set_option maxRecDepth 20000 in
theorem gX10_frame_X10_notes : GoodIn wsX10_frame (wsV RX10 132 RX10 yX10_notes wsX10_notes) := goodIn_app (goodIn_of _ (by decide +kernel)) ggX10_frame_X10_notes
set_option maxRecDepth 20000 in
theorem ggX10_frame_X10_goes : GoodIn wsX10_frame wsX10_goes := goodIn_r _ [16, 2, 17, 18, 19, 20, 21, 22, 23, 24, 25, 26, 27, 28, 29] (by decide +kernel) (by decide +kernel)
set_option maxRecDepth 20000 in
theorem gX10_frame_X10_goes : GoodIn wsX10_frame (wsV RX10 143 RX10 yX10_goes wsX10_goes) := goodIn_app (goodIn_of _ (by decide +kernel)) ggX10_frame_X10_goes
theorem dX10_frame_0 : decode cX10_frame 0 = .ok (.iload_n 1, 1) := by decide +kernel
theorem dX10_frame_1 : decode cX10_frame 1 = .ok (.iconst 1, 1) := by decide +kernel
theorem dX10_frame_2 : decode cX10_frame 2 = .ok (.bipush 40, 2) := by decide +kernel
theorem dX10_frame_4 : decode cX10_frame 4 = .ok (.invokestatic 42, 3) := by decide +kernel
theorem dX10_frame_7 : decode cX10_frame 7 = .ok (.ifCond .ne 6, 3) := by decide +kernel
theorem dX10_frame_10 : decode cX10_frame 10 = .ok (.ldc 112, 2) := by decide +kernel
theorem dX10_frame_12 : decode cX10_frame 12 = .ok (.ireturn, 1) := by decide +kernel
theorem dX10_frame_13 : decode cX10_frame 13 = .ok (.aload_n 0, 1) := by decide +kernel
theorem dX10_frame_14 : decode cX10_frame 14 = .ok (.invokevirtual 132, 3) := by decide +kernel
theorem dX10_frame_17 : decode cX10_frame 17 = .ok (.iconst 0, 1) := by decide +kernel
theorem dX10_frame_18 : decode cX10_frame 18 = .ok (.istore_n 2, 1) := by decide +kernel
theorem dX10_frame_19 : decode cX10_frame 19 = .ok (.iload_n 2, 1) := by decide +kernel
theorem dX10_frame_20 : decode cX10_frame 20 = .ok (.iload_n 1, 1) := by decide +kernel
theorem dX10_frame_21 : decode cX10_frame 21 = .ok (.if_icmp .ge 13, 3) := by decide +kernel
theorem dX10_frame_24 : decode cX10_frame 24 = .ok (.aload_n 0, 1) := by decide +kernel
theorem dX10_frame_25 : decode cX10_frame 25 = .ok (.invokevirtual 143, 3) := by decide +kernel
theorem dX10_frame_28 : decode cX10_frame 28 = .ok (.iinc 2 1, 3) := by decide +kernel
theorem dX10_frame_31 : decode cX10_frame 31 = .ok (.goto (-12), 3) := by decide +kernel
theorem dX10_frame_34 : decode cX10_frame 34 = .ok (.aload_n 0, 1) := by decide +kernel
theorem dX10_frame_35 : decode cX10_frame 35 = .ok (.getfield 7, 3) := by decide +kernel
theorem dX10_frame_38 : decode cX10_frame 38 = .ok (.iconst 3, 1) := by decide +kernel
theorem dX10_frame_39 : decode cX10_frame 39 = .ok (.iaload, 1) := by decide +kernel
theorem dX10_frame_40 : decode cX10_frame 40 = .ok (.ireturn, 1) := by decide +kernel
theorem dX10_drawOf_0 : decode cX10_drawOf 0 = .ok (.aload_n 0, 1) := by decide +kernel
theorem dX10_drawOf_1 : decode cX10_drawOf 1 = .ok (.aload_n 0, 1) := by decide +kernel
theorem dX10_drawOf_2 : decode cX10_drawOf 2 = .ok (.getfield 146, 3) := by decide +kernel
theorem dX10_drawOf_5 : decode cX10_drawOf 5 = .ok (.ldc2_w 150, 3) := by decide +kernel
theorem dX10_drawOf_8 : decode cX10_drawOf 8 = .ok (.lmul, 1) := by decide +kernel
theorem dX10_drawOf_9 : decode cX10_drawOf 9 = .ok (.ldc2_w 152, 3) := by decide +kernel
theorem dX10_drawOf_12 : decode cX10_drawOf 12 = .ok (.ladd, 1) := by decide +kernel
theorem dX10_drawOf_13 : decode cX10_drawOf 13 = .ok (.ldc2_w 154, 3) := by decide +kernel
theorem dX10_drawOf_16 : decode cX10_drawOf 16 = .ok (.lrem, 1) := by decide +kernel
theorem dX10_drawOf_17 : decode cX10_drawOf 17 = .ok (.putfield 146, 3) := by decide +kernel
theorem dX10_drawOf_20 : decode cX10_drawOf 20 = .ok (.aload_n 0, 1) := by decide +kernel
theorem dX10_drawOf_21 : decode cX10_drawOf 21 = .ok (.getfield 146, 3) := by decide +kernel
theorem dX10_drawOf_24 : decode cX10_drawOf 24 = .ok (.ldc2_w 156, 3) := by decide +kernel
theorem dX10_drawOf_27 : decode cX10_drawOf 27 = .ok (.ldiv, 1) := by decide +kernel
theorem dX10_drawOf_28 : decode cX10_drawOf 28 = .ok (.iload_n 1, 1) := by decide +kernel
theorem dX10_drawOf_29 : decode cX10_drawOf 29 = .ok (.i2l, 1) := by decide +kernel
theorem dX10_drawOf_30 : decode cX10_drawOf 30 = .ok (.lrem, 1) := by decide +kernel
theorem dX10_drawOf_31 : decode cX10_drawOf 31 = .ok (.l2i, 1) := by decide +kernel
theorem dX10_drawOf_32 : decode cX10_drawOf 32 = .ok (.ireturn, 1) := by decide +kernel
set_option maxRecDepth 20000 in
theorem ggX10_drift_X10_in : GoodIn wsX10_drift wsX10_in := goodIn_r _ [6] (by decide +kernel) (by decide +kernel)
set_option maxRecDepth 20000 in
theorem gX10_drift_X10_in : GoodIn wsX10_drift (va_wsS RX10 42 yX10_in wsX10_in) := goodIn_app (goodIn_of _ (by decide +kernel)) ggX10_drift_X10_in
set_option maxRecDepth 20000 in
theorem ggX10_drift_X10_notes : GoodIn wsX10_drift wsX10_notes := goodIn_r _ [10, 11, 12, 2, 26, 27, 28, 29, 30, 31, 32, 33, 34, 35, 36, 37, 38] (by decide +kernel) (by decide +kernel)
set_option maxRecDepth 20000 in
theorem gX10_drift_X10_notes : GoodIn wsX10_drift (wsV RX10 132 RX10 yX10_notes wsX10_notes) := goodIn_app (goodIn_of _ (by decide +kernel)) ggX10_drift_X10_notes
set_option maxRecDepth 20000 in
theorem ggX10_drift_X10_drawOf : GoodIn wsX10_drift wsX10_drawOf := goodIn_r _ [16, 17, 18, 19, 20, 21, 26, 27, 28, 29, 30, 31, 32, 33, 34, 35, 36, 37, 38] (by decide +kernel) (by decide +kernel)
set_option maxRecDepth 20000 in
theorem gX10_drift_X10_drawOf : GoodIn wsX10_drift (wsV RX10 158 RX10 yX10_drawOf wsX10_drawOf) := goodIn_app (goodIn_of _ (by decide +kernel)) ggX10_drift_X10_drawOf
set_option maxRecDepth 20000 in
theorem ggX10_drift_X10_puts : GoodIn wsX10_drift wsX10_puts := goodIn_r _ [25, 2, 26, 27, 28, 29, 30, 31, 32, 33, 34, 35, 36, 37, 38] (by decide +kernel) (by decide +kernel)
set_option maxRecDepth 20000 in
theorem gX10_drift_X10_puts : GoodIn wsX10_drift (wsV RX10 139 RX10 yX10_puts wsX10_puts) := goodIn_app (goodIn_of _ (by decide +kernel)) ggX10_drift_X10_puts
theorem dX10_drift_0 : decode cX10_drift 0 = .ok (.iload_n 1, 1) := by decide +kernel
theorem dX10_drift_1 : decode cX10_drift 1 = .ok (.iconst 1, 1) := by decide +kernel
theorem dX10_drift_2 : decode cX10_drift 2 = .ok (.bipush 12, 2) := by decide +kernel
theorem dX10_drift_4 : decode cX10_drift 4 = .ok (.invokestatic 42, 3) := by decide +kernel
theorem dX10_drift_7 : decode cX10_drift 7 = .ok (.ifCond .ne 6, 3) := by decide +kernel
theorem dX10_drift_10 : decode cX10_drift 10 = .ok (.ldc 112, 2) := by decide +kernel
theorem dX10_drift_12 : decode cX10_drift 12 = .ok (.ireturn, 1) := by decide +kernel
theorem dX10_drift_13 : decode cX10_drift 13 = .ok (.iconst 0, 1) := by decide +kernel
theorem dX10_drift_14 : decode cX10_drift 14 = .ok (.istore_n 2, 1) := by decide +kernel
theorem dX10_drift_15 : decode cX10_drift 15 = .ok (.iload_n 2, 1) := by decide +kernel
theorem dX10_drift_16 : decode cX10_drift 16 = .ok (.iload_n 1, 1) := by decide +kernel
theorem dX10_drift_17 : decode cX10_drift 17 = .ok (.if_icmp .ge 81, 3) := by decide +kernel
theorem dX10_drift_20 : decode cX10_drift 20 = .ok (.aload_n 0, 1) := by decide +kernel
theorem dX10_drift_21 : decode cX10_drift 21 = .ok (.getfield 7, 3) := by decide +kernel
theorem dX10_drift_24 : decode cX10_drift 24 = .ok (.iconst 0, 1) := by decide +kernel
theorem dX10_drift_25 : decode cX10_drift 25 = .ok (.iaload, 1) := by decide +kernel
theorem dX10_drift_26 : decode cX10_drift 26 = .ok (.bipush 12, 2) := by decide +kernel
theorem dX10_drift_28 : decode cX10_drift 28 = .ok (.if_icmp .ge 70, 3) := by decide +kernel
theorem dX10_drift_31 : decode cX10_drift 31 = .ok (.aload_n 0, 1) := by decide +kernel
theorem dX10_drift_32 : decode cX10_drift 32 = .ok (.invokevirtual 132, 3) := by decide +kernel
theorem dX10_drift_35 : decode cX10_drift 35 = .ok (.aload_n 0, 1) := by decide +kernel
theorem dX10_drift_36 : decode cX10_drift 36 = .ok (.bipush 32, 2) := by decide +kernel
theorem dX10_drift_38 : decode cX10_drift 38 = .ok (.invokevirtual 158, 3) := by decide +kernel
theorem dX10_drift_41 : decode cX10_drift 41 = .ok (.istore_n 3, 1) := by decide +kernel
theorem dX10_drift_42 : decode cX10_drift 42 = .ok (.aload_n 0, 1) := by decide +kernel
theorem dX10_drift_43 : decode cX10_drift 43 = .ok (.bipush 24, 2) := by decide +kernel
theorem dX10_drift_45 : decode cX10_drift 45 = .ok (.invokevirtual 158, 3) := by decide +kernel
theorem dX10_drift_48 : decode cX10_drift 48 = .ok (.istore 4, 2) := by decide +kernel
theorem dX10_drift_50 : decode cX10_drift 50 = .ok (.aload_n 0, 1) := by decide +kernel
theorem dX10_drift_51 : decode cX10_drift 51 = .ok (.iconst 4, 1) := by decide +kernel
theorem dX10_drift_52 : decode cX10_drift 52 = .ok (.invokevirtual 158, 3) := by decide +kernel
theorem dX10_drift_55 : decode cX10_drift 55 = .ok (.istore 5, 2) := by decide +kernel
theorem dX10_drift_57 : decode cX10_drift 57 = .ok (.aload_n 0, 1) := by decide +kernel
theorem dX10_drift_58 : decode cX10_drift 58 = .ok (.iconst 4, 1) := by decide +kernel
theorem dX10_drift_59 : decode cX10_drift 59 = .ok (.invokevirtual 158, 3) := by decide +kernel
theorem dX10_drift_62 : decode cX10_drift 62 = .ok (.istore 6, 2) := by decide +kernel
theorem dX10_drift_64 : decode cX10_drift 64 = .ok (.aload_n 0, 1) := by decide +kernel
theorem dX10_drift_65 : decode cX10_drift 65 = .ok (.iconst 4, 1) := by decide +kernel
theorem dX10_drift_66 : decode cX10_drift 66 = .ok (.invokevirtual 158, 3) := by decide +kernel
theorem dX10_drift_69 : decode cX10_drift 69 = .ok (.istore 7, 2) := by decide +kernel
theorem dX10_drift_71 : decode cX10_drift 71 = .ok (.aload_n 0, 1) := by decide +kernel
theorem dX10_drift_72 : decode cX10_drift 72 = .ok (.iload_n 3, 1) := by decide +kernel
theorem dX10_drift_73 : decode cX10_drift 73 = .ok (.iload 4, 2) := by decide +kernel
theorem dX10_drift_75 : decode cX10_drift 75 = .ok (.iload 5, 2) := by decide +kernel
theorem dX10_drift_77 : decode cX10_drift 77 = .ok (.iload 6, 2) := by decide +kernel
theorem dX10_drift_79 : decode cX10_drift 79 = .ok (.iload 7, 2) := by decide +kernel
theorem dX10_drift_81 : decode cX10_drift 81 = .ok (.iconst 1, 1) := by decide +kernel
theorem dX10_drift_82 : decode cX10_drift 82 = .ok (.aload_n 0, 1) := by decide +kernel
theorem dX10_drift_83 : decode cX10_drift 83 = .ok (.bipush 7, 2) := by decide +kernel
theorem dX10_drift_85 : decode cX10_drift 85 = .ok (.invokevirtual 158, 3) := by decide +kernel
theorem dX10_drift_88 : decode cX10_drift 88 = .ok (.iadd, 1) := by decide +kernel
theorem dX10_drift_89 : decode cX10_drift 89 = .ok (.invokevirtual 139, 3) := by decide +kernel
theorem dX10_drift_92 : decode cX10_drift 92 = .ok (.iinc 2 1, 3) := by decide +kernel
theorem dX10_drift_95 : decode cX10_drift 95 = .ok (.goto (-80), 3) := by decide +kernel
theorem dX10_drift_98 : decode cX10_drift 98 = .ok (.aload_n 0, 1) := by decide +kernel
theorem dX10_drift_99 : decode cX10_drift 99 = .ok (.getfield 7, 3) := by decide +kernel
theorem dX10_drift_102 : decode cX10_drift 102 = .ok (.iconst 0, 1) := by decide +kernel
theorem dX10_drift_103 : decode cX10_drift 103 = .ok (.iaload, 1) := by decide +kernel
theorem dX10_drift_104 : decode cX10_drift 104 = .ok (.ireturn, 1) := by decide +kernel
set_option maxRecDepth 20000 in
theorem ggX10_undo_X10_in : GoodIn wsX10_undo wsX10_in := goodIn_r _ [9] (by decide +kernel) (by decide +kernel)
set_option maxRecDepth 20000 in
theorem gX10_undo_X10_in : GoodIn wsX10_undo (va_wsS RX10 42 yX10_in wsX10_in) := goodIn_app (goodIn_of _ (by decide +kernel)) ggX10_undo_X10_in
theorem dX10_undo_0 : decode cX10_undo 0 = .ok (.iload_n 1, 1) := by decide +kernel
theorem dX10_undo_1 : decode cX10_undo 1 = .ok (.iconst 1, 1) := by decide +kernel
theorem dX10_undo_2 : decode cX10_undo 2 = .ok (.bipush 20, 2) := by decide +kernel
theorem dX10_undo_4 : decode cX10_undo 4 = .ok (.invokestatic 42, 3) := by decide +kernel
theorem dX10_undo_7 : decode cX10_undo 7 = .ok (.ifCond .ne 6, 3) := by decide +kernel
theorem dX10_undo_10 : decode cX10_undo 10 = .ok (.ldc 112, 2) := by decide +kernel
theorem dX10_undo_12 : decode cX10_undo 12 = .ok (.ireturn, 1) := by decide +kernel
theorem dX10_undo_13 : decode cX10_undo 13 = .ok (.iload_n 1, 1) := by decide +kernel
theorem dX10_undo_14 : decode cX10_undo 14 = .ok (.aload_n 0, 1) := by decide +kernel
theorem dX10_undo_15 : decode cX10_undo 15 = .ok (.getfield 46, 3) := by decide +kernel
theorem dX10_undo_18 : decode cX10_undo 18 = .ok (.if_icmp .le 6, 3) := by decide +kernel
theorem dX10_undo_21 : decode cX10_undo 21 = .ok (.ldc 161, 2) := by decide +kernel
theorem dX10_undo_23 : decode cX10_undo 23 = .ok (.ireturn, 1) := by decide +kernel
theorem dX10_undo_24 : decode cX10_undo 24 = .ok (.aload_n 0, 1) := by decide +kernel
theorem dX10_undo_25 : decode cX10_undo 25 = .ok (.dup, 1) := by decide +kernel
theorem dX10_undo_26 : decode cX10_undo 26 = .ok (.getfield 46, 3) := by decide +kernel
theorem dX10_undo_29 : decode cX10_undo 29 = .ok (.iload_n 1, 1) := by decide +kernel
theorem dX10_undo_30 : decode cX10_undo 30 = .ok (.isub, 1) := by decide +kernel
theorem dX10_undo_31 : decode cX10_undo 31 = .ok (.putfield 46, 3) := by decide +kernel
theorem dX10_undo_34 : decode cX10_undo 34 = .ok (.iconst 0, 1) := by decide +kernel
theorem dX10_undo_35 : decode cX10_undo 35 = .ok (.istore_n 2, 1) := by decide +kernel
theorem dX10_undo_36 : decode cX10_undo 36 = .ok (.iload_n 2, 1) := by decide +kernel
theorem dX10_undo_37 : decode cX10_undo 37 = .ok (.sipush 132, 3) := by decide +kernel
theorem dX10_undo_40 : decode cX10_undo 40 = .ok (.if_icmp .ge 30, 3) := by decide +kernel
theorem dX10_undo_43 : decode cX10_undo 43 = .ok (.aload_n 0, 1) := by decide +kernel
theorem dX10_undo_44 : decode cX10_undo 44 = .ok (.getfield 7, 3) := by decide +kernel
theorem dX10_undo_47 : decode cX10_undo 47 = .ok (.iload_n 2, 1) := by decide +kernel
theorem dX10_undo_48 : decode cX10_undo 48 = .ok (.aload_n 0, 1) := by decide +kernel
theorem dX10_undo_49 : decode cX10_undo 49 = .ok (.getfield 16, 3) := by decide +kernel
theorem dX10_undo_52 : decode cX10_undo 52 = .ok (.sipush 132, 3) := by decide +kernel
theorem dX10_undo_55 : decode cX10_undo 55 = .ok (.aload_n 0, 1) := by decide +kernel
theorem dX10_undo_56 : decode cX10_undo 56 = .ok (.getfield 46, 3) := by decide +kernel
theorem dX10_undo_59 : decode cX10_undo 59 = .ok (.imul, 1) := by decide +kernel
theorem dX10_undo_60 : decode cX10_undo 60 = .ok (.iload_n 2, 1) := by decide +kernel
theorem dX10_undo_61 : decode cX10_undo 61 = .ok (.iadd, 1) := by decide +kernel
theorem dX10_undo_62 : decode cX10_undo 62 = .ok (.iaload, 1) := by decide +kernel
theorem dX10_undo_63 : decode cX10_undo 63 = .ok (.iastore, 1) := by decide +kernel
theorem dX10_undo_64 : decode cX10_undo 64 = .ok (.iinc 2 1, 3) := by decide +kernel
theorem dX10_undo_67 : decode cX10_undo 67 = .ok (.goto (-31), 3) := by decide +kernel
theorem dX10_undo_70 : decode cX10_undo 70 = .ok (.aload_n 0, 1) := by decide +kernel
theorem dX10_undo_71 : decode cX10_undo 71 = .ok (.getfield 7, 3) := by decide +kernel
theorem dX10_undo_74 : decode cX10_undo 74 = .ok (.iconst 0, 1) := by decide +kernel
theorem dX10_undo_75 : decode cX10_undo 75 = .ok (.iaload, 1) := by decide +kernel
theorem dX10_undo_76 : decode cX10_undo 76 = .ok (.ireturn, 1) := by decide +kernel
set_option maxRecDepth 20000 in
theorem ggX10_leftOutOf_X10_droppedOf : GoodIn wsX10_leftOutOf wsX10_droppedOf := goodIn_r _ [7, 8, 9, 10, 6, 11, 12, 13, 14, 15, 2, 16, 17, 18, 19, 20, 21, 22, 23, 24, 25, 26, 27, 28, 29, 30, 31, 32, 33, 34, 35, 36, 37, 45, 46, 47, 48, 49, 50, 51, 52, 53, 54, 55, 56, 57] (by decide +kernel) (by decide +kernel)
set_option maxRecDepth 20000 in
theorem gX10_leftOutOf_X10_droppedOf : GoodIn wsX10_leftOutOf (wsV RX10 121 RX10 yX10_droppedOf wsX10_droppedOf) := goodIn_app (goodIn_of _ (by decide +kernel)) ggX10_leftOutOf_X10_droppedOf
set_option maxRecDepth 20000 in
theorem ggX10_leftOutOf_X10_ones : GoodIn wsX10_leftOutOf wsX10_ones := goodIn_r _ [40] (by decide +kernel) (by decide +kernel)
set_option maxRecDepth 20000 in
theorem gX10_leftOutOf_X10_ones : GoodIn wsX10_leftOutOf (va_wsS RX10 91 yX10_ones wsX10_ones) := goodIn_app (goodIn_of _ (by decide +kernel)) ggX10_leftOutOf_X10_ones
set_option maxRecDepth 20000 in
theorem ggX10_leftOutOf_X10_goes : GoodIn wsX10_leftOutOf wsX10_goes := goodIn_r _ [44, 2, 45, 46, 47, 48, 49, 50, 51, 52, 53, 54, 55, 56, 57] (by decide +kernel) (by decide +kernel)
set_option maxRecDepth 20000 in
theorem gX10_leftOutOf_X10_goes : GoodIn wsX10_leftOutOf (wsV RX10 143 RX10 yX10_goes wsX10_goes) := goodIn_app (goodIn_of _ (by decide +kernel)) ggX10_leftOutOf_X10_goes
theorem dX10_leftOutOf_0 : decode cX10_leftOutOf 0 = .ok (.iconst 0, 1) := by decide +kernel
theorem dX10_leftOutOf_1 : decode cX10_leftOutOf 1 = .ok (.istore_n 3, 1) := by decide +kernel
theorem dX10_leftOutOf_2 : decode cX10_leftOutOf 2 = .ok (.iload_n 3, 1) := by decide +kernel
theorem dX10_leftOutOf_3 : decode cX10_leftOutOf 3 = .ok (.sipush 132, 3) := by decide +kernel
theorem dX10_leftOutOf_6 : decode cX10_leftOutOf 6 = .ok (.if_icmp .ge 21, 3) := by decide +kernel
theorem dX10_leftOutOf_9 : decode cX10_leftOutOf 9 = .ok (.aload_n 0, 1) := by decide +kernel
theorem dX10_leftOutOf_10 : decode cX10_leftOutOf 10 = .ok (.getfield 13, 3) := by decide +kernel
theorem dX10_leftOutOf_13 : decode cX10_leftOutOf 13 = .ok (.iload_n 3, 1) := by decide +kernel
theorem dX10_leftOutOf_14 : decode cX10_leftOutOf 14 = .ok (.aload_n 0, 1) := by decide +kernel
theorem dX10_leftOutOf_15 : decode cX10_leftOutOf 15 = .ok (.getfield 7, 3) := by decide +kernel
theorem dX10_leftOutOf_18 : decode cX10_leftOutOf 18 = .ok (.iload_n 3, 1) := by decide +kernel
theorem dX10_leftOutOf_19 : decode cX10_leftOutOf 19 = .ok (.iaload, 1) := by decide +kernel
theorem dX10_leftOutOf_20 : decode cX10_leftOutOf 20 = .ok (.iastore, 1) := by decide +kernel
theorem dX10_leftOutOf_21 : decode cX10_leftOutOf 21 = .ok (.iinc 3 1, 3) := by decide +kernel
theorem dX10_leftOutOf_24 : decode cX10_leftOutOf 24 = .ok (.goto (-22), 3) := by decide +kernel
theorem dX10_leftOutOf_27 : decode cX10_leftOutOf 27 = .ok (.iconst 0, 1) := by decide +kernel
theorem dX10_leftOutOf_28 : decode cX10_leftOutOf 28 = .ok (.istore_n 3, 1) := by decide +kernel
theorem dX10_leftOutOf_29 : decode cX10_leftOutOf 29 = .ok (.iconst 0, 1) := by decide +kernel
theorem dX10_leftOutOf_30 : decode cX10_leftOutOf 30 = .ok (.istore 4, 2) := by decide +kernel
theorem dX10_leftOutOf_32 : decode cX10_leftOutOf 32 = .ok (.iload 4, 2) := by decide +kernel
theorem dX10_leftOutOf_34 : decode cX10_leftOutOf 34 = .ok (.iload_n 2, 1) := by decide +kernel
theorem dX10_leftOutOf_35 : decode cX10_leftOutOf 35 = .ok (.if_icmp .ge 24, 3) := by decide +kernel
theorem dX10_leftOutOf_38 : decode cX10_leftOutOf 38 = .ok (.iload_n 3, 1) := by decide +kernel
theorem dX10_leftOutOf_39 : decode cX10_leftOutOf 39 = .ok (.aload_n 0, 1) := by decide +kernel
theorem dX10_leftOutOf_40 : decode cX10_leftOutOf 40 = .ok (.iload_n 1, 1) := by decide +kernel
theorem dX10_leftOutOf_41 : decode cX10_leftOutOf 41 = .ok (.invokevirtual 121, 3) := by decide +kernel
theorem dX10_leftOutOf_44 : decode cX10_leftOutOf 44 = .ok (.invokestatic 91, 3) := by decide +kernel
theorem dX10_leftOutOf_47 : decode cX10_leftOutOf 47 = .ok (.iadd, 1) := by decide +kernel
theorem dX10_leftOutOf_48 : decode cX10_leftOutOf 48 = .ok (.istore_n 3, 1) := by decide +kernel
theorem dX10_leftOutOf_49 : decode cX10_leftOutOf 49 = .ok (.aload_n 0, 1) := by decide +kernel
theorem dX10_leftOutOf_50 : decode cX10_leftOutOf 50 = .ok (.invokevirtual 143, 3) := by decide +kernel
theorem dX10_leftOutOf_53 : decode cX10_leftOutOf 53 = .ok (.iinc 4 1, 3) := by decide +kernel
theorem dX10_leftOutOf_56 : decode cX10_leftOutOf 56 = .ok (.goto (-24), 3) := by decide +kernel
theorem dX10_leftOutOf_59 : decode cX10_leftOutOf 59 = .ok (.iconst 0, 1) := by decide +kernel
theorem dX10_leftOutOf_60 : decode cX10_leftOutOf 60 = .ok (.istore 4, 2) := by decide +kernel
theorem dX10_leftOutOf_62 : decode cX10_leftOutOf 62 = .ok (.iload 4, 2) := by decide +kernel
theorem dX10_leftOutOf_64 : decode cX10_leftOutOf 64 = .ok (.sipush 132, 3) := by decide +kernel
theorem dX10_leftOutOf_67 : decode cX10_leftOutOf 67 = .ok (.if_icmp .ge 23, 3) := by decide +kernel
theorem dX10_leftOutOf_70 : decode cX10_leftOutOf 70 = .ok (.aload_n 0, 1) := by decide +kernel
theorem dX10_leftOutOf_71 : decode cX10_leftOutOf 71 = .ok (.getfield 7, 3) := by decide +kernel
theorem dX10_leftOutOf_74 : decode cX10_leftOutOf 74 = .ok (.iload 4, 2) := by decide +kernel
theorem dX10_leftOutOf_76 : decode cX10_leftOutOf 76 = .ok (.aload_n 0, 1) := by decide +kernel
theorem dX10_leftOutOf_77 : decode cX10_leftOutOf 77 = .ok (.getfield 13, 3) := by decide +kernel
theorem dX10_leftOutOf_80 : decode cX10_leftOutOf 80 = .ok (.iload 4, 2) := by decide +kernel
theorem dX10_leftOutOf_82 : decode cX10_leftOutOf 82 = .ok (.iaload, 1) := by decide +kernel
theorem dX10_leftOutOf_83 : decode cX10_leftOutOf 83 = .ok (.iastore, 1) := by decide +kernel
theorem dX10_leftOutOf_84 : decode cX10_leftOutOf 84 = .ok (.iinc 4 1, 3) := by decide +kernel
theorem dX10_leftOutOf_87 : decode cX10_leftOutOf 87 = .ok (.goto (-25), 3) := by decide +kernel
theorem dX10_leftOutOf_90 : decode cX10_leftOutOf 90 = .ok (.iload_n 3, 1) := by decide +kernel
theorem dX10_leftOutOf_91 : decode cX10_leftOutOf 91 = .ok (.ireturn, 1) := by decide +kernel
set_option maxRecDepth 20000 in
theorem ggX10_leftOut_X10_isThing : GoodIn wsX10_leftOut wsX10_isThing := goodIn_r _ [7, 8, 9, 10, 6, 11, 55, 56, 57, 58, 59, 60, 61, 62, 63, 64, 65, 66, 67] (by decide +kernel) (by decide +kernel)
set_option maxRecDepth 20000 in
theorem gX10_leftOut_X10_isThing : GoodIn wsX10_leftOut (wsV RX10 113 RX10 yX10_isThing wsX10_isThing) := goodIn_app (goodIn_of _ (by decide +kernel)) ggX10_leftOut_X10_isThing
set_option maxRecDepth 20000 in
theorem ggX10_leftOut_X10_in : GoodIn wsX10_leftOut wsX10_in := goodIn_r _ [11] (by decide +kernel) (by decide +kernel)
set_option maxRecDepth 20000 in
theorem gX10_leftOut_X10_in : GoodIn wsX10_leftOut (va_wsS RX10 42 yX10_in wsX10_in) := goodIn_app (goodIn_of _ (by decide +kernel)) ggX10_leftOut_X10_in
set_option maxRecDepth 20000 in
theorem ggX10_leftOut_X10_leftOutOf : GoodIn wsX10_leftOut wsX10_leftOutOf := goodIn_r _ [15, 16, 8, 17, 18, 19, 6, 20, 21, 22, 23, 24, 25, 26, 27, 28, 9, 10, 11, 29, 30, 31, 32, 33, 34, 35, 36, 37, 38, 39, 40, 41, 42, 43, 44, 45, 46, 47, 48, 49, 50, 51, 52, 53, 54, 55, 56, 57, 58, 59, 60, 61, 62, 63, 64, 65, 66, 67] (by decide +kernel) (by decide +kernel)
set_option maxRecDepth 20000 in
theorem gX10_leftOut_X10_leftOutOf : GoodIn wsX10_leftOut (wsV RX10 162 RX10 yX10_leftOutOf wsX10_leftOutOf) := goodIn_app (goodIn_of _ (by decide +kernel)) ggX10_leftOut_X10_leftOutOf
theorem dX10_leftOut_0 : decode cX10_leftOut 0 = .ok (.aload_n 0, 1) := by decide +kernel
theorem dX10_leftOut_1 : decode cX10_leftOut 1 = .ok (.iload_n 1, 1) := by decide +kernel
theorem dX10_leftOut_2 : decode cX10_leftOut 2 = .ok (.invokevirtual 113, 3) := by decide +kernel
theorem dX10_leftOut_5 : decode cX10_leftOut 5 = .ok (.ifCond .ne 8, 3) := by decide +kernel
theorem dX10_leftOut_8 : decode cX10_leftOut 8 = .ok (.ldc 117, 2) := by decide +kernel
theorem dX10_leftOut_10 : decode cX10_leftOut 10 = .ok (.goto 24, 3) := by decide +kernel
theorem dX10_leftOut_13 : decode cX10_leftOut 13 = .ok (.iload_n 2, 1) := by decide +kernel
theorem dX10_leftOut_14 : decode cX10_leftOut 14 = .ok (.iconst 1, 1) := by decide +kernel
theorem dX10_leftOut_15 : decode cX10_leftOut 15 = .ok (.bipush 40, 2) := by decide +kernel
theorem dX10_leftOut_17 : decode cX10_leftOut 17 = .ok (.invokestatic 42, 3) := by decide +kernel
theorem dX10_leftOut_20 : decode cX10_leftOut 20 = .ok (.ifCond .eq 12, 3) := by decide +kernel
theorem dX10_leftOut_23 : decode cX10_leftOut 23 = .ok (.aload_n 0, 1) := by decide +kernel
theorem dX10_leftOut_24 : decode cX10_leftOut 24 = .ok (.iload_n 1, 1) := by decide +kernel
theorem dX10_leftOut_25 : decode cX10_leftOut 25 = .ok (.iload_n 2, 1) := by decide +kernel
theorem dX10_leftOut_26 : decode cX10_leftOut 26 = .ok (.invokevirtual 162, 3) := by decide +kernel
theorem dX10_leftOut_29 : decode cX10_leftOut 29 = .ok (.goto 5, 3) := by decide +kernel
theorem dX10_leftOut_32 : decode cX10_leftOut 32 = .ok (.ldc 112, 2) := by decide +kernel
theorem dX10_leftOut_34 : decode cX10_leftOut 34 = .ok (.ireturn, 1) := by decide +kernel
set_option maxRecDepth 20000 in
theorem ggX10_worst_X10_in : GoodIn wsX10_worst wsX10_in := goodIn_r _ [6] (by decide +kernel) (by decide +kernel)
set_option maxRecDepth 20000 in
theorem gX10_worst_X10_in : GoodIn wsX10_worst (va_wsS RX10 42 yX10_in wsX10_in) := goodIn_app (goodIn_of _ (by decide +kernel)) ggX10_worst_X10_in
set_option maxRecDepth 20000 in
theorem ggX10_worst_X10_leftOutOf : GoodIn wsX10_worst wsX10_leftOutOf := goodIn_r _ [10, 11, 2, 12, 13, 14, 5, 15, 16, 17, 18, 19, 20, 21, 22, 23, 3, 4, 6, 24, 25, 26, 27, 28, 29, 30, 31, 32, 33, 34, 35, 36, 37, 38, 39, 40, 41, 42, 43, 44, 45, 46, 47, 48, 49, 50, 51, 52, 53, 54, 55, 56, 57, 58, 59, 60, 61, 62] (by decide +kernel) (by decide +kernel)
set_option maxRecDepth 20000 in
theorem gX10_worst_X10_leftOutOf : GoodIn wsX10_worst (wsV RX10 162 RX10 yX10_leftOutOf wsX10_leftOutOf) := goodIn_app (goodIn_of _ (by decide +kernel)) ggX10_worst_X10_leftOutOf
theorem dX10_worst_0 : decode cX10_worst 0 = .ok (.iload_n 1, 1) := by decide +kernel
theorem dX10_worst_1 : decode cX10_worst 1 = .ok (.iconst 1, 1) := by decide +kernel
theorem dX10_worst_2 : decode cX10_worst 2 = .ok (.bipush 40, 2) := by decide +kernel
theorem dX10_worst_4 : decode cX10_worst 4 = .ok (.invokestatic 42, 3) := by decide +kernel
theorem dX10_worst_7 : decode cX10_worst 7 = .ok (.ifCond .ne 6, 3) := by decide +kernel
theorem dX10_worst_10 : decode cX10_worst 10 = .ok (.ldc 112, 2) := by decide +kernel
theorem dX10_worst_12 : decode cX10_worst 12 = .ok (.ireturn, 1) := by decide +kernel
theorem dX10_worst_13 : decode cX10_worst 13 = .ok (.iconst (-1), 1) := by decide +kernel
theorem dX10_worst_14 : decode cX10_worst 14 = .ok (.istore_n 2, 1) := by decide +kernel
theorem dX10_worst_15 : decode cX10_worst 15 = .ok (.iconst 0, 1) := by decide +kernel
theorem dX10_worst_16 : decode cX10_worst 16 = .ok (.istore_n 3, 1) := by decide +kernel
theorem dX10_worst_17 : decode cX10_worst 17 = .ok (.iconst 0, 1) := by decide +kernel
theorem dX10_worst_18 : decode cX10_worst 18 = .ok (.istore 4, 2) := by decide +kernel
theorem dX10_worst_20 : decode cX10_worst 20 = .ok (.iload 4, 2) := by decide +kernel
theorem dX10_worst_22 : decode cX10_worst 22 = .ok (.aload_n 0, 1) := by decide +kernel
theorem dX10_worst_23 : decode cX10_worst 23 = .ok (.getfield 7, 3) := by decide +kernel
theorem dX10_worst_26 : decode cX10_worst 26 = .ok (.iconst 0, 1) := by decide +kernel
theorem dX10_worst_27 : decode cX10_worst 27 = .ok (.iaload, 1) := by decide +kernel
theorem dX10_worst_28 : decode cX10_worst 28 = .ok (.if_icmp .ge 44, 3) := by decide +kernel
theorem dX10_worst_31 : decode cX10_worst 31 = .ok (.aload_n 0, 1) := by decide +kernel
theorem dX10_worst_32 : decode cX10_worst 32 = .ok (.iload 4, 2) := by decide +kernel
theorem dX10_worst_34 : decode cX10_worst 34 = .ok (.iload_n 1, 1) := by decide +kernel
theorem dX10_worst_35 : decode cX10_worst 35 = .ok (.invokevirtual 162, 3) := by decide +kernel
theorem dX10_worst_38 : decode cX10_worst 38 = .ok (.istore 5, 2) := by decide +kernel
theorem dX10_worst_40 : decode cX10_worst 40 = .ok (.iload 5, 2) := by decide +kernel
theorem dX10_worst_42 : decode cX10_worst 42 = .ok (.iload_n 3, 1) := by decide +kernel
theorem dX10_worst_43 : decode cX10_worst 43 = .ok (.if_icmp .le 8, 3) := by decide +kernel
theorem dX10_worst_46 : decode cX10_worst 46 = .ok (.iload 4, 2) := by decide +kernel
theorem dX10_worst_48 : decode cX10_worst 48 = .ok (.goto 4, 3) := by decide +kernel
theorem dX10_worst_51 : decode cX10_worst 51 = .ok (.iload_n 2, 1) := by decide +kernel
theorem dX10_worst_52 : decode cX10_worst 52 = .ok (.istore_n 2, 1) := by decide +kernel
theorem dX10_worst_53 : decode cX10_worst 53 = .ok (.iload 5, 2) := by decide +kernel
theorem dX10_worst_55 : decode cX10_worst 55 = .ok (.iload_n 3, 1) := by decide +kernel
theorem dX10_worst_56 : decode cX10_worst 56 = .ok (.if_icmp .le 8, 3) := by decide +kernel
theorem dX10_worst_59 : decode cX10_worst 59 = .ok (.iload 5, 2) := by decide +kernel
theorem dX10_worst_61 : decode cX10_worst 61 = .ok (.goto 4, 3) := by decide +kernel
theorem dX10_worst_64 : decode cX10_worst 64 = .ok (.iload_n 3, 1) := by decide +kernel
theorem dX10_worst_65 : decode cX10_worst 65 = .ok (.istore_n 3, 1) := by decide +kernel
theorem dX10_worst_66 : decode cX10_worst 66 = .ok (.iinc 4 1, 3) := by decide +kernel
theorem dX10_worst_69 : decode cX10_worst 69 = .ok (.goto (-49), 3) := by decide +kernel
theorem dX10_worst_72 : decode cX10_worst 72 = .ok (.iload_n 2, 1) := by decide +kernel
theorem dX10_worst_73 : decode cX10_worst 73 = .ok (.ireturn, 1) := by decide +kernel
set_option maxRecDepth 20000 in
theorem ggX10_write_X10_in : GoodIn wsX10_write wsX10_in := goodIn_r _ [8] (by decide +kernel) (by decide +kernel)
set_option maxRecDepth 20000 in
theorem gX10_write_X10_in : GoodIn wsX10_write (va_wsS RX10 42 yX10_in wsX10_in) := goodIn_app (goodIn_of _ (by decide +kernel)) ggX10_write_X10_in
theorem dX10_write_0 : decode cX10_write 0 = .ok (.iload_n 1, 1) := by decide +kernel
theorem dX10_write_1 : decode cX10_write 1 = .ok (.iconst 0, 1) := by decide +kernel
theorem dX10_write_2 : decode cX10_write 2 = .ok (.bipush 23, 2) := by decide +kernel
theorem dX10_write_4 : decode cX10_write 4 = .ok (.invokestatic 42, 3) := by decide +kernel
theorem dX10_write_7 : decode cX10_write 7 = .ok (.ifCond .eq 23, 3) := by decide +kernel
theorem dX10_write_10 : decode cX10_write 10 = .ok (.iload_n 2, 1) := by decide +kernel
theorem dX10_write_11 : decode cX10_write 11 = .ok (.iconst 0, 1) := by decide +kernel
theorem dX10_write_12 : decode cX10_write 12 = .ok (.bipush 31, 2) := by decide +kernel
theorem dX10_write_14 : decode cX10_write 14 = .ok (.invokestatic 42, 3) := by decide +kernel
theorem dX10_write_17 : decode cX10_write 17 = .ok (.ifCond .eq 13, 3) := by decide +kernel
theorem dX10_write_20 : decode cX10_write 20 = .ok (.iload_n 3, 1) := by decide +kernel
theorem dX10_write_21 : decode cX10_write 21 = .ok (.iconst 0, 1) := by decide +kernel
theorem dX10_write_22 : decode cX10_write 22 = .ok (.bipush 7, 2) := by decide +kernel
theorem dX10_write_24 : decode cX10_write 24 = .ok (.invokestatic 42, 3) := by decide +kernel
theorem dX10_write_27 : decode cX10_write 27 = .ok (.ifCond .ne 6, 3) := by decide +kernel
theorem dX10_write_30 : decode cX10_write 30 = .ok (.ldc 112, 2) := by decide +kernel
theorem dX10_write_32 : decode cX10_write 32 = .ok (.ireturn, 1) := by decide +kernel
theorem dX10_write_33 : decode cX10_write 33 = .ok (.aload_n 0, 1) := by decide +kernel
theorem dX10_write_34 : decode cX10_write 34 = .ok (.getfield 94, 3) := by decide +kernel
theorem dX10_write_37 : decode cX10_write 37 = .ok (.bipush 20, 2) := by decide +kernel
theorem dX10_write_39 : decode cX10_write 39 = .ok (.if_icmp .ne 6, 3) := by decide +kernel
theorem dX10_write_42 : decode cX10_write 42 = .ok (.ldc 138, 2) := by decide +kernel
theorem dX10_write_44 : decode cX10_write 44 = .ok (.ireturn, 1) := by decide +kernel
theorem dX10_write_45 : decode cX10_write 45 = .ok (.aload_n 0, 1) := by decide +kernel
theorem dX10_write_46 : decode cX10_write 46 = .ok (.getfield 30, 3) := by decide +kernel
theorem dX10_write_49 : decode cX10_write 49 = .ok (.iconst 3, 1) := by decide +kernel
theorem dX10_write_50 : decode cX10_write 50 = .ok (.aload_n 0, 1) := by decide +kernel
theorem dX10_write_51 : decode cX10_write 51 = .ok (.getfield 94, 3) := by decide +kernel
theorem dX10_write_54 : decode cX10_write 54 = .ok (.imul, 1) := by decide +kernel
theorem dX10_write_55 : decode cX10_write 55 = .ok (.iload_n 1, 1) := by decide +kernel
theorem dX10_write_56 : decode cX10_write 56 = .ok (.iastore, 1) := by decide +kernel
theorem dX10_write_57 : decode cX10_write 57 = .ok (.aload_n 0, 1) := by decide +kernel
theorem dX10_write_58 : decode cX10_write 58 = .ok (.getfield 30, 3) := by decide +kernel
theorem dX10_write_61 : decode cX10_write 61 = .ok (.iconst 3, 1) := by decide +kernel
theorem dX10_write_62 : decode cX10_write 62 = .ok (.aload_n 0, 1) := by decide +kernel
theorem dX10_write_63 : decode cX10_write 63 = .ok (.getfield 94, 3) := by decide +kernel
theorem dX10_write_66 : decode cX10_write 66 = .ok (.imul, 1) := by decide +kernel
theorem dX10_write_67 : decode cX10_write 67 = .ok (.iconst 1, 1) := by decide +kernel
theorem dX10_write_68 : decode cX10_write 68 = .ok (.iadd, 1) := by decide +kernel
theorem dX10_write_69 : decode cX10_write 69 = .ok (.iload_n 2, 1) := by decide +kernel
theorem dX10_write_70 : decode cX10_write 70 = .ok (.iastore, 1) := by decide +kernel
theorem dX10_write_71 : decode cX10_write 71 = .ok (.aload_n 0, 1) := by decide +kernel
theorem dX10_write_72 : decode cX10_write 72 = .ok (.getfield 30, 3) := by decide +kernel
theorem dX10_write_75 : decode cX10_write 75 = .ok (.iconst 3, 1) := by decide +kernel
theorem dX10_write_76 : decode cX10_write 76 = .ok (.aload_n 0, 1) := by decide +kernel
theorem dX10_write_77 : decode cX10_write 77 = .ok (.getfield 94, 3) := by decide +kernel
theorem dX10_write_80 : decode cX10_write 80 = .ok (.imul, 1) := by decide +kernel
theorem dX10_write_81 : decode cX10_write 81 = .ok (.iconst 2, 1) := by decide +kernel
theorem dX10_write_82 : decode cX10_write 82 = .ok (.iadd, 1) := by decide +kernel
theorem dX10_write_83 : decode cX10_write 83 = .ok (.iload_n 3, 1) := by decide +kernel
theorem dX10_write_84 : decode cX10_write 84 = .ok (.iastore, 1) := by decide +kernel
theorem dX10_write_85 : decode cX10_write 85 = .ok (.aload_n 0, 1) := by decide +kernel
theorem dX10_write_86 : decode cX10_write 86 = .ok (.dup, 1) := by decide +kernel
theorem dX10_write_87 : decode cX10_write 87 = .ok (.getfield 94, 3) := by decide +kernel
theorem dX10_write_90 : decode cX10_write 90 = .ok (.iconst 1, 1) := by decide +kernel
theorem dX10_write_91 : decode cX10_write 91 = .ok (.iadd, 1) := by decide +kernel
theorem dX10_write_92 : decode cX10_write 92 = .ok (.putfield 94, 3) := by decide +kernel
theorem dX10_write_95 : decode cX10_write 95 = .ok (.aload_n 0, 1) := by decide +kernel
theorem dX10_write_96 : decode cX10_write 96 = .ok (.getfield 94, 3) := by decide +kernel
theorem dX10_write_99 : decode cX10_write 99 = .ok (.ireturn, 1) := by decide +kernel
theorem dX10_tear_0 : decode cX10_tear 0 = .ok (.aload_n 0, 1) := by decide +kernel
theorem dX10_tear_1 : decode cX10_tear 1 = .ok (.getfield 94, 3) := by decide +kernel
theorem dX10_tear_4 : decode cX10_tear 4 = .ok (.istore_n 1, 1) := by decide +kernel
theorem dX10_tear_5 : decode cX10_tear 5 = .ok (.aload_n 0, 1) := by decide +kernel
theorem dX10_tear_6 : decode cX10_tear 6 = .ok (.iconst 0, 1) := by decide +kernel
theorem dX10_tear_7 : decode cX10_tear 7 = .ok (.putfield 94, 3) := by decide +kernel
theorem dX10_tear_10 : decode cX10_tear 10 = .ok (.iload_n 1, 1) := by decide +kernel
theorem dX10_tear_11 : decode cX10_tear 11 = .ok (.ireturn, 1) := by decide +kernel
theorem dX10_seed_0 : decode cX10_seed 0 = .ok (.iload_n 1, 1) := by decide +kernel
theorem dX10_seed_1 : decode cX10_seed 1 = .ok (.ifCond .ge 6, 3) := by decide +kernel
theorem dX10_seed_4 : decode cX10_seed 4 = .ok (.ldc 112, 2) := by decide +kernel
theorem dX10_seed_6 : decode cX10_seed 6 = .ok (.ireturn, 1) := by decide +kernel
theorem dX10_seed_7 : decode cX10_seed 7 = .ok (.aload_n 0, 1) := by decide +kernel
theorem dX10_seed_8 : decode cX10_seed 8 = .ok (.getfield 146, 3) := by decide +kernel
theorem dX10_seed_11 : decode cX10_seed 11 = .ok (.l2i, 1) := by decide +kernel
theorem dX10_seed_12 : decode cX10_seed 12 = .ok (.istore_n 2, 1) := by decide +kernel
theorem dX10_seed_13 : decode cX10_seed 13 = .ok (.aload_n 0, 1) := by decide +kernel
theorem dX10_seed_14 : decode cX10_seed 14 = .ok (.iload_n 1, 1) := by decide +kernel
theorem dX10_seed_15 : decode cX10_seed 15 = .ok (.i2l, 1) := by decide +kernel
theorem dX10_seed_16 : decode cX10_seed 16 = .ok (.putfield 146, 3) := by decide +kernel
theorem dX10_seed_19 : decode cX10_seed 19 = .ok (.iload_n 2, 1) := by decide +kernel
theorem dX10_seed_20 : decode cX10_seed 20 = .ok (.ireturn, 1) := by decide +kernel
set_option maxRecDepth 20000 in
theorem ggX10_keep_X10_in : GoodIn wsX10_keep wsX10_in := goodIn_r _ [11] (by decide +kernel) (by decide +kernel)
set_option maxRecDepth 20000 in
theorem gX10_keep_X10_in : GoodIn wsX10_keep (va_wsS RX10 42 yX10_in wsX10_in) := goodIn_app (goodIn_of _ (by decide +kernel)) ggX10_keep_X10_in
theorem dX10_keep_0 : decode cX10_keep 0 = .ok (.iload_n 1, 1) := by decide +kernel
theorem dX10_keep_1 : decode cX10_keep 1 = .ok (.iconst 0, 1) := by decide +kernel
theorem dX10_keep_2 : decode cX10_keep 2 = .ok (.iconst 1, 1) := by decide +kernel
theorem dX10_keep_3 : decode cX10_keep 3 = .ok (.invokestatic 42, 3) := by decide +kernel
theorem dX10_keep_6 : decode cX10_keep 6 = .ok (.ifCond .ne 6, 3) := by decide +kernel
theorem dX10_keep_9 : decode cX10_keep 9 = .ok (.ldc 117, 2) := by decide +kernel
theorem dX10_keep_11 : decode cX10_keep 11 = .ok (.ireturn, 1) := by decide +kernel
theorem dX10_keep_12 : decode cX10_keep 12 = .ok (.iconst 0, 1) := by decide +kernel
theorem dX10_keep_13 : decode cX10_keep 13 = .ok (.istore_n 2, 1) := by decide +kernel
theorem dX10_keep_14 : decode cX10_keep 14 = .ok (.iload_n 2, 1) := by decide +kernel
theorem dX10_keep_15 : decode cX10_keep 15 = .ok (.sipush 132, 3) := by decide +kernel
theorem dX10_keep_18 : decode cX10_keep 18 = .ok (.if_icmp .ge 27, 3) := by decide +kernel
theorem dX10_keep_21 : decode cX10_keep 21 = .ok (.aload_n 0, 1) := by decide +kernel
theorem dX10_keep_22 : decode cX10_keep 22 = .ok (.getfield 19, 3) := by decide +kernel
theorem dX10_keep_25 : decode cX10_keep 25 = .ok (.sipush 132, 3) := by decide +kernel
theorem dX10_keep_28 : decode cX10_keep 28 = .ok (.iload_n 1, 1) := by decide +kernel
theorem dX10_keep_29 : decode cX10_keep 29 = .ok (.imul, 1) := by decide +kernel
theorem dX10_keep_30 : decode cX10_keep 30 = .ok (.iload_n 2, 1) := by decide +kernel
theorem dX10_keep_31 : decode cX10_keep 31 = .ok (.iadd, 1) := by decide +kernel
theorem dX10_keep_32 : decode cX10_keep 32 = .ok (.aload_n 0, 1) := by decide +kernel
theorem dX10_keep_33 : decode cX10_keep 33 = .ok (.getfield 7, 3) := by decide +kernel
theorem dX10_keep_36 : decode cX10_keep 36 = .ok (.iload_n 2, 1) := by decide +kernel
theorem dX10_keep_37 : decode cX10_keep 37 = .ok (.iaload, 1) := by decide +kernel
theorem dX10_keep_38 : decode cX10_keep 38 = .ok (.iastore, 1) := by decide +kernel
theorem dX10_keep_39 : decode cX10_keep 39 = .ok (.iinc 2 1, 3) := by decide +kernel
theorem dX10_keep_42 : decode cX10_keep 42 = .ok (.goto (-28), 3) := by decide +kernel
theorem dX10_keep_45 : decode cX10_keep 45 = .ok (.aload_n 0, 1) := by decide +kernel
theorem dX10_keep_46 : decode cX10_keep 46 = .ok (.getfield 22, 3) := by decide +kernel
theorem dX10_keep_49 : decode cX10_keep 49 = .ok (.iload_n 1, 1) := by decide +kernel
theorem dX10_keep_50 : decode cX10_keep 50 = .ok (.aload_n 0, 1) := by decide +kernel
theorem dX10_keep_51 : decode cX10_keep 51 = .ok (.getfield 146, 3) := by decide +kernel
theorem dX10_keep_54 : decode cX10_keep 54 = .ok (.lastore, 1) := by decide +kernel
theorem dX10_keep_55 : decode cX10_keep 55 = .ok (.aload_n 0, 1) := by decide +kernel
theorem dX10_keep_56 : decode cX10_keep 56 = .ok (.getfield 26, 3) := by decide +kernel
theorem dX10_keep_59 : decode cX10_keep 59 = .ok (.iload_n 1, 1) := by decide +kernel
theorem dX10_keep_60 : decode cX10_keep 60 = .ok (.iconst 1, 1) := by decide +kernel
theorem dX10_keep_61 : decode cX10_keep 61 = .ok (.bastore, 1) := by decide +kernel
theorem dX10_keep_62 : decode cX10_keep 62 = .ok (.aload_n 0, 1) := by decide +kernel
theorem dX10_keep_63 : decode cX10_keep 63 = .ok (.iconst 0, 1) := by decide +kernel
theorem dX10_keep_64 : decode cX10_keep 64 = .ok (.putfield 46, 3) := by decide +kernel
theorem dX10_keep_67 : decode cX10_keep 67 = .ok (.iconst 1, 1) := by decide +kernel
theorem dX10_keep_68 : decode cX10_keep 68 = .ok (.ireturn, 1) := by decide +kernel
set_option maxRecDepth 20000 in
theorem ggX10_goBack_X10_in : GoodIn wsX10_goBack wsX10_in := goodIn_r _ [12] (by decide +kernel) (by decide +kernel)
set_option maxRecDepth 20000 in
theorem gX10_goBack_X10_in : GoodIn wsX10_goBack (va_wsS RX10 42 yX10_in wsX10_in) := goodIn_app (goodIn_of _ (by decide +kernel)) ggX10_goBack_X10_in
theorem dX10_goBack_0 : decode cX10_goBack 0 = .ok (.iload_n 1, 1) := by decide +kernel
theorem dX10_goBack_1 : decode cX10_goBack 1 = .ok (.iconst 0, 1) := by decide +kernel
theorem dX10_goBack_2 : decode cX10_goBack 2 = .ok (.iconst 1, 1) := by decide +kernel
theorem dX10_goBack_3 : decode cX10_goBack 3 = .ok (.invokestatic 42, 3) := by decide +kernel
theorem dX10_goBack_6 : decode cX10_goBack 6 = .ok (.ifCond .ne 6, 3) := by decide +kernel
theorem dX10_goBack_9 : decode cX10_goBack 9 = .ok (.ldc 117, 2) := by decide +kernel
theorem dX10_goBack_11 : decode cX10_goBack 11 = .ok (.ireturn, 1) := by decide +kernel
theorem dX10_goBack_12 : decode cX10_goBack 12 = .ok (.aload_n 0, 1) := by decide +kernel
theorem dX10_goBack_13 : decode cX10_goBack 13 = .ok (.getfield 26, 3) := by decide +kernel
theorem dX10_goBack_16 : decode cX10_goBack 16 = .ok (.iload_n 1, 1) := by decide +kernel
theorem dX10_goBack_17 : decode cX10_goBack 17 = .ok (.baload, 1) := by decide +kernel
theorem dX10_goBack_18 : decode cX10_goBack 18 = .ok (.ifCond .ne 6, 3) := by decide +kernel
theorem dX10_goBack_21 : decode cX10_goBack 21 = .ok (.ldc 161, 2) := by decide +kernel
theorem dX10_goBack_23 : decode cX10_goBack 23 = .ok (.ireturn, 1) := by decide +kernel
theorem dX10_goBack_24 : decode cX10_goBack 24 = .ok (.iconst 0, 1) := by decide +kernel
theorem dX10_goBack_25 : decode cX10_goBack 25 = .ok (.istore_n 2, 1) := by decide +kernel
theorem dX10_goBack_26 : decode cX10_goBack 26 = .ok (.iload_n 2, 1) := by decide +kernel
theorem dX10_goBack_27 : decode cX10_goBack 27 = .ok (.sipush 132, 3) := by decide +kernel
theorem dX10_goBack_30 : decode cX10_goBack 30 = .ok (.if_icmp .ge 27, 3) := by decide +kernel
theorem dX10_goBack_33 : decode cX10_goBack 33 = .ok (.aload_n 0, 1) := by decide +kernel
theorem dX10_goBack_34 : decode cX10_goBack 34 = .ok (.getfield 7, 3) := by decide +kernel
theorem dX10_goBack_37 : decode cX10_goBack 37 = .ok (.iload_n 2, 1) := by decide +kernel
theorem dX10_goBack_38 : decode cX10_goBack 38 = .ok (.aload_n 0, 1) := by decide +kernel
theorem dX10_goBack_39 : decode cX10_goBack 39 = .ok (.getfield 19, 3) := by decide +kernel
theorem dX10_goBack_42 : decode cX10_goBack 42 = .ok (.sipush 132, 3) := by decide +kernel
theorem dX10_goBack_45 : decode cX10_goBack 45 = .ok (.iload_n 1, 1) := by decide +kernel
theorem dX10_goBack_46 : decode cX10_goBack 46 = .ok (.imul, 1) := by decide +kernel
theorem dX10_goBack_47 : decode cX10_goBack 47 = .ok (.iload_n 2, 1) := by decide +kernel
theorem dX10_goBack_48 : decode cX10_goBack 48 = .ok (.iadd, 1) := by decide +kernel
theorem dX10_goBack_49 : decode cX10_goBack 49 = .ok (.iaload, 1) := by decide +kernel
theorem dX10_goBack_50 : decode cX10_goBack 50 = .ok (.iastore, 1) := by decide +kernel
theorem dX10_goBack_51 : decode cX10_goBack 51 = .ok (.iinc 2 1, 3) := by decide +kernel
theorem dX10_goBack_54 : decode cX10_goBack 54 = .ok (.goto (-28), 3) := by decide +kernel
theorem dX10_goBack_57 : decode cX10_goBack 57 = .ok (.aload_n 0, 1) := by decide +kernel
theorem dX10_goBack_58 : decode cX10_goBack 58 = .ok (.aload_n 0, 1) := by decide +kernel
theorem dX10_goBack_59 : decode cX10_goBack 59 = .ok (.getfield 22, 3) := by decide +kernel
theorem dX10_goBack_62 : decode cX10_goBack 62 = .ok (.iload_n 1, 1) := by decide +kernel
theorem dX10_goBack_63 : decode cX10_goBack 63 = .ok (.laload, 1) := by decide +kernel
theorem dX10_goBack_64 : decode cX10_goBack 64 = .ok (.putfield 146, 3) := by decide +kernel
theorem dX10_goBack_67 : decode cX10_goBack 67 = .ok (.aload_n 0, 1) := by decide +kernel
theorem dX10_goBack_68 : decode cX10_goBack 68 = .ok (.iconst 0, 1) := by decide +kernel
theorem dX10_goBack_69 : decode cX10_goBack 69 = .ok (.putfield 46, 3) := by decide +kernel
theorem dX10_goBack_72 : decode cX10_goBack 72 = .ok (.iconst 1, 1) := by decide +kernel
theorem dX10_goBack_73 : decode cX10_goBack 73 = .ok (.ireturn, 1) := by decide +kernel
