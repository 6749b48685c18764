theorem dX4_greatestSum_5 : decode cX4_greatestSum 5 = .ok (.iaload, 1) := by decide +kernel
theorem dX4_greatestSum_6 : decode cX4_greatestSum 6 = .ok (.istore_n 1, 1) := by decide +kernel
theorem dX4_greatestSum_7 : decode cX4_greatestSum 7 = .ok (.iconst 1, 1) := by decide +kernel
theorem dX4_greatestSum_8 : decode cX4_greatestSum 8 = .ok (.istore_n 2, 1) := by decide +kernel
theorem dX4_greatestSum_9 : decode cX4_greatestSum 9 = .ok (.iload_n 2, 1) := by decide +kernel
theorem dX4_greatestSum_10 : decode cX4_greatestSum 10 = .ok (.bipush 81, 2) := by decide +kernel
theorem dX4_greatestSum_12 : decode cX4_greatestSum 12 = .ok (.if_icmp .ge 20, 3) := by decide +kernel
theorem dX4_greatestSum_15 : decode cX4_greatestSum 15 = .ok (.iload_n 1, 1) := by decide +kernel
theorem dX4_greatestSum_16 : decode cX4_greatestSum 16 = .ok (.aload_n 0, 1) := by decide +kernel
theorem dX4_greatestSum_17 : decode cX4_greatestSum 17 = .ok (.getfield 15, 3) := by decide +kernel
theorem dX4_greatestSum_20 : decode cX4_greatestSum 20 = .ok (.iload_n 2, 1) := by decide +kernel
theorem dX4_greatestSum_21 : decode cX4_greatestSum 21 = .ok (.iaload, 1) := by decide +kernel
theorem dX4_greatestSum_22 : decode cX4_greatestSum 22 = .ok (.invokestatic 28, 3) := by decide +kernel
theorem dX4_greatestSum_25 : decode cX4_greatestSum 25 = .ok (.istore_n 1, 1) := by decide +kernel
theorem dX4_greatestSum_26 : decode cX4_greatestSum 26 = .ok (.iinc 2 1, 3) := by decide +kernel
theorem dX4_greatestSum_29 : decode cX4_greatestSum 29 = .ok (.goto (-20), 3) := by decide +kernel
theorem dX4_greatestSum_32 : decode cX4_greatestSum 32 = .ok (.iload_n 1, 1) := by decide +kernel
theorem dX4_greatestSum_33 : decode cX4_greatestSum 33 = .ok (.ireturn, 1) := by decide +kernel
theorem dX4_leastSum_0 : decode cX4_leastSum 0 = .ok (.aload_n 0, 1) := by decide +kernel
theorem dX4_leastSum_1 : decode cX4_leastSum 1 = .ok (.getfield 15, 3) := by decide +kernel
theorem dX4_leastSum_4 : decode cX4_leastSum 4 = .ok (.iconst 0, 1) := by decide +kernel
theorem dX4_leastSum_5 : decode cX4_leastSum 5 = .ok (.iaload, 1) := by decide +kernel
theorem dX4_leastSum_6 : decode cX4_leastSum 6 = .ok (.istore_n 1, 1) := by decide +kernel
theorem dX4_leastSum_7 : decode cX4_leastSum 7 = .ok (.iconst 1, 1) := by decide +kernel
theorem dX4_leastSum_8 : decode cX4_leastSum 8 = .ok (.istore_n 2, 1) := by decide +kernel
theorem dX4_leastSum_9 : decode cX4_leastSum 9 = .ok (.iload_n 2, 1) := by decide +kernel
theorem dX4_leastSum_10 : decode cX4_leastSum 10 = .ok (.bipush 81, 2) := by decide +kernel
theorem dX4_leastSum_12 : decode cX4_leastSum 12 = .ok (.if_icmp .ge 20, 3) := by decide +kernel
theorem dX4_leastSum_15 : decode cX4_leastSum 15 = .ok (.iload_n 1, 1) := by decide +kernel
theorem dX4_leastSum_16 : decode cX4_leastSum 16 = .ok (.aload_n 0, 1) := by decide +kernel
theorem dX4_leastSum_17 : decode cX4_leastSum 17 = .ok (.getfield 15, 3) := by decide +kernel
theorem dX4_leastSum_20 : decode cX4_leastSum 20 = .ok (.iload_n 2, 1) := by decide +kernel
theorem dX4_leastSum_21 : decode cX4_leastSum 21 = .ok (.iaload, 1) := by decide +kernel
theorem dX4_leastSum_22 : decode cX4_leastSum 22 = .ok (.invokestatic 33, 3) := by decide +kernel
theorem dX4_leastSum_25 : decode cX4_leastSum 25 = .ok (.istore_n 1, 1) := by decide +kernel
theorem dX4_leastSum_26 : decode cX4_leastSum 26 = .ok (.iinc 2 1, 3) := by decide +kernel
theorem dX4_leastSum_29 : decode cX4_leastSum 29 = .ok (.goto (-20), 3) := by decide +kernel
theorem dX4_leastSum_32 : decode cX4_leastSum 32 = .ok (.iload_n 1, 1) := by decide +kernel
theorem dX4_leastSum_33 : decode cX4_leastSum 33 = .ok (.ireturn, 1) := by decide +kernel
set_option maxRecDepth 20000 in
theorem ggX5_init_X1_init : GoodIn wsX5_init wsX1_init := goodIn_r _ [9, 10, 2, 3] (by decide +kernel) (by decide +kernel)
set_option maxRecDepth 20000 in
theorem gX5_init_X1_init_n11 : GoodIn wsX5_init (wsX1_init) := ggX5_init_X1_init
theorem dX5_init_0 : decode cX5_init 0 = .ok (.aload_n 0, 1) := by decide +kernel
theorem dX5_init_1 : decode cX5_init 1 = .ok (.invokespecial 3, 3) := by decide +kernel
theorem dX5_init_4 : decode cX5_init 4 = .ok (.aload_n 0, 1) := by decide +kernel
theorem dX5_init_5 : decode cX5_init 5 = .ok (.new 9, 3) := by decide +kernel
theorem dX5_init_8 : decode cX5_init 8 = .ok (.dup, 1) := by decide +kernel
theorem dX5_init_9 : decode cX5_init 9 = .ok (.invokespecial 11, 3) := by decide +kernel
theorem dX5_init_12 : decode cX5_init 12 = .ok (.putfield 12, 3) := by decide +kernel
theorem dX5_init_15 : decode cX5_init 15 = .ok (.return_, 1) := by decide +kernel
set_option maxRecDepth 20000 in
theorem ggX5_run_X3_copyFrom : GoodIn wsX5_run wsX3_copyFrom := goodIn_r _ [12, 13, 14, 15, 16, 17, 18, 19, 20, 21, 107, 108, 109, 110, 111] (by decide +kernel) (by decide +kernel)
set_option maxRecDepth 20000 in
theorem gX5_run_X3_copyFrom : GoodIn wsX5_run (wsV RX5 18 RX3 yX3_copyFrom wsX3_copyFrom) := goodIn_app (goodIn_of _ (by decide +kernel)) ggX5_run_X3_copyFrom
set_option maxRecDepth 20000 in
theorem ggX5_run_X1_readFrom : GoodIn wsX5_run wsX1_readFrom := goodIn_r _ [26, 27, 28, 29, 30, 31, 32, 33, 34, 35, 36, 37, 38, 39, 25, 40, 41, 42, 43, 44, 45, 46, 47, 48, 49, 50, 51, 52, 53, 54, 55, 56, 57, 58, 59, 60, 61, 62, 63, 64, 65, 66, 100, 101, 102, 103, 104, 105, 106, 98, 99] (by decide +kernel) (by decide +kernel)
set_option maxRecDepth 20000 in
theorem gX5_run_X1_readFrom : GoodIn wsX5_run (wsV RX5 42 RX1 yX1_readFrom wsX1_readFrom) := goodIn_app (goodIn_of _ (by decide +kernel)) ggX5_run_X1_readFrom
set_option maxRecDepth 20000 in
theorem ggX5_run_X1_runOn : GoodIn wsX5_run wsX1_runOn := goodIn_r _ [70, 27, 28, 29, 71, 49, 50, 51, 72, 73, 74, 75, 76, 77, 78, 79, 80, 81, 82, 83, 84, 85, 86, 87, 11, 88, 20, 19, 89, 90, 91, 92, 13, 18, 100, 101, 102, 103, 104, 105, 106, 107, 108, 109, 110, 111] (by decide +kernel) (by decide +kernel)
set_option maxRecDepth 20000 in
theorem gX5_run_X1_runOn : GoodIn wsX5_run (wsV RX5 46 RX1 yX1_runOn wsX1_runOn) := goodIn_app (goodIn_of _ (by decide +kernel)) ggX5_run_X1_runOn
theorem dX5_run_0 : decode cX5_run 0 = .ok (.aload_n 3, 1) := by decide +kernel
theorem dX5_run_1 : decode cX5_run 1 = .ok (.aload_n 2, 1) := by decide +kernel
theorem dX5_run_2 : decode cX5_run 2 = .ok (.invokevirtual 18, 3) := by decide +kernel
theorem dX5_run_5 : decode cX5_run 5 = .ok (.aload_n 0, 1) := by decide +kernel
theorem dX5_run_6 : decode cX5_run 6 = .ok (.iconst 0, 1) := by decide +kernel
theorem dX5_run_7 : decode cX5_run 7 = .ok (.putfield 24, 3) := by decide +kernel
theorem dX5_run_10 : decode cX5_run 10 = .ok (.aload_n 0, 1) := by decide +kernel
theorem dX5_run_11 : decode cX5_run 11 = .ok (.iconst 0, 1) := by decide +kernel
theorem dX5_run_12 : decode cX5_run 12 = .ok (.putfield 28, 3) := by decide +kernel
theorem dX5_run_15 : decode cX5_run 15 = .ok (.aload_n 0, 1) := by decide +kernel
theorem dX5_run_16 : decode cX5_run 16 = .ok (.iconst 0, 1) := by decide +kernel
theorem dX5_run_17 : decode cX5_run 17 = .ok (.putfield 31, 3) := by decide +kernel
theorem dX5_run_20 : decode cX5_run 20 = .ok (.aload_n 0, 1) := by decide +kernel
theorem dX5_run_21 : decode cX5_run 21 = .ok (.iconst 0, 1) := by decide +kernel
theorem dX5_run_22 : decode cX5_run 22 = .ok (.putfield 34, 3) := by decide +kernel
theorem dX5_run_25 : decode cX5_run 25 = .ok (.iconst 0, 1) := by decide +kernel
theorem dX5_run_26 : decode cX5_run 26 = .ok (.istore 4, 2) := by decide +kernel
theorem dX5_run_28 : decode cX5_run 28 = .ok (.iload 4, 2) := by decide +kernel
theorem dX5_run_30 : decode cX5_run 30 = .ok (.bipush 60, 2) := by decide +kernel
theorem dX5_run_32 : decode cX5_run 32 = .ok (.if_icmp .ge 106, 3) := by decide +kernel
theorem dX5_run_35 : decode cX5_run 35 = .ok (.aload_n 0, 1) := by decide +kernel
theorem dX5_run_36 : decode cX5_run 36 = .ok (.getfield 28, 3) := by decide +kernel
theorem dX5_run_39 : decode cX5_run 39 = .ok (.aload_n 1, 1) := by decide +kernel
theorem dX5_run_40 : decode cX5_run 40 = .ok (.getfield 37, 3) := by decide +kernel
theorem dX5_run_43 : decode cX5_run 43 = .ok (.if_icmp .ge 95, 3) := by decide +kernel
theorem dX5_run_46 : decode cX5_run 46 = .ok (.aload_n 0, 1) := by decide +kernel
theorem dX5_run_47 : decode cX5_run 47 = .ok (.getfield 31, 3) := by decide +kernel
theorem dX5_run_50 : decode cX5_run 50 = .ok (.ifCond .ne 88, 3) := by decide +kernel
theorem dX5_run_53 : decode cX5_run 53 = .ok (.aload_n 0, 1) := by decide +kernel
theorem dX5_run_54 : decode cX5_run 54 = .ok (.getfield 12, 3) := by decide +kernel
theorem dX5_run_57 : decode cX5_run 57 = .ok (.aload_n 1, 1) := by decide +kernel
theorem dX5_run_58 : decode cX5_run 58 = .ok (.aload_n 0, 1) := by decide +kernel
theorem dX5_run_59 : decode cX5_run 59 = .ok (.getfield 28, 3) := by decide +kernel
theorem dX5_run_62 : decode cX5_run 62 = .ok (.invokevirtual 42, 3) := by decide +kernel
theorem dX5_run_65 : decode cX5_run 65 = .ok (.ifCond .eq 34, 3) := by decide +kernel
theorem dX5_run_68 : decode cX5_run 68 = .ok (.aload_n 0, 1) := by decide +kernel
theorem dX5_run_69 : decode cX5_run 69 = .ok (.aload_n 0, 1) := by decide +kernel
theorem dX5_run_70 : decode cX5_run 70 = .ok (.getfield 12, 3) := by decide +kernel
theorem dX5_run_73 : decode cX5_run 73 = .ok (.aload_n 3, 1) := by decide +kernel
theorem dX5_run_74 : decode cX5_run 74 = .ok (.invokevirtual 46, 3) := by decide +kernel
theorem dX5_run_77 : decode cX5_run 77 = .ok (.putfield 34, 3) := by decide +kernel
theorem dX5_run_80 : decode cX5_run 80 = .ok (.aload_n 0, 1) := by decide +kernel
theorem dX5_run_81 : decode cX5_run 81 = .ok (.aload_n 0, 1) := by decide +kernel
theorem dX5_run_82 : decode cX5_run 82 = .ok (.getfield 34, 3) := by decide +kernel
theorem dX5_run_85 : decode cX5_run 85 = .ok (.ifCond .ne 7, 3) := by decide +kernel
theorem dX5_run_88 : decode cX5_run 88 = .ok (.iconst 0, 1) := by decide +kernel
theorem dX5_run_89 : decode cX5_run 89 = .ok (.goto 4, 3) := by decide +kernel
theorem dX5_run_92 : decode cX5_run 92 = .ok (.iconst 2, 1) := by decide +kernel
theorem dX5_run_93 : decode cX5_run 93 = .ok (.putfield 31, 3) := by decide +kernel
theorem dX5_run_96 : decode cX5_run 96 = .ok (.goto 8, 3) := by decide +kernel
theorem dX5_run_99 : decode cX5_run 99 = .ok (.aload_n 0, 1) := by decide +kernel
theorem dX5_run_100 : decode cX5_run 100 = .ok (.iconst 1, 1) := by decide +kernel
theorem dX5_run_101 : decode cX5_run 101 = .ok (.putfield 31, 3) := by decide +kernel
theorem dX5_run_104 : decode cX5_run 104 = .ok (.aload_n 0, 1) := by decide +kernel
theorem dX5_run_105 : decode cX5_run 105 = .ok (.getfield 31, 3) := by decide +kernel
theorem dX5_run_108 : decode cX5_run 108 = .ok (.ifCond .ne 24, 3) := by decide +kernel
theorem dX5_run_111 : decode cX5_run 111 = .ok (.aload_n 0, 1) := by decide +kernel
theorem dX5_run_112 : decode cX5_run 112 = .ok (.aload_n 0, 1) := by decide +kernel
theorem dX5_run_113 : decode cX5_run 113 = .ok (.getfield 12, 3) := by decide +kernel
theorem dX5_run_116 : decode cX5_run 116 = .ok (.getfield 50, 3) := by decide +kernel
theorem dX5_run_119 : decode cX5_run 119 = .ok (.putfield 28, 3) := by decide +kernel
theorem dX5_run_122 : decode cX5_run 122 = .ok (.aload_n 0, 1) := by decide +kernel
theorem dX5_run_123 : decode cX5_run 123 = .ok (.dup, 1) := by decide +kernel
theorem dX5_run_124 : decode cX5_run 124 = .ok (.getfield 24, 3) := by decide +kernel
theorem dX5_run_127 : decode cX5_run 127 = .ok (.iconst 1, 1) := by decide +kernel
theorem dX5_run_128 : decode cX5_run 128 = .ok (.iadd, 1) := by decide +kernel
theorem dX5_run_129 : decode cX5_run 129 = .ok (.putfield 24, 3) := by decide +kernel
theorem dX5_run_132 : decode cX5_run 132 = .ok (.iinc 4 1, 3) := by decide +kernel
theorem dX5_run_135 : decode cX5_run 135 = .ok (.goto (-107), 3) := by decide +kernel
theorem dX5_run_138 : decode cX5_run 138 = .ok (.return_, 1) := by decide +kernel
theorem dX6_init_0 : decode cX6_init 0 = .ok (.aload_n 0, 1) := by decide +kernel
theorem dX6_init_1 : decode cX6_init 1 = .ok (.invokespecial 3, 3) := by decide +kernel
theorem dX6_init_4 : decode cX6_init 4 = .ok (.aload_n 0, 1) := by decide +kernel
theorem dX6_init_5 : decode cX6_init 5 = .ok (.bipush 60, 2) := by decide +kernel
theorem dX6_init_7 : decode cX6_init 7 = .ok (.newarray .char, 2) := by decide +kernel
theorem dX6_init_9 : decode cX6_init 9 = .ok (.putfield 9, 3) := by decide +kernel
theorem dX6_init_12 : decode cX6_init 12 = .ok (.aload_n 0, 1) := by decide +kernel
theorem dX6_init_13 : decode cX6_init 13 = .ok (.iconst 0, 1) := by decide +kernel
theorem dX6_init_14 : decode cX6_init 14 = .ok (.putfield 15, 3) := by decide +kernel
theorem dX6_init_17 : decode cX6_init 17 = .ok (.return_, 1) := by decide +kernel
theorem dX6_append_0 : decode cX6_append 0 = .ok (.aload_n 0, 1) := by decide +kernel
theorem dX6_append_1 : decode cX6_append 1 = .ok (.getfield 15, 3) := by decide +kernel
theorem dX6_append_4 : decode cX6_append 4 = .ok (.bipush 60, 2) := by decide +kernel
theorem dX6_append_6 : decode cX6_append 6 = .ok (.if_icmp .ge 23, 3) := by decide +kernel
theorem dX6_append_9 : decode cX6_append 9 = .ok (.aload_n 0, 1) := by decide +kernel
theorem dX6_append_10 : decode cX6_append 10 = .ok (.getfield 9, 3) := by decide +kernel
theorem dX6_append_13 : decode cX6_append 13 = .ok (.aload_n 0, 1) := by decide +kernel
theorem dX6_append_14 : decode cX6_append 14 = .ok (.getfield 15, 3) := by decide +kernel
theorem dX6_append_17 : decode cX6_append 17 = .ok (.iload_n 1, 1) := by decide +kernel
theorem dX6_append_18 : decode cX6_append 18 = .ok (.castore, 1) := by decide +kernel
theorem dX6_append_19 : decode cX6_append 19 = .ok (.aload_n 0, 1) := by decide +kernel
theorem dX6_append_20 : decode cX6_append 20 = .ok (.dup, 1) := by decide +kernel
theorem dX6_append_21 : decode cX6_append 21 = .ok (.getfield 15, 3) := by decide +kernel
theorem dX6_append_24 : decode cX6_append 24 = .ok (.iconst 1, 1) := by decide +kernel
theorem dX6_append_25 : decode cX6_append 25 = .ok (.iadd, 1) := by decide +kernel
theorem dX6_append_26 : decode cX6_append 26 = .ok (.putfield 15, 3) := by decide +kernel
theorem dX6_append_29 : decode cX6_append 29 = .ok (.return_, 1) := by decide +kernel
theorem dX6_signAt_0 : decode cX6_signAt 0 = .ok (.iload_n 1, 1) := by decide +kernel
theorem dX6_signAt_1 : decode cX6_signAt 1 = .ok (.ifCond .lt 20, 3) := by decide +kernel
theorem dX6_signAt_4 : decode cX6_signAt 4 = .ok (.iload_n 1, 1) := by decide +kernel
theorem dX6_signAt_5 : decode cX6_signAt 5 = .ok (.aload_n 0, 1) := by decide +kernel
theorem dX6_signAt_6 : decode cX6_signAt 6 = .ok (.getfield 15, 3) := by decide +kernel
theorem dX6_signAt_9 : decode cX6_signAt 9 = .ok (.if_icmp .ge 12, 3) := by decide +kernel
theorem dX6_signAt_12 : decode cX6_signAt 12 = .ok (.aload_n 0, 1) := by decide +kernel
theorem dX6_signAt_13 : decode cX6_signAt 13 = .ok (.getfield 9, 3) := by decide +kernel
theorem dX6_signAt_16 : decode cX6_signAt 16 = .ok (.iload_n 1, 1) := by decide +kernel
theorem dX6_signAt_17 : decode cX6_signAt 17 = .ok (.caload, 1) := by decide +kernel
theorem dX6_signAt_18 : decode cX6_signAt 18 = .ok (.goto 4, 3) := by decide +kernel
theorem dX6_signAt_21 : decode cX6_signAt 21 = .ok (.iconst 0, 1) := by decide +kernel
theorem dX6_signAt_22 : decode cX6_signAt 22 = .ok (.ireturn, 1) := by decide +kernel
set_option maxRecDepth 20000 in
theorem ggX7_init_X3_init : GoodIn wsX7_init wsX3_init := goodIn_r _ [37, 38, 2, 3, 24, 39, 40, 41, 42, 43, 84, 85, 86, 87, 88] (by decide +kernel) (by decide +kernel)
set_option maxRecDepth 20000 in
theorem gX7_init_X3_init : GoodIn wsX7_init (wsX3_init) := ggX7_init_X3_init
set_option maxRecDepth 20000 in
theorem ggX7_init_X2_init : GoodIn wsX7_init wsX2_init := goodIn_r _ [46, 47, 2, 3, 48, 49, 5, 6, 50, 51, 52, 36, 37, 38, 24, 39, 40, 41, 42, 43, 101, 102, 103, 84, 85, 86, 87, 88] (by decide +kernel) (by decide +kernel)
set_option maxRecDepth 20000 in
theorem gX7_init_X2_init : GoodIn wsX7_init (wsX2_init) := ggX7_init_X2_init
set_option maxRecDepth 20000 in
theorem ggX7_init_X0_init : GoodIn wsX7_init wsX0_init := goodIn_r _ [55, 56, 2, 3, 24, 57, 58, 59, 104, 105, 106] (by decide +kernel) (by decide +kernel)
set_option maxRecDepth 20000 in
theorem gX7_init_X0_init : GoodIn wsX7_init (wsX0_init) := ggX7_init_X0_init
set_option maxRecDepth 20000 in
theorem ggX7_init_X4_init : GoodIn wsX7_init wsX4_init := goodIn_r _ [62, 63, 2, 3, 24, 64, 65, 107, 108] (by decide +kernel) (by decide +kernel)
set_option maxRecDepth 20000 in
theorem gX7_init_X4_init : GoodIn wsX7_init (wsX4_init) := ggX7_init_X4_init
set_option maxRecDepth 20000 in
theorem ggX7_init_X6_init : GoodIn wsX7_init wsX6_init := goodIn_r _ [68, 69, 2, 3, 70, 71, 72, 109, 110] (by decide +kernel) (by decide +kernel)
set_option maxRecDepth 20000 in
theorem gX7_init_X6_init : GoodIn wsX7_init (wsX6_init) := ggX7_init_X6_init
set_option maxRecDepth 20000 in
theorem ggX7_init_X5_init : GoodIn wsX7_init wsX5_init := goodIn_r _ [75, 76, 2, 3, 77, 78, 79, 80, 81, 82, 83, 116, 117, 118, 119, 120, 121, 122, 111, 112, 113, 114, 115] (by decide +kernel) (by decide +kernel)
set_option maxRecDepth 20000 in
theorem gX7_init_X5_init : GoodIn wsX7_init (wsX5_init) := ggX7_init_X5_init
theorem dX7_init_0 : decode cX7_init 0 = .ok (.aload_n 0, 1) := by decide +kernel
theorem dX7_init_1 : decode cX7_init 1 = .ok (.invokespecial 1, 3) := by decide +kernel
theorem dX7_init_4 : decode cX7_init 4 = .ok (.aload_n 0, 1) := by decide +kernel
theorem dX7_init_5 : decode cX7_init 5 = .ok (.new 7, 3) := by decide +kernel
theorem dX7_init_8 : decode cX7_init 8 = .ok (.dup, 1) := by decide +kernel
theorem dX7_init_9 : decode cX7_init 9 = .ok (.invokespecial 9, 3) := by decide +kernel
theorem dX7_init_12 : decode cX7_init 12 = .ok (.putfield 10, 3) := by decide +kernel
theorem dX7_init_15 : decode cX7_init 15 = .ok (.aload_n 0, 1) := by decide +kernel
theorem dX7_init_16 : decode cX7_init 16 = .ok (.new 7, 3) := by decide +kernel
theorem dX7_init_19 : decode cX7_init 19 = .ok (.dup, 1) := by decide +kernel
theorem dX7_init_20 : decode cX7_init 20 = .ok (.invokespecial 9, 3) := by decide +kernel
theorem dX7_init_23 : decode cX7_init 23 = .ok (.putfield 16, 3) := by decide +kernel
theorem dX7_init_26 : decode cX7_init 26 = .ok (.aload_n 0, 1) := by decide +kernel
theorem dX7_init_27 : decode cX7_init 27 = .ok (.new 7, 3) := by decide +kernel
theorem dX7_init_30 : decode cX7_init 30 = .ok (.dup, 1) := by decide +kernel
theorem dX7_init_31 : decode cX7_init 31 = .ok (.invokespecial 9, 3) := by decide +kernel
theorem dX7_init_34 : decode cX7_init 34 = .ok (.putfield 19, 3) := by decide +kernel
theorem dX7_init_37 : decode cX7_init 37 = .ok (.aload_n 0, 1) := by decide +kernel
theorem dX7_init_38 : decode cX7_init 38 = .ok (.new 7, 3) := by decide +kernel
theorem dX7_init_41 : decode cX7_init 41 = .ok (.dup, 1) := by decide +kernel
theorem dX7_init_42 : decode cX7_init 42 = .ok (.invokespecial 9, 3) := by decide +kernel
theorem dX7_init_45 : decode cX7_init 45 = .ok (.putfield 22, 3) := by decide +kernel
theorem dX7_init_48 : decode cX7_init 48 = .ok (.aload_n 0, 1) := by decide +kernel
theorem dX7_init_49 : decode cX7_init 49 = .ok (.new 25, 3) := by decide +kernel
theorem dX7_init_52 : decode cX7_init 52 = .ok (.dup, 1) := by decide +kernel
theorem dX7_init_53 : decode cX7_init 53 = .ok (.invokespecial 27, 3) := by decide +kernel
theorem dX7_init_56 : decode cX7_init 56 = .ok (.putfield 28, 3) := by decide +kernel
theorem dX7_init_59 : decode cX7_init 59 = .ok (.aload_n 0, 1) := by decide +kernel
theorem dX7_init_60 : decode cX7_init 60 = .ok (.new 32, 3) := by decide +kernel
theorem dX7_init_63 : decode cX7_init 63 = .ok (.dup, 1) := by decide +kernel
theorem dX7_init_64 : decode cX7_init 64 = .ok (.invokespecial 34, 3) := by decide +kernel
theorem dX7_init_67 : decode cX7_init 67 = .ok (.putfield 35, 3) := by decide +kernel
theorem dX7_init_70 : decode cX7_init 70 = .ok (.aload_n 0, 1) := by decide +kernel
theorem dX7_init_71 : decode cX7_init 71 = .ok (.new 32, 3) := by decide +kernel
theorem dX7_init_74 : decode cX7_init 74 = .ok (.dup, 1) := by decide +kernel
theorem dX7_init_75 : decode cX7_init 75 = .ok (.invokespecial 34, 3) := by decide +kernel
theorem dX7_init_78 : decode cX7_init 78 = .ok (.putfield 39, 3) := by decide +kernel
theorem dX7_init_81 : decode cX7_init 81 = .ok (.aload_n 0, 1) := by decide +kernel
theorem dX7_init_82 : decode cX7_init 82 = .ok (.new 42, 3) := by decide +kernel
theorem dX7_init_85 : decode cX7_init 85 = .ok (.dup, 1) := by decide +kernel
theorem dX7_init_86 : decode cX7_init 86 = .ok (.invokespecial 44, 3) := by decide +kernel
theorem dX7_init_89 : decode cX7_init 89 = .ok (.putfield 45, 3) := by decide +kernel
theorem dX7_init_92 : decode cX7_init 92 = .ok (.aload_n 0, 1) := by decide +kernel
theorem dX7_init_93 : decode cX7_init 93 = .ok (.bipush 20, 2) := by decide +kernel
theorem dX7_init_95 : decode cX7_init 95 = .ok (.newarray .int, 2) := by decide +kernel
theorem dX7_init_97 : decode cX7_init 97 = .ok (.putfield 49, 3) := by decide +kernel
theorem dX7_init_100 : decode cX7_init 100 = .ok (.aload_n 0, 1) := by decide +kernel
theorem dX7_init_101 : decode cX7_init 101 = .ok (.new 53, 3) := by decide +kernel
theorem dX7_init_104 : decode cX7_init 104 = .ok (.dup, 1) := by decide +kernel
theorem dX7_init_105 : decode cX7_init 105 = .ok (.invokespecial 55, 3) := by decide +kernel
theorem dX7_init_108 : decode cX7_init 108 = .ok (.putfield 56, 3) := by decide +kernel
theorem dX7_init_111 : decode cX7_init 111 = .ok (.aload_n 0, 1) := by decide +kernel
theorem dX7_init_112 : decode cX7_init 112 = .ok (.new 60, 3) := by decide +kernel
theorem dX7_init_115 : decode cX7_init 115 = .ok (.dup, 1) := by decide +kernel
theorem dX7_init_116 : decode cX7_init 116 = .ok (.invokespecial 62, 3) := by decide +kernel
theorem dX7_init_119 : decode cX7_init 119 = .ok (.putfield 63, 3) := by decide +kernel
theorem dX7_init_122 : decode cX7_init 122 = .ok (.aload_n 0, 1) := by decide +kernel
theorem dX7_init_123 : decode cX7_init 123 = .ok (.iconst 0, 1) := by decide +kernel
theorem dX7_init_124 : decode cX7_init 124 = .ok (.putfield 67, 3) := by decide +kernel
theorem dX7_init_127 : decode cX7_init 127 = .ok (.return_, 1) := by decide +kernel
set_option maxRecDepth 20000 in
theorem ggX7_hold_X7_isCorner : GoodIn wsX7_hold wsX7_isCorner := goodIn_r _ [7, 8, 9, 6, 10] (by decide +kernel) (by decide +kernel)
set_option maxRecDepth 20000 in
theorem gX7_hold_X7_isCorner : GoodIn wsX7_hold (va_wsS RX7 71 yX7_isCorner wsX7_isCorner) := goodIn_app (goodIn_of _ (by decide +kernel)) ggX7_hold_X7_isCorner
set_option maxRecDepth 20000 in
theorem ggX7_hold_X7_isPartValue : GoodIn wsX7_hold wsX7_isPartValue := goodIn_r _ [13, 8, 9, 6, 10] (by decide +kernel) (by decide +kernel)
set_option maxRecDepth 20000 in
theorem gX7_hold_X7_isPartValue : GoodIn wsX7_hold (va_wsS RX7 75 yX7_isPartValue wsX7_isPartValue) := goodIn_app (goodIn_of _ (by decide +kernel)) ggX7_hold_X7_isPartValue
set_option maxRecDepth 20000 in
theorem ggX7_hold_X7_cornerAt : GoodIn wsX7_hold wsX7_cornerAt := goodIn_r _ [16] (by decide +kernel) (by decide +kernel)
set_option maxRecDepth 20000 in
theorem gX7_hold_X7_cornerAt : GoodIn wsX7_hold (va_wsS RX7 79 yX7_cornerAt wsX7_cornerAt) := goodIn_app (goodIn_of _ (by decide +kernel)) ggX7_hold_X7_cornerAt
set_option maxRecDepth 20000 in
theorem ggX7_hold_X2_record : GoodIn wsX7_hold wsX2_record := goodIn_r _ [21, 22, 23, 24, 25, 26, 27, 28, 29, 30, 31, 32, 33, 34, 35, 36, 37, 38, 60, 61, 62, 55, 56, 57, 58, 59] (by decide +kernel) (by decide +kernel)
set_option maxRecDepth 20000 in
theorem gX7_hold_X2_record : GoodIn wsX7_hold (wsV RX7 86 RX2 yX2_record wsX2_record) := goodIn_app (goodIn_of _ (by decide +kernel)) ggX7_hold_X2_record
set_option maxRecDepth 20000 in
theorem ggX7_hold_X3_holdCorner : GoodIn wsX7_hold wsX3_holdCorner := goodIn_r _ [42, 37, 36, 55, 56, 57, 58, 59] (by decide +kernel) (by decide +kernel)
set_option maxRecDepth 20000 in
theorem gX7_hold_X3_holdCorner : GoodIn wsX7_hold (wsV RX7 90 RX3 yX3_holdCorner wsX3_holdCorner) := goodIn_app (goodIn_of _ (by decide +kernel)) ggX7_hold_X3_holdCorner
theorem dX7_hold_0 : decode cX7_hold 0 = .ok (.iload_n 1, 1) := by decide +kernel
theorem dX7_hold_1 : decode cX7_hold 1 = .ok (.iload_n 2, 1) := by decide +kernel
theorem dX7_hold_2 : decode cX7_hold 2 = .ok (.invokestatic 71, 3) := by decide +kernel
theorem dX7_hold_5 : decode cX7_hold 5 = .ok (.ifCond .eq 26, 3) := by decide +kernel
theorem dX7_hold_8 : decode cX7_hold 8 = .ok (.iload_n 3, 1) := by decide +kernel
theorem dX7_hold_9 : decode cX7_hold 9 = .ok (.invokestatic 75, 3) := by decide +kernel
theorem dX7_hold_12 : decode cX7_hold 12 = .ok (.ifCond .eq 19, 3) := by decide +kernel
theorem dX7_hold_15 : decode cX7_hold 15 = .ok (.iload 4, 2) := by decide +kernel
theorem dX7_hold_17 : decode cX7_hold 17 = .ok (.invokestatic 75, 3) := by decide +kernel
theorem dX7_hold_20 : decode cX7_hold 20 = .ok (.ifCond .eq 11, 3) := by decide +kernel
theorem dX7_hold_23 : decode cX7_hold 23 = .ok (.iload 5, 2) := by decide +kernel
theorem dX7_hold_25 : decode cX7_hold 25 = .ok (.invokestatic 75, 3) := by decide +kernel
theorem dX7_hold_28 : decode cX7_hold 28 = .ok (.ifCond .ne 7, 3) := by decide +kernel
theorem dX7_hold_31 : decode cX7_hold 31 = .ok (.sipush (-1001), 3) := by decide +kernel
theorem dX7_hold_34 : decode cX7_hold 34 = .ok (.ireturn, 1) := by decide +kernel
theorem dX7_hold_35 : decode cX7_hold 35 = .ok (.iload_n 1, 1) := by decide +kernel
theorem dX7_hold_36 : decode cX7_hold 36 = .ok (.iload_n 2, 1) := by decide +kernel
theorem dX7_hold_37 : decode cX7_hold 37 = .ok (.invokestatic 79, 3) := by decide +kernel
theorem dX7_hold_40 : decode cX7_hold 40 = .ok (.istore 6, 2) := by decide +kernel
theorem dX7_hold_42 : decode cX7_hold 42 = .ok (.aload_n 0, 1) := by decide +kernel
theorem dX7_hold_43 : decode cX7_hold 43 = .ok (.getfield 10, 3) := by decide +kernel
theorem dX7_hold_46 : decode cX7_hold 46 = .ok (.getfield 83, 3) := by decide +kernel
theorem dX7_hold_49 : decode cX7_hold 49 = .ok (.iload 6, 2) := by decide +kernel
theorem dX7_hold_51 : decode cX7_hold 51 = .ok (.iaload, 1) := by decide +kernel
theorem dX7_hold_52 : decode cX7_hold 52 = .ok (.istore 7, 2) := by decide +kernel
theorem dX7_hold_54 : decode cX7_hold 54 = .ok (.aload_n 0, 1) := by decide +kernel
theorem dX7_hold_55 : decode cX7_hold 55 = .ok (.getfield 28, 3) := by decide +kernel
theorem dX7_hold_58 : decode cX7_hold 58 = .ok (.aload_n 0, 1) := by decide +kernel
theorem dX7_hold_59 : decode cX7_hold 59 = .ok (.getfield 10, 3) := by decide +kernel
theorem dX7_hold_62 : decode cX7_hold 62 = .ok (.invokevirtual 86, 3) := by decide +kernel
theorem dX7_hold_65 : decode cX7_hold 65 = .ok (.aload_n 0, 1) := by decide +kernel
theorem dX7_hold_66 : decode cX7_hold 66 = .ok (.getfield 10, 3) := by decide +kernel
theorem dX7_hold_69 : decode cX7_hold 69 = .ok (.iload 6, 2) := by decide +kernel
theorem dX7_hold_71 : decode cX7_hold 71 = .ok (.iload_n 3, 1) := by decide +kernel
theorem dX7_hold_72 : decode cX7_hold 72 = .ok (.iload 4, 2) := by decide +kernel
theorem dX7_hold_74 : decode cX7_hold 74 = .ok (.iload 5, 2) := by decide +kernel
theorem dX7_hold_76 : decode cX7_hold 76 = .ok (.invokevirtual 90, 3) := by decide +kernel
theorem dX7_hold_79 : decode cX7_hold 79 = .ok (.iload 7, 2) := by decide +kernel
theorem dX7_hold_81 : decode cX7_hold 81 = .ok (.ireturn, 1) := by decide +kernel
set_option maxRecDepth 20000 in
theorem ggX7_free_X7_refusalOfFreeing : GoodIn wsX7_free wsX7_refusalOfFreeing := goodIn_r _ [7, 3, 8, 9, 6, 10, 11, 12, 13, 14, 15, 16, 55, 56, 57, 58, 59] (by decide +kernel) (by decide +kernel)
set_option maxRecDepth 20000 in
theorem gX7_free_X7_refusalOfFreeing : GoodIn wsX7_free (va_wsS RX7 94 yX7_refusalOfFreeing wsX7_refusalOfFreeing) := goodIn_app (goodIn_of _ (by decide +kernel)) ggX7_free_X7_refusalOfFreeing
set_option maxRecDepth 20000 in
theorem ggX7_free_X2_record : GoodIn wsX7_free wsX2_record := goodIn_r _ [21, 22, 23, 24, 25, 26, 27, 28, 29, 30, 31, 32, 33, 34, 35, 36, 37, 38, 60, 61, 62, 55, 56, 57, 58, 59] (by decide +kernel) (by decide +kernel)
set_option maxRecDepth 20000 in
theorem gX7_free_X2_record : GoodIn wsX7_free (wsV RX7 86 RX2 yX2_record wsX2_record) := goodIn_app (goodIn_of _ (by decide +kernel)) ggX7_free_X2_record
set_option maxRecDepth 20000 in
theorem ggX7_free_X7_cornerAt : GoodIn wsX7_free wsX7_cornerAt := goodIn_r _ [16] (by decide +kernel) (by decide +kernel)
set_option maxRecDepth 20000 in
theorem gX7_free_X7_cornerAt : GoodIn wsX7_free (va_wsS RX7 79 yX7_cornerAt wsX7_cornerAt) := goodIn_app (goodIn_of _ (by decide +kernel)) ggX7_free_X7_cornerAt
set_option maxRecDepth 20000 in
theorem ggX7_free_X3_heldCorners : GoodIn wsX7_free wsX3_heldCorners := goodIn_r _ [42, 37, 55, 56, 57, 58, 59] (by decide +kernel) (by decide +kernel)
set_option maxRecDepth 20000 in
theorem gX7_free_X3_heldCorners : GoodIn wsX7_free (wsV RX7 98 RX3 yX3_heldCorners wsX3_heldCorners) := goodIn_app (goodIn_of _ (by decide +kernel)) ggX7_free_X3_heldCorners
theorem dX7_free_0 : decode cX7_free 0 = .ok (.aload_n 0, 1) := by decide +kernel
theorem dX7_free_1 : decode cX7_free 1 = .ok (.getfield 10, 3) := by decide +kernel
theorem dX7_free_4 : decode cX7_free 4 = .ok (.iload_n 1, 1) := by decide +kernel
theorem dX7_free_5 : decode cX7_free 5 = .ok (.iload_n 2, 1) := by decide +kernel
theorem dX7_free_6 : decode cX7_free 6 = .ok (.invokestatic 94, 3) := by decide +kernel
theorem dX7_free_9 : decode cX7_free 9 = .ok (.istore_n 3, 1) := by decide +kernel
theorem dX7_free_10 : decode cX7_free 10 = .ok (.iload_n 3, 1) := by decide +kernel
theorem dX7_free_11 : decode cX7_free 11 = .ok (.ifCond .eq 5, 3) := by decide +kernel
theorem dX7_free_14 : decode cX7_free 14 = .ok (.iload_n 3, 1) := by decide +kernel
theorem dX7_free_15 : decode cX7_free 15 = .ok (.ireturn, 1) := by decide +kernel
theorem dX7_free_16 : decode cX7_free 16 = .ok (.aload_n 0, 1) := by decide +kernel
theorem dX7_free_17 : decode cX7_free 17 = .ok (.getfield 28, 3) := by decide +kernel
theorem dX7_free_20 : decode cX7_free 20 = .ok (.aload_n 0, 1) := by decide +kernel
theorem dX7_free_21 : decode cX7_free 21 = .ok (.getfield 10, 3) := by decide +kernel
theorem dX7_free_24 : decode cX7_free 24 = .ok (.invokevirtual 86, 3) := by decide +kernel
theorem dX7_free_27 : decode cX7_free 27 = .ok (.aload_n 0, 1) := by decide +kernel
theorem dX7_free_28 : decode cX7_free 28 = .ok (.getfield 10, 3) := by decide +kernel
theorem dX7_free_31 : decode cX7_free 31 = .ok (.getfield 83, 3) := by decide +kernel
theorem dX7_free_34 : decode cX7_free 34 = .ok (.iload_n 1, 1) := by decide +kernel
theorem dX7_free_35 : decode cX7_free 35 = .ok (.iload_n 2, 1) := by decide +kernel
theorem dX7_free_36 : decode cX7_free 36 = .ok (.invokestatic 79, 3) := by decide +kernel
theorem dX7_free_39 : decode cX7_free 39 = .ok (.iconst 0, 1) := by decide +kernel
theorem dX7_free_40 : decode cX7_free 40 = .ok (.iastore, 1) := by decide +kernel
theorem dX7_free_41 : decode cX7_free 41 = .ok (.aload_n 0, 1) := by decide +kernel
theorem dX7_free_42 : decode cX7_free 42 = .ok (.getfield 10, 3) := by decide +kernel
theorem dX7_free_45 : decode cX7_free 45 = .ok (.invokevirtual 98, 3) := by decide +kernel
theorem dX7_free_48 : decode cX7_free 48 = .ok (.ireturn, 1) := by decide +kernel
set_option maxRecDepth 20000 in
theorem ggX7_move_X7_isCorner : GoodIn wsX7_move wsX7_isCorner := goodIn_r _ [6, 7, 8, 5, 9] (by decide +kernel) (by decide +kernel)
set_option maxRecDepth 20000 in
theorem gX7_move_X7_isCorner : GoodIn wsX7_move (va_wsS RX7 71 yX7_isCorner wsX7_isCorner) := goodIn_app (goodIn_of _ (by decide +kernel)) ggX7_move_X7_isCorner
set_option maxRecDepth 20000 in
theorem ggX7_move_X7_isPlace : GoodIn wsX7_move wsX7_isPlace := goodIn_r _ [12, 7, 8, 5, 9] (by decide +kernel) (by decide +kernel)
set_option maxRecDepth 20000 in
theorem gX7_move_X7_isPlace : GoodIn wsX7_move (va_wsS RX7 102 yX7_isPlace wsX7_isPlace) := goodIn_app (goodIn_of _ (by decide +kernel)) ggX7_move_X7_isPlace
set_option maxRecDepth 20000 in
theorem ggX7_move_X2_record : GoodIn wsX7_move wsX2_record := goodIn_r _ [17, 18, 19, 20, 21, 22, 23, 24, 25, 26, 27, 28, 29, 30, 31, 32, 33, 34, 67, 68, 69, 70, 71, 72, 73, 74] (by decide +kernel) (by decide +kernel)
set_option maxRecDepth 20000 in
theorem gX7_move_X2_record : GoodIn wsX7_move (wsV RX7 86 RX2 yX2_record wsX2_record) := goodIn_app (goodIn_of _ (by decide +kernel)) ggX7_move_X2_record
set_option maxRecDepth 20000 in
theorem ggX7_move_X7_cornerAt : GoodIn wsX7_move wsX7_cornerAt := goodIn_r _ [37] (by decide +kernel) (by decide +kernel)
set_option maxRecDepth 20000 in
theorem gX7_move_X7_cornerAt : GoodIn wsX7_move (va_wsS RX7 79 yX7_cornerAt wsX7_cornerAt) := goodIn_app (goodIn_of _ (by decide +kernel)) ggX7_move_X7_cornerAt
set_option maxRecDepth 20000 in
theorem ggX7_move_X3_moveCorner : GoodIn wsX7_move wsX3_moveCorner := goodIn_r _ [41, 26, 31, 70, 71, 72, 73, 74] (by decide +kernel) (by decide +kernel)
set_option maxRecDepth 20000 in
theorem gX7_move_X3_moveCorner : GoodIn wsX7_move (wsV RX7 105 RX3 yX3_moveCorner wsX3_moveCorner) := goodIn_app (goodIn_of _ (by decide +kernel)) ggX7_move_X3_moveCorner
set_option maxRecDepth 20000 in
theorem ggX7_move_X3_foldedPatches : GoodIn wsX7_move wsX3_foldedPatches := goodIn_r _ [45, 46, 47, 48, 24, 49, 26, 31, 50, 5, 51, 52, 53, 54, 35, 36, 37, 70, 71, 72, 73, 74] (by decide +kernel) (by decide +kernel)
set_option maxRecDepth 20000 in
theorem gX7_move_X3_foldedPatches : GoodIn wsX7_move (wsV RX7 109 RX3 yX3_foldedPatches wsX3_foldedPatches) := goodIn_app (goodIn_of _ (by decide +kernel)) ggX7_move_X3_foldedPatches
theorem dX7_move_0 : decode cX7_move 0 = .ok (.iload_n 1, 1) := by decide +kernel
theorem dX7_move_1 : decode cX7_move 1 = .ok (.iload_n 2, 1) := by decide +kernel
theorem dX7_move_2 : decode cX7_move 2 = .ok (.invokestatic 71, 3) := by decide +kernel
theorem dX7_move_5 : decode cX7_move 5 = .ok (.ifCond .eq 12, 3) := by decide +kernel
theorem dX7_move_8 : decode cX7_move 8 = .ok (.iload_n 3, 1) := by decide +kernel
theorem dX7_move_9 : decode cX7_move 9 = .ok (.iload 4, 2) := by decide +kernel
theorem dX7_move_11 : decode cX7_move 11 = .ok (.invokestatic 102, 3) := by decide +kernel
theorem dX7_move_14 : decode cX7_move 14 = .ok (.ifCond .ne 7, 3) := by decide +kernel
theorem dX7_move_17 : decode cX7_move 17 = .ok (.sipush (-1001), 3) := by decide +kernel
theorem dX7_move_20 : decode cX7_move 20 = .ok (.ireturn, 1) := by decide +kernel
theorem dX7_move_21 : decode cX7_move 21 = .ok (.aload_n 0, 1) := by decide +kernel
theorem dX7_move_22 : decode cX7_move 22 = .ok (.getfield 28, 3) := by decide +kernel
theorem dX7_move_25 : decode cX7_move 25 = .ok (.aload_n 0, 1) := by decide +kernel
theorem dX7_move_26 : decode cX7_move 26 = .ok (.getfield 10, 3) := by decide +kernel
theorem dX7_move_29 : decode cX7_move 29 = .ok (.invokevirtual 86, 3) := by decide +kernel
theorem dX7_move_32 : decode cX7_move 32 = .ok (.aload_n 0, 1) := by decide +kernel
theorem dX7_move_33 : decode cX7_move 33 = .ok (.getfield 10, 3) := by decide +kernel
theorem dX7_move_36 : decode cX7_move 36 = .ok (.iload_n 1, 1) := by decide +kernel
theorem dX7_move_37 : decode cX7_move 37 = .ok (.iload_n 2, 1) := by decide +kernel
theorem dX7_move_38 : decode cX7_move 38 = .ok (.invokestatic 79, 3) := by decide +kernel
theorem dX7_move_41 : decode cX7_move 41 = .ok (.iload_n 3, 1) := by decide +kernel
theorem dX7_move_42 : decode cX7_move 42 = .ok (.iload 4, 2) := by decide +kernel
theorem dX7_move_44 : decode cX7_move 44 = .ok (.invokevirtual 105, 3) := by decide +kernel
theorem dX7_move_47 : decode cX7_move 47 = .ok (.aload_n 0, 1) := by decide +kernel
theorem dX7_move_48 : decode cX7_move 48 = .ok (.getfield 10, 3) := by decide +kernel
theorem dX7_move_51 : decode cX7_move 51 = .ok (.invokevirtual 109, 3) := by decide +kernel
theorem dX7_move_54 : decode cX7_move 54 = .ok (.ireturn, 1) := by decide +kernel
set_option maxRecDepth 20000 in
theorem ggX7_slope_X7_isCorner : GoodIn wsX7_slope wsX7_isCorner := goodIn_r _ [7, 8, 9, 6, 10] (by decide +kernel) (by decide +kernel)
set_option maxRecDepth 20000 in
theorem gX7_slope_X7_isCorner : GoodIn wsX7_slope (va_wsS RX7 71 yX7_isCorner wsX7_isCorner) := goodIn_app (goodIn_of _ (by decide +kernel)) ggX7_slope_X7_isCorner
set_option maxRecDepth 20000 in
theorem ggX7_slope_X7_isWithin : GoodIn wsX7_slope wsX7_isWithin := goodIn_r _ [10] (by decide +kernel) (by decide +kernel)
set_option maxRecDepth 20000 in
theorem gX7_slope_X7_isWithin : GoodIn wsX7_slope (va_wsS RX7 112 yX7_isWithin wsX7_isWithin) := goodIn_app (goodIn_of _ (by decide +kernel)) ggX7_slope_X7_isWithin
set_option maxRecDepth 20000 in
theorem ggX7_slope_X7_isPart : GoodIn wsX7_slope wsX7_isPart := goodIn_r _ [13, 8, 9, 6, 10] (by decide +kernel) (by decide +kernel)
set_option maxRecDepth 20000 in
theorem gX7_slope_X7_isPart : GoodIn wsX7_slope (va_wsS RX7 116 yX7_isPart wsX7_isPart) := goodIn_app (goodIn_of _ (by decide +kernel)) ggX7_slope_X7_isPart
set_option maxRecDepth 20000 in
theorem ggX7_slope_X7_cornerAt : GoodIn wsX7_slope wsX7_cornerAt := goodIn_r _ [16] (by decide +kernel) (by decide +kernel)
set_option maxRecDepth 20000 in
theorem gX7_slope_X7_cornerAt : GoodIn wsX7_slope (va_wsS RX7 79 yX7_cornerAt wsX7_cornerAt) := goodIn_app (goodIn_of _ (by decide +kernel)) ggX7_slope_X7_cornerAt
set_option maxRecDepth 20000 in
theorem ggX7_slope_X3_slopeOf : GoodIn wsX7_slope wsX3_slopeOf := goodIn_r _ [21, 22, 23, 6, 24, 25, 26, 27, 20, 28, 29, 30, 31, 32, 33, 34, 35, 36, 37, 70, 71, 72, 73, 74] (by decide +kernel) (by decide +kernel)
set_option maxRecDepth 20000 in
theorem gX7_slope_X3_slopeOf : GoodIn wsX7_slope (wsV RX7 119 RX3 yX3_slopeOf wsX3_slopeOf) := goodIn_app (goodIn_of _ (by decide +kernel)) ggX7_slope_X3_slopeOf
set_option maxRecDepth 20000 in
theorem ggX7_slope_X2_record : GoodIn wsX7_slope wsX2_record := goodIn_r _ [42, 43, 44, 45, 46, 47, 48, 20, 49, 50, 51, 52, 53, 54, 55, 33, 56, 22, 75, 76, 77, 70, 71, 72, 73, 74] (by decide +kernel) (by decide +kernel)
set_option maxRecDepth 20000 in
theorem gX7_slope_X2_record : GoodIn wsX7_slope (wsV RX7 86 RX2 yX2_record wsX2_record) := goodIn_app (goodIn_of _ (by decide +kernel)) ggX7_slope_X2_record
set_option maxRecDepth 20000 in
theorem ggX7_slope_X7_slopeIndex : GoodIn wsX7_slope wsX7_slopeIndex := goodIn_r _ [24] (by decide +kernel) (by decide +kernel)
set_option maxRecDepth 20000 in
theorem gX7_slope_X7_slopeIndex : GoodIn wsX7_slope (va_wsS RX7 126 yX7_slopeIndex wsX7_slopeIndex) := goodIn_app (goodIn_of _ (by decide +kernel)) ggX7_slope_X7_slopeIndex
theorem dX7_slope_0 : decode cX7_slope 0 = .ok (.iload_n 1, 1) := by decide +kernel
theorem dX7_slope_1 : decode cX7_slope 1 = .ok (.iload_n 2, 1) := by decide +kernel
theorem dX7_slope_2 : decode cX7_slope 2 = .ok (.invokestatic 71, 3) := by decide +kernel
theorem dX7_slope_5 : decode cX7_slope 5 = .ok (.ifCond .eq 34, 3) := by decide +kernel
theorem dX7_slope_8 : decode cX7_slope 8 = .ok (.iload_n 3, 1) := by decide +kernel
theorem dX7_slope_9 : decode cX7_slope 9 = .ok (.iconst 0, 1) := by decide +kernel
theorem dX7_slope_10 : decode cX7_slope 10 = .ok (.iconst 1, 1) := by decide +kernel
theorem dX7_slope_11 : decode cX7_slope 11 = .ok (.invokestatic 112, 3) := by decide +kernel
theorem dX7_slope_14 : decode cX7_slope 14 = .ok (.ifCond .eq 25, 3) := by decide +kernel
theorem dX7_slope_17 : decode cX7_slope 17 = .ok (.iload 4, 2) := by decide +kernel
theorem dX7_slope_19 : decode cX7_slope 19 = .ok (.invokestatic 116, 3) := by decide +kernel
theorem dX7_slope_22 : decode cX7_slope 22 = .ok (.ifCond .eq 17, 3) := by decide +kernel
theorem dX7_slope_25 : decode cX7_slope 25 = .ok (.iload 5, 2) := by decide +kernel
theorem dX7_slope_27 : decode cX7_slope 27 = .ok (.sipush (-255), 3) := by decide +kernel
theorem dX7_slope_30 : decode cX7_slope 30 = .ok (.sipush 255, 3) := by decide +kernel
theorem dX7_slope_33 : decode cX7_slope 33 = .ok (.invokestatic 112, 3) := by decide +kernel
theorem dX7_slope_36 : decode cX7_slope 36 = .ok (.ifCond .ne 7, 3) := by decide +kernel
theorem dX7_slope_39 : decode cX7_slope 39 = .ok (.sipush (-1001), 3) := by decide +kernel
theorem dX7_slope_42 : decode cX7_slope 42 = .ok (.ireturn, 1) := by decide +kernel
theorem dX7_slope_43 : decode cX7_slope 43 = .ok (.iload_n 1, 1) := by decide +kernel
theorem dX7_slope_44 : decode cX7_slope 44 = .ok (.iload_n 2, 1) := by decide +kernel
theorem dX7_slope_45 : decode cX7_slope 45 = .ok (.invokestatic 79, 3) := by decide +kernel
theorem dX7_slope_48 : decode cX7_slope 48 = .ok (.istore 6, 2) := by decide +kernel
theorem dX7_slope_50 : decode cX7_slope 50 = .ok (.aload_n 0, 1) := by decide +kernel
theorem dX7_slope_51 : decode cX7_slope 51 = .ok (.getfield 10, 3) := by decide +kernel
theorem dX7_slope_54 : decode cX7_slope 54 = .ok (.iload 6, 2) := by decide +kernel
theorem dX7_slope_56 : decode cX7_slope 56 = .ok (.iload_n 3, 1) := by decide +kernel
theorem dX7_slope_57 : decode cX7_slope 57 = .ok (.iload 4, 2) := by decide +kernel
theorem dX7_slope_59 : decode cX7_slope 59 = .ok (.invokevirtual 119, 3) := by decide +kernel
theorem dX7_slope_62 : decode cX7_slope 62 = .ok (.istore 7, 2) := by decide +kernel
theorem dX7_slope_64 : decode cX7_slope 64 = .ok (.aload_n 0, 1) := by decide +kernel
theorem dX7_slope_65 : decode cX7_slope 65 = .ok (.getfield 28, 3) := by decide +kernel
theorem dX7_slope_68 : decode cX7_slope 68 = .ok (.aload_n 0, 1) := by decide +kernel
theorem dX7_slope_69 : decode cX7_slope 69 = .ok (.getfield 10, 3) := by decide +kernel
theorem dX7_slope_72 : decode cX7_slope 72 = .ok (.invokevirtual 86, 3) := by decide +kernel
theorem dX7_slope_75 : decode cX7_slope 75 = .ok (.aload_n 0, 1) := by decide +kernel
theorem dX7_slope_76 : decode cX7_slope 76 = .ok (.getfield 10, 3) := by decide +kernel
theorem dX7_slope_79 : decode cX7_slope 79 = .ok (.getfield 123, 3) := by decide +kernel
theorem dX7_slope_82 : decode cX7_slope 82 = .ok (.iload 6, 2) := by decide +kernel
theorem dX7_slope_84 : decode cX7_slope 84 = .ok (.iload_n 3, 1) := by decide +kernel
theorem dX7_slope_85 : decode cX7_slope 85 = .ok (.iload 4, 2) := by decide +kernel
theorem dX7_slope_87 : decode cX7_slope 87 = .ok (.invokestatic 126, 3) := by decide +kernel
theorem dX7_slope_90 : decode cX7_slope 90 = .ok (.iload 5, 2) := by decide +kernel
theorem dX7_slope_92 : decode cX7_slope 92 = .ok (.iastore, 1) := by decide +kernel
theorem dX7_slope_93 : decode cX7_slope 93 = .ok (.iload 7, 2) := by decide +kernel
theorem dX7_slope_95 : decode cX7_slope 95 = .ok (.ireturn, 1) := by decide +kernel
set_option maxRecDepth 20000 in
theorem ggX7_loose_X7_isCorner : GoodIn wsX7_loose wsX7_isCorner := goodIn_r _ [6, 7, 8, 5, 9] (by decide +kernel) (by decide +kernel)
set_option maxRecDepth 20000 in
theorem gX7_loose_X7_isCorner : GoodIn wsX7_loose (va_wsS RX7 71 yX7_isCorner wsX7_isCorner) := goodIn_app (goodIn_of _ (by decide +kernel)) ggX7_loose_X7_isCorner
set_option maxRecDepth 20000 in
theorem ggX7_loose_X7_cornerAt : GoodIn wsX7_loose wsX7_cornerAt := goodIn_r _ [12] (by decide +kernel) (by decide +kernel)
set_option maxRecDepth 20000 in
theorem gX7_loose_X7_cornerAt : GoodIn wsX7_loose (va_wsS RX7 79 yX7_cornerAt wsX7_cornerAt) := goodIn_app (goodIn_of _ (by decide +kernel)) ggX7_loose_X7_cornerAt
set_option maxRecDepth 20000 in
theorem ggX7_loose_X3_toldSlopesOf : GoodIn wsX7_loose wsX3_toldSlopesOf := goodIn_r _ [17, 18, 55, 56, 57, 58, 59] (by decide +kernel) (by decide +kernel)
set_option maxRecDepth 20000 in
theorem gX7_loose_X3_toldSlopesOf : GoodIn wsX7_loose (wsV RX7 129 RX3 yX3_toldSlopesOf wsX3_toldSlopesOf) := goodIn_app (goodIn_of _ (by decide +kernel)) ggX7_loose_X3_toldSlopesOf
set_option maxRecDepth 20000 in
theorem ggX7_loose_X2_record : GoodIn wsX7_loose wsX2_record := goodIn_r _ [23, 24, 25, 26, 27, 28, 29, 16, 30, 31, 32, 33, 34, 35, 36, 37, 38, 18, 60, 61, 62, 55, 56, 57, 58, 59] (by decide +kernel) (by decide +kernel)
set_option maxRecDepth 20000 in
theorem gX7_loose_X2_record : GoodIn wsX7_loose (wsV RX7 86 RX2 yX2_record wsX2_record) := goodIn_app (goodIn_of _ (by decide +kernel)) ggX7_loose_X2_record
set_option maxRecDepth 20000 in
theorem ggX7_loose_X3_loosen : GoodIn wsX7_loose wsX3_loosen := goodIn_r _ [42, 18, 55, 56, 57, 58, 59] (by decide +kernel) (by decide +kernel)
set_option maxRecDepth 20000 in
theorem gX7_loose_X3_loosen : GoodIn wsX7_loose (wsV RX7 133 RX3 yX3_loosen wsX3_loosen) := goodIn_app (goodIn_of _ (by decide +kernel)) ggX7_loose_X3_loosen
theorem dX7_loose_0 : decode cX7_loose 0 = .ok (.iload_n 1, 1) := by decide +kernel
theorem dX7_loose_1 : decode cX7_loose 1 = .ok (.iload_n 2, 1) := by decide +kernel
theorem dX7_loose_2 : decode cX7_loose 2 = .ok (.invokestatic 71, 3) := by decide +kernel
theorem dX7_loose_5 : decode cX7_loose 5 = .ok (.ifCond .ne 7, 3) := by decide +kernel
theorem dX7_loose_8 : decode cX7_loose 8 = .ok (.sipush (-1001), 3) := by decide +kernel
theorem dX7_loose_11 : decode cX7_loose 11 = .ok (.ireturn, 1) := by decide +kernel
theorem dX7_loose_12 : decode cX7_loose 12 = .ok (.iload_n 1, 1) := by decide +kernel
theorem dX7_loose_13 : decode cX7_loose 13 = .ok (.iload_n 2, 1) := by decide +kernel
theorem dX7_loose_14 : decode cX7_loose 14 = .ok (.invokestatic 79, 3) := by decide +kernel
theorem dX7_loose_17 : decode cX7_loose 17 = .ok (.istore_n 3, 1) := by decide +kernel
theorem dX7_loose_18 : decode cX7_loose 18 = .ok (.aload_n 0, 1) := by decide +kernel
theorem dX7_loose_19 : decode cX7_loose 19 = .ok (.getfield 10, 3) := by decide +kernel
theorem dX7_loose_22 : decode cX7_loose 22 = .ok (.iload_n 3, 1) := by decide +kernel
theorem dX7_loose_23 : decode cX7_loose 23 = .ok (.invokevirtual 129, 3) := by decide +kernel
theorem dX7_loose_26 : decode cX7_loose 26 = .ok (.istore 4, 2) := by decide +kernel
theorem dX7_loose_28 : decode cX7_loose 28 = .ok (.iload 4, 2) := by decide +kernel
theorem dX7_loose_30 : decode cX7_loose 30 = .ok (.ifCond .ne 7, 3) := by decide +kernel
theorem dX7_loose_33 : decode cX7_loose 33 = .ok (.sipush (-1002), 3) := by decide +kernel
theorem dX7_loose_36 : decode cX7_loose 36 = .ok (.ireturn, 1) := by decide +kernel
theorem dX7_loose_37 : decode cX7_loose 37 = .ok (.aload_n 0, 1) := by decide +kernel
theorem dX7_loose_38 : decode cX7_loose 38 = .ok (.getfield 28, 3) := by decide +kernel
theorem dX7_loose_41 : decode cX7_loose 41 = .ok (.aload_n 0, 1) := by decide +kernel
theorem dX7_loose_42 : decode cX7_loose 42 = .ok (.getfield 10, 3) := by decide +kernel
theorem dX7_loose_45 : decode cX7_loose 45 = .ok (.invokevirtual 86, 3) := by decide +kernel
theorem dX7_loose_48 : decode cX7_loose 48 = .ok (.aload_n 0, 1) := by decide +kernel
theorem dX7_loose_49 : decode cX7_loose 49 = .ok (.getfield 10, 3) := by decide +kernel
theorem dX7_loose_52 : decode cX7_loose 52 = .ok (.iload_n 3, 1) := by decide +kernel
theorem dX7_loose_53 : decode cX7_loose 53 = .ok (.invokevirtual 133, 3) := by decide +kernel
theorem dX7_loose_56 : decode cX7_loose 56 = .ok (.iload 4, 2) := by decide +kernel
theorem dX7_loose_58 : decode cX7_loose 58 = .ok (.ireturn, 1) := by decide +kernel
set_option maxRecDepth 20000 in
theorem ggX7_spread_X7_isWithin : GoodIn wsX7_spread wsX7_isWithin := goodIn_r _ [6] (by decide +kernel) (by decide +kernel)
set_option maxRecDepth 20000 in
theorem gX7_spread_X7_isWithin : GoodIn wsX7_spread (va_wsS RX7 112 yX7_isWithin wsX7_isWithin) := goodIn_app (goodIn_of _ (by decide +kernel)) ggX7_spread_X7_isWithin
set_option maxRecDepth 20000 in
theorem ggX7_spread_X2_record : GoodIn wsX7_spread wsX2_record := goodIn_r _ [11, 12, 13, 14, 15, 16, 17, 18, 19, 20, 21, 22, 23, 24, 25, 26, 27, 28, 63, 64, 65, 66, 67, 68, 69, 70] (by decide +kernel) (by decide +kernel)
set_option maxRecDepth 20000 in
theorem gX7_spread_X2_record : GoodIn wsX7_spread (wsV RX7 86 RX2 yX2_record wsX2_record) := goodIn_app (goodIn_of _ (by decide +kernel)) ggX7_spread_X2_record
set_option maxRecDepth 20000 in
theorem ggX7_spread_X7_spreadOnce : GoodIn wsX7_spread wsX7_spreadOnce := goodIn_r _ [32, 33, 34, 16, 17, 18, 19, 20, 21, 22, 23, 24, 25, 26, 27, 28, 35, 36, 37, 38, 39, 40, 41, 42, 43, 44, 45, 46, 47, 48, 49, 50, 51, 52, 53, 54, 55, 56, 57, 58, 59, 60, 61, 62, 66, 67, 68, 69, 70] (by decide +kernel) (by decide +kernel)
set_option maxRecDepth 20000 in
theorem gX7_spread_X7_spreadOnce : GoodIn wsX7_spread (wsV RX7 137 RX7 yX7_spreadOnce wsX7_spreadOnce) := goodIn_app (goodIn_of _ (by decide +kernel)) ggX7_spread_X7_spreadOnce
theorem dX7_spread_0 : decode cX7_spread 0 = .ok (.iload_n 1, 1) := by decide +kernel
theorem dX7_spread_1 : decode cX7_spread 1 = .ok (.iconst 1, 1) := by decide +kernel
theorem dX7_spread_2 : decode cX7_spread 2 = .ok (.bipush 20, 2) := by decide +kernel
theorem dX7_spread_4 : decode cX7_spread 4 = .ok (.invokestatic 112, 3) := by decide +kernel
theorem dX7_spread_7 : decode cX7_spread 7 = .ok (.ifCond .ne 7, 3) := by decide +kernel
theorem dX7_spread_10 : decode cX7_spread 10 = .ok (.sipush (-1001), 3) := by decide +kernel
theorem dX7_spread_13 : decode cX7_spread 13 = .ok (.ireturn, 1) := by decide +kernel
theorem dX7_spread_14 : decode cX7_spread 14 = .ok (.aload_n 0, 1) := by decide +kernel
theorem dX7_spread_15 : decode cX7_spread 15 = .ok (.getfield 28, 3) := by decide +kernel
theorem dX7_spread_18 : decode cX7_spread 18 = .ok (.aload_n 0, 1) := by decide +kernel
theorem dX7_spread_19 : decode cX7_spread 19 = .ok (.getfield 10, 3) := by decide +kernel
theorem dX7_spread_22 : decode cX7_spread 22 = .ok (.invokevirtual 86, 3) := by decide +kernel
theorem dX7_spread_25 : decode cX7_spread 25 = .ok (.iconst 0, 1) := by decide +kernel
theorem dX7_spread_26 : decode cX7_spread 26 = .ok (.istore_n 2, 1) := by decide +kernel
theorem dX7_spread_27 : decode cX7_spread 27 = .ok (.iconst 0, 1) := by decide +kernel
theorem dX7_spread_28 : decode cX7_spread 28 = .ok (.istore_n 3, 1) := by decide +kernel
theorem dX7_spread_29 : decode cX7_spread 29 = .ok (.iload_n 3, 1) := by decide +kernel
theorem dX7_spread_30 : decode cX7_spread 30 = .ok (.iload_n 1, 1) := by decide +kernel
theorem dX7_spread_31 : decode cX7_spread 31 = .ok (.if_icmp .ge 18, 3) := by decide +kernel
theorem dX7_spread_34 : decode cX7_spread 34 = .ok (.aload_n 0, 1) := by decide +kernel
theorem dX7_spread_35 : decode cX7_spread 35 = .ok (.aload_n 0, 1) := by decide +kernel
theorem dX7_spread_36 : decode cX7_spread 36 = .ok (.getfield 10, 3) := by decide +kernel
theorem dX7_spread_39 : decode cX7_spread 39 = .ok (.invokevirtual 137, 3) := by decide +kernel
theorem dX7_spread_42 : decode cX7_spread 42 = .ok (.istore_n 2, 1) := by decide +kernel
theorem dX7_spread_43 : decode cX7_spread 43 = .ok (.iinc 3 1, 3) := by decide +kernel
theorem dX7_spread_46 : decode cX7_spread 46 = .ok (.goto (-17), 3) := by decide +kernel
theorem dX7_spread_49 : decode cX7_spread 49 = .ok (.iload_n 2, 1) := by decide +kernel
theorem dX7_spread_50 : decode cX7_spread 50 = .ok (.ireturn, 1) := by decide +kernel
set_option maxRecDepth 20000 in
theorem ggX7_cornerOf_X7_isCorner : GoodIn wsX7_cornerOf wsX7_isCorner := goodIn_r _ [8, 9, 10, 7, 11] (by decide +kernel) (by decide +kernel)
set_option maxRecDepth 20000 in
theorem gX7_cornerOf_X7_isCorner : GoodIn wsX7_cornerOf (va_wsS RX7 71 yX7_isCorner wsX7_isCorner) := goodIn_app (goodIn_of _ (by decide +kernel)) ggX7_cornerOf_X7_isCorner
set_option maxRecDepth 20000 in
theorem ggX7_cornerOf_X7_isWithin : GoodIn wsX7_cornerOf wsX7_isWithin := goodIn_r _ [11] (by decide +kernel) (by decide +kernel)
set_option maxRecDepth 20000 in
theorem gX7_cornerOf_X7_isWithin : GoodIn wsX7_cornerOf (va_wsS RX7 112 yX7_isWithin wsX7_isWithin) := goodIn_app (goodIn_of _ (by decide +kernel)) ggX7_cornerOf_X7_isWithin
set_option maxRecDepth 20000 in
theorem ggX7_cornerOf_X7_cornerAt : GoodIn wsX7_cornerOf wsX7_cornerAt := goodIn_r _ [14] (by decide +kernel) (by decide +kernel)
set_option maxRecDepth 20000 in
theorem gX7_cornerOf_X7_cornerAt : GoodIn wsX7_cornerOf (va_wsS RX7 79 yX7_cornerAt wsX7_cornerAt) := goodIn_app (goodIn_of _ (by decide +kernel)) ggX7_cornerOf_X7_cornerAt
set_option maxRecDepth 20000 in
theorem ggX7_cornerOf_X3_toldSlopesOf : GoodIn wsX7_cornerOf wsX3_toldSlopesOf := goodIn_r _ [19, 20, 53, 54, 55, 56, 57] (by decide +kernel) (by decide +kernel)
set_option maxRecDepth 20000 in
theorem gX7_cornerOf_X3_toldSlopesOf : GoodIn wsX7_cornerOf (wsV RX7 129 RX3 yX3_toldSlopesOf wsX3_toldSlopesOf) := goodIn_app (goodIn_of _ (by decide +kernel)) ggX7_cornerOf_X3_toldSlopesOf
set_option maxRecDepth 20000 in
theorem ggX7_cornerOf_X3_slopeOf : GoodIn wsX7_cornerOf wsX3_slopeOf := goodIn_r _ [24, 20, 25, 7, 26, 27, 28, 29, 18, 30, 31, 32, 33, 34, 35, 36, 37, 38, 39, 53, 54, 55, 56, 57] (by decide +kernel) (by decide +kernel)
set_option maxRecDepth 20000 in
theorem gX7_cornerOf_X3_slopeOf : GoodIn wsX7_cornerOf (wsV RX7 119 RX3 yX3_slopeOf wsX3_slopeOf) := goodIn_app (goodIn_of _ (by decide +kernel)) ggX7_cornerOf_X3_slopeOf
set_option maxRecDepth 20000 in
theorem ggX7_cornerOf_X3_partOf : GoodIn wsX7_cornerOf wsX3_partOf := goodIn_r _ [34, 35, 53, 54, 55, 56, 57] (by decide +kernel) (by decide +kernel)
set_option maxRecDepth 20000 in
theorem gX7_cornerOf_X3_partOf : GoodIn wsX7_cornerOf (wsV RX7 141 RX3 yX3_partOf wsX3_partOf) := goodIn_app (goodIn_of _ (by decide +kernel)) ggX7_cornerOf_X3_partOf
theorem dX7_cornerOf_0 : decode cX7_cornerOf 0 = .ok (.iload_n 1, 1) := by decide +kernel
theorem dX7_cornerOf_1 : decode cX7_cornerOf 1 = .ok (.iload_n 2, 1) := by decide +kernel
theorem dX7_cornerOf_2 : decode cX7_cornerOf 2 = .ok (.invokestatic 71, 3) := by decide +kernel
theorem dX7_cornerOf_5 : decode cX7_cornerOf 5 = .ok (.ifCond .eq 13, 3) := by decide +kernel
theorem dX7_cornerOf_8 : decode cX7_cornerOf 8 = .ok (.iload_n 3, 1) := by decide +kernel
theorem dX7_cornerOf_9 : decode cX7_cornerOf 9 = .ok (.iconst 0, 1) := by decide +kernel
theorem dX7_cornerOf_10 : decode cX7_cornerOf 10 = .ok (.bipush 12, 2) := by decide +kernel
theorem dX7_cornerOf_12 : decode cX7_cornerOf 12 = .ok (.invokestatic 112, 3) := by decide +kernel
theorem dX7_cornerOf_15 : decode cX7_cornerOf 15 = .ok (.ifCond .ne 7, 3) := by decide +kernel
theorem dX7_cornerOf_18 : decode cX7_cornerOf 18 = .ok (.sipush (-1001), 3) := by decide +kernel
theorem dX7_cornerOf_21 : decode cX7_cornerOf 21 = .ok (.ireturn, 1) := by decide +kernel
theorem dX7_cornerOf_22 : decode cX7_cornerOf 22 = .ok (.iload_n 1, 1) := by decide +kernel
theorem dX7_cornerOf_23 : decode cX7_cornerOf 23 = .ok (.iload_n 2, 1) := by decide +kernel
theorem dX7_cornerOf_24 : decode cX7_cornerOf 24 = .ok (.invokestatic 79, 3) := by decide +kernel
theorem dX7_cornerOf_27 : decode cX7_cornerOf 27 = .ok (.istore 4, 2) := by decide +kernel
theorem dX7_cornerOf_29 : decode cX7_cornerOf 29 = .ok (.iload_n 3, 1) := by decide +kernel
theorem dX7_cornerOf_30 : decode cX7_cornerOf 30 = .ok (.bipush 12, 2) := by decide +kernel
theorem dX7_cornerOf_32 : decode cX7_cornerOf 32 = .ok (.if_icmp .ne 13, 3) := by decide +kernel
theorem dX7_cornerOf_35 : decode cX7_cornerOf 35 = .ok (.aload_n 0, 1) := by decide +kernel
theorem dX7_cornerOf_36 : decode cX7_cornerOf 36 = .ok (.getfield 10, 3) := by decide +kernel
theorem dX7_cornerOf_39 : decode cX7_cornerOf 39 = .ok (.iload 4, 2) := by decide +kernel
theorem dX7_cornerOf_41 : decode cX7_cornerOf 41 = .ok (.invokevirtual 129, 3) := by decide +kernel
theorem dX7_cornerOf_44 : decode cX7_cornerOf 44 = .ok (.ireturn, 1) := by decide +kernel
theorem dX7_cornerOf_45 : decode cX7_cornerOf 45 = .ok (.iload_n 3, 1) := by decide +kernel
theorem dX7_cornerOf_46 : decode cX7_cornerOf 46 = .ok (.bipush 6, 2) := by decide +kernel
theorem dX7_cornerOf_48 : decode cX7_cornerOf 48 = .ok (.if_icmp .lt 25, 3) := by decide +kernel
theorem dX7_cornerOf_51 : decode cX7_cornerOf 51 = .ok (.aload_n 0, 1) := by decide +kernel
theorem dX7_cornerOf_52 : decode cX7_cornerOf 52 = .ok (.getfield 10, 3) := by decide +kernel
theorem dX7_cornerOf_55 : decode cX7_cornerOf 55 = .ok (.iload 4, 2) := by decide +kernel
theorem dX7_cornerOf_57 : decode cX7_cornerOf 57 = .ok (.iload_n 3, 1) := by decide +kernel
theorem dX7_cornerOf_58 : decode cX7_cornerOf 58 = .ok (.bipush 6, 2) := by decide +kernel
theorem dX7_cornerOf_60 : decode cX7_cornerOf 60 = .ok (.isub, 1) := by decide +kernel
theorem dX7_cornerOf_61 : decode cX7_cornerOf 61 = .ok (.iconst 3, 1) := by decide +kernel
theorem dX7_cornerOf_62 : decode cX7_cornerOf 62 = .ok (.idiv, 1) := by decide +kernel
theorem dX7_cornerOf_63 : decode cX7_cornerOf 63 = .ok (.iload_n 3, 1) := by decide +kernel
theorem dX7_cornerOf_64 : decode cX7_cornerOf 64 = .ok (.bipush 6, 2) := by decide +kernel
theorem dX7_cornerOf_66 : decode cX7_cornerOf 66 = .ok (.isub, 1) := by decide +kernel
theorem dX7_cornerOf_67 : decode cX7_cornerOf 67 = .ok (.iconst 3, 1) := by decide +kernel
theorem dX7_cornerOf_68 : decode cX7_cornerOf 68 = .ok (.irem, 1) := by decide +kernel
theorem dX7_cornerOf_69 : decode cX7_cornerOf 69 = .ok (.invokevirtual 119, 3) := by decide +kernel
theorem dX7_cornerOf_72 : decode cX7_cornerOf 72 = .ok (.ireturn, 1) := by decide +kernel
theorem dX7_cornerOf_73 : decode cX7_cornerOf 73 = .ok (.iload_n 3, 1) := by decide +kernel
theorem dX7_cornerOf_74 : decode cX7_cornerOf 74 = .ok (.iconst 5, 1) := by decide +kernel
theorem dX7_cornerOf_75 : decode cX7_cornerOf 75 = .ok (.if_icmp .ne 14, 3) := by decide +kernel
theorem dX7_cornerOf_78 : decode cX7_cornerOf 78 = .ok (.aload_n 0, 1) := by decide +kernel
theorem dX7_cornerOf_79 : decode cX7_cornerOf 79 = .ok (.getfield 10, 3) := by decide +kernel
theorem dX7_cornerOf_82 : decode cX7_cornerOf 82 = .ok (.getfield 83, 3) := by decide +kernel
theorem dX7_cornerOf_85 : decode cX7_cornerOf 85 = .ok (.iload 4, 2) := by decide +kernel
theorem dX7_cornerOf_87 : decode cX7_cornerOf 87 = .ok (.iaload, 1) := by decide +kernel
theorem dX7_cornerOf_88 : decode cX7_cornerOf 88 = .ok (.ireturn, 1) := by decide +kernel
theorem dX7_cornerOf_89 : decode cX7_cornerOf 89 = .ok (.iload_n 3, 1) := by decide +kernel
theorem dX7_cornerOf_90 : decode cX7_cornerOf 90 = .ok (.iconst 2, 1) := by decide +kernel
theorem dX7_cornerOf_91 : decode cX7_cornerOf 91 = .ok (.if_icmp .lt 16, 3) := by decide +kernel
theorem dX7_cornerOf_94 : decode cX7_cornerOf 94 = .ok (.aload_n 0, 1) := by decide +kernel
theorem dX7_cornerOf_95 : decode cX7_cornerOf 95 = .ok (.getfield 10, 3) := by decide +kernel
theorem dX7_cornerOf_98 : decode cX7_cornerOf 98 = .ok (.iload 4, 2) := by decide +kernel
theorem dX7_cornerOf_100 : decode cX7_cornerOf 100 = .ok (.iload_n 3, 1) := by decide +kernel
theorem dX7_cornerOf_101 : decode cX7_cornerOf 101 = .ok (.iconst 2, 1) := by decide +kernel
theorem dX7_cornerOf_102 : decode cX7_cornerOf 102 = .ok (.isub, 1) := by decide +kernel
theorem dX7_cornerOf_103 : decode cX7_cornerOf 103 = .ok (.invokevirtual 141, 3) := by decide +kernel
theorem dX7_cornerOf_106 : decode cX7_cornerOf 106 = .ok (.ireturn, 1) := by decide +kernel
theorem dX7_cornerOf_107 : decode cX7_cornerOf 107 = .ok (.iload_n 3, 1) := by decide +kernel
theorem dX7_cornerOf_108 : decode cX7_cornerOf 108 = .ok (.ifCond .ne 16, 3) := by decide +kernel
theorem dX7_cornerOf_111 : decode cX7_cornerOf 111 = .ok (.aload_n 0, 1) := by decide +kernel
theorem dX7_cornerOf_112 : decode cX7_cornerOf 112 = .ok (.getfield 10, 3) := by decide +kernel
theorem dX7_cornerOf_115 : decode cX7_cornerOf 115 = .ok (.getfield 144, 3) := by decide +kernel
theorem dX7_cornerOf_118 : decode cX7_cornerOf 118 = .ok (.iload 4, 2) := by decide +kernel
theorem dX7_cornerOf_120 : decode cX7_cornerOf 120 = .ok (.iaload, 1) := by decide +kernel
theorem dX7_cornerOf_121 : decode cX7_cornerOf 121 = .ok (.goto 13, 3) := by decide +kernel
theorem dX7_cornerOf_124 : decode cX7_cornerOf 124 = .ok (.aload_n 0, 1) := by decide +kernel
theorem dX7_cornerOf_125 : decode cX7_cornerOf 125 = .ok (.getfield 10, 3) := by decide +kernel
theorem dX7_cornerOf_128 : decode cX7_cornerOf 128 = .ok (.getfield 147, 3) := by decide +kernel
theorem dX7_cornerOf_131 : decode cX7_cornerOf 131 = .ok (.iload 4, 2) := by decide +kernel
theorem dX7_cornerOf_133 : decode cX7_cornerOf 133 = .ok (.iaload, 1) := by decide +kernel
theorem dX7_cornerOf_134 : decode cX7_cornerOf 134 = .ok (.ireturn, 1) := by decide +kernel
set_option maxRecDepth 20000 in
theorem ggX7_point_X7_isPatch : GoodIn wsX7_point wsX7_isPatch := goodIn_r _ [8, 9, 10, 7, 11] (by decide +kernel) (by decide +kernel)
set_option maxRecDepth 20000 in
theorem gX7_point_X7_isPatch : GoodIn wsX7_point (va_wsS RX7 150 yX7_isPatch wsX7_isPatch) := goodIn_app (goodIn_of _ (by decide +kernel)) ggX7_point_X7_isPatch
set_option maxRecDepth 20000 in
theorem ggX7_point_X7_isStep : GoodIn wsX7_point wsX7_isStep := goodIn_r _ [14, 9, 10, 7, 11] (by decide +kernel) (by decide +kernel)
set_option maxRecDepth 20000 in
theorem gX7_point_X7_isStep : GoodIn wsX7_point (va_wsS RX7 153 yX7_isStep wsX7_isStep) := goodIn_app (goodIn_of _ (by decide +kernel)) ggX7_point_X7_isStep
set_option maxRecDepth 20000 in
theorem ggX7_point_X7_isWithin : GoodIn wsX7_point wsX7_isWithin := goodIn_r _ [11] (by decide +kernel) (by decide +kernel)
set_option maxRecDepth 20000 in
theorem gX7_point_X7_isWithin : GoodIn wsX7_point (va_wsS RX7 112 yX7_isWithin wsX7_isWithin) := goodIn_app (goodIn_of _ (by decide +kernel)) ggX7_point_X7_isWithin
set_option maxRecDepth 20000 in
theorem ggX7_point_X7_placeOfPoint : GoodIn wsX7_point wsX7_placeOfPoint := goodIn_r _ [17, 18, 19, 7, 20, 21, 22, 23] (by decide +kernel) (by decide +kernel)
set_option maxRecDepth 20000 in
theorem gX7_point_X7_placeOfPoint : GoodIn wsX7_point (va_wsS RX7 156 yX7_placeOfPoint wsX7_placeOfPoint) := goodIn_app (goodIn_of _ (by decide +kernel)) ggX7_point_X7_placeOfPoint
set_option maxRecDepth 20000 in
theorem ggX7_point_X0_load : GoodIn wsX7_point wsX0_load := goodIn_r _ [28, 29, 30, 31, 19, 7, 20, 21, 22, 23, 32, 33, 34, 35, 36, 37, 38, 39, 40, 41, 42, 43, 44, 45, 46, 47, 48, 49, 50, 51, 52, 53, 90, 91, 92, 85, 86, 87, 88, 89] (by decide +kernel) (by decide +kernel)
set_option maxRecDepth 20000 in
theorem gX7_point_X0_load : GoodIn wsX7_point (wsV RX7 160 RX0 yX0_load wsX0_load) := goodIn_app (goodIn_of _ (by decide +kernel)) ggX7_point_X0_load
set_option maxRecDepth 20000 in
theorem ggX7_point_X0_partAt : GoodIn wsX7_point wsX0_partAt := goodIn_r _ [57, 29, 30, 31, 58, 59, 60, 61, 62, 63, 64, 65, 66, 67, 27, 68, 69, 70, 71, 72, 51, 52, 53, 90, 91, 92] (by decide +kernel) (by decide +kernel)
set_option maxRecDepth 20000 in
theorem gX7_point_X0_partAt : GoodIn wsX7_point (wsV RX7 164 RX0 yX0_partAt wsX0_partAt) := goodIn_app (goodIn_of _ (by decide +kernel)) ggX7_point_X0_partAt
theorem dX7_point_0 : decode cX7_point 0 = .ok (.iload_n 1, 1) := by decide +kernel
theorem dX7_point_1 : decode cX7_point 1 = .ok (.invokestatic 150, 3) := by decide +kernel
theorem dX7_point_4 : decode cX7_point 4 = .ok (.ifCond .eq 27, 3) := by decide +kernel
theorem dX7_point_7 : decode cX7_point 7 = .ok (.iload_n 2, 1) := by decide +kernel
theorem dX7_point_8 : decode cX7_point 8 = .ok (.invokestatic 153, 3) := by decide +kernel
theorem dX7_point_11 : decode cX7_point 11 = .ok (.ifCond .eq 20, 3) := by decide +kernel
theorem dX7_point_14 : decode cX7_point 14 = .ok (.iload_n 3, 1) := by decide +kernel
theorem dX7_point_15 : decode cX7_point 15 = .ok (.invokestatic 153, 3) := by decide +kernel
theorem dX7_point_18 : decode cX7_point 18 = .ok (.ifCond .eq 13, 3) := by decide +kernel
theorem dX7_point_21 : decode cX7_point 21 = .ok (.iload 4, 2) := by decide +kernel
theorem dX7_point_23 : decode cX7_point 23 = .ok (.iconst 0, 1) := by decide +kernel
theorem dX7_point_24 : decode cX7_point 24 = .ok (.iconst 4, 1) := by decide +kernel
theorem dX7_point_25 : decode cX7_point 25 = .ok (.invokestatic 112, 3) := by decide +kernel
theorem dX7_point_28 : decode cX7_point 28 = .ok (.ifCond .ne 7, 3) := by decide +kernel
theorem dX7_point_31 : decode cX7_point 31 = .ok (.sipush (-1001), 3) := by decide +kernel
theorem dX7_point_34 : decode cX7_point 34 = .ok (.ireturn, 1) := by decide +kernel
theorem dX7_point_35 : decode cX7_point 35 = .ok (.iload 4, 2) := by decide +kernel
theorem dX7_point_37 : decode cX7_point 37 = .ok (.iconst 3, 1) := by decide +kernel
theorem dX7_point_38 : decode cX7_point 38 = .ok (.if_icmp .ne 17, 3) := by decide +kernel
theorem dX7_point_41 : decode cX7_point 41 = .ok (.aload_n 0, 1) := by decide +kernel
theorem dX7_point_42 : decode cX7_point 42 = .ok (.getfield 10, 3) := by decide +kernel
theorem dX7_point_45 : decode cX7_point 45 = .ok (.getfield 144, 3) := by decide +kernel
theorem dX7_point_48 : decode cX7_point 48 = .ok (.iload_n 1, 1) := by decide +kernel
theorem dX7_point_49 : decode cX7_point 49 = .ok (.iload_n 2, 1) := by decide +kernel
theorem dX7_point_50 : decode cX7_point 50 = .ok (.iload_n 3, 1) := by decide +kernel
theorem dX7_point_51 : decode cX7_point 51 = .ok (.invokestatic 156, 3) := by decide +kernel
theorem dX7_point_54 : decode cX7_point 54 = .ok (.ireturn, 1) := by decide +kernel
theorem dX7_point_55 : decode cX7_point 55 = .ok (.iload 4, 2) := by decide +kernel
theorem dX7_point_57 : decode cX7_point 57 = .ok (.iconst 4, 1) := by decide +kernel
theorem dX7_point_58 : decode cX7_point 58 = .ok (.if_icmp .ne 17, 3) := by decide +kernel
theorem dX7_point_61 : decode cX7_point 61 = .ok (.aload_n 0, 1) := by decide +kernel
theorem dX7_point_62 : decode cX7_point 62 = .ok (.getfield 10, 3) := by decide +kernel
theorem dX7_point_65 : decode cX7_point 65 = .ok (.getfield 147, 3) := by decide +kernel
theorem dX7_point_68 : decode cX7_point 68 = .ok (.iload_n 1, 1) := by decide +kernel
theorem dX7_point_69 : decode cX7_point 69 = .ok (.iload_n 2, 1) := by decide +kernel
theorem dX7_point_70 : decode cX7_point 70 = .ok (.iload_n 3, 1) := by decide +kernel
theorem dX7_point_71 : decode cX7_point 71 = .ok (.invokestatic 156, 3) := by decide +kernel
theorem dX7_point_74 : decode cX7_point 74 = .ok (.ireturn, 1) := by decide +kernel
theorem dX7_point_75 : decode cX7_point 75 = .ok (.aload_n 0, 1) := by decide +kernel
theorem dX7_point_76 : decode cX7_point 76 = .ok (.getfield 35, 3) := by decide +kernel
theorem dX7_point_79 : decode cX7_point 79 = .ok (.aload_n 0, 1) := by decide +kernel
theorem dX7_point_80 : decode cX7_point 80 = .ok (.getfield 10, 3) := by decide +kernel
theorem dX7_point_83 : decode cX7_point 83 = .ok (.iload_n 1, 1) := by decide +kernel
theorem dX7_point_84 : decode cX7_point 84 = .ok (.iload 4, 2) := by decide +kernel
theorem dX7_point_86 : decode cX7_point 86 = .ok (.invokevirtual 160, 3) := by decide +kernel
theorem dX7_point_89 : decode cX7_point 89 = .ok (.aload_n 0, 1) := by decide +kernel
theorem dX7_point_90 : decode cX7_point 90 = .ok (.getfield 35, 3) := by decide +kernel
theorem dX7_point_93 : decode cX7_point 93 = .ok (.iload_n 2, 1) := by decide +kernel
theorem dX7_point_94 : decode cX7_point 94 = .ok (.iload_n 3, 1) := by decide +kernel
theorem dX7_point_95 : decode cX7_point 95 = .ok (.invokevirtual 164, 3) := by decide +kernel
theorem dX7_point_98 : decode cX7_point 98 = .ok (.ireturn, 1) := by decide +kernel
set_option maxRecDepth 20000 in
theorem ggX7_patchOf_X7_isPatch : GoodIn wsX7_patchOf wsX7_isPatch := goodIn_r _ [8, 9, 10, 7, 11] (by decide +kernel) (by decide +kernel)
set_option maxRecDepth 20000 in
theorem gX7_patchOf_X7_isPatch : GoodIn wsX7_patchOf (va_wsS RX7 150 yX7_isPatch wsX7_isPatch) := goodIn_app (goodIn_of _ (by decide +kernel)) ggX7_patchOf_X7_isPatch
set_option maxRecDepth 20000 in
theorem ggX7_patchOf_X7_isWithin : GoodIn wsX7_patchOf wsX7_isWithin := goodIn_r _ [11] (by decide +kernel) (by decide +kernel)
set_option maxRecDepth 20000 in
theorem gX7_patchOf_X7_isWithin : GoodIn wsX7_patchOf (va_wsS RX7 112 yX7_isWithin wsX7_isWithin) := goodIn_app (goodIn_of _ (by decide +kernel)) ggX7_patchOf_X7_isWithin
set_option maxRecDepth 20000 in
theorem ggX7_patchOf_X3_isFolded : GoodIn wsX7_patchOf wsX3_isFolded := goodIn_r _ [16, 17, 18, 19, 7, 20, 21, 22, 23, 24, 25, 26, 124, 125, 126, 127, 128] (by decide +kernel) (by decide +kernel)
set_option maxRecDepth 20000 in
theorem gX7_patchOf_X3_isFolded : GoodIn wsX7_patchOf (wsV RX7 167 RX3 yX3_isFolded wsX3_isFolded) := goodIn_app (goodIn_of _ (by decide +kernel)) ggX7_patchOf_X3_isFolded
set_option maxRecDepth 20000 in
theorem ggX7_patchOf_X3_heldCornersOf : GoodIn wsX7_patchOf wsX3_heldCornersOf := goodIn_r _ [30, 31, 22, 7, 23, 24, 25, 26, 124, 125, 126, 127, 128] (by decide +kernel) (by decide +kernel)
set_option maxRecDepth 20000 in
theorem gX7_patchOf_X3_heldCornersOf : GoodIn wsX7_patchOf (wsV RX7 170 RX3 yX3_heldCornersOf wsX3_heldCornersOf) := goodIn_app (goodIn_of _ (by decide +kernel)) ggX7_patchOf_X3_heldCornersOf
set_option maxRecDepth 20000 in
theorem ggX7_patchOf_X3_doubleArea : GoodIn wsX7_patchOf wsX3_doubleArea := goodIn_r _ [35, 17, 18, 36, 37, 38, 39, 19, 7, 20, 21, 22, 23, 24, 25, 26, 124, 125, 126, 127, 128] (by decide +kernel) (by decide +kernel)
set_option maxRecDepth 20000 in
theorem gX7_patchOf_X3_doubleArea : GoodIn wsX7_patchOf (wsV RX7 173 RX3 yX3_doubleArea wsX3_doubleArea) := goodIn_app (goodIn_of _ (by decide +kernel)) ggX7_patchOf_X3_doubleArea
set_option maxRecDepth 20000 in
theorem ggX7_patchOf_X4_load : GoodIn wsX7_patchOf wsX4_load := goodIn_r _ [44, 45, 46, 47, 48, 49, 50, 51, 52, 53, 54, 22, 7, 23, 24, 25, 26, 55, 56, 57, 15, 58, 59, 60, 61, 62, 63, 64, 65, 66, 67, 68, 69, 70, 71, 72, 73, 74, 75, 76, 77, 78, 79, 80, 81, 82, 38, 83, 84, 85, 86, 87, 88, 89, 90, 91, 92, 93, 122, 123, 129, 130, 131, 124, 125, 126, 127, 128] (by decide +kernel) (by decide +kernel)
set_option maxRecDepth 20000 in
theorem gX7_patchOf_X4_load : GoodIn wsX7_patchOf (wsV RX7 176 RX4 yX4_load wsX4_load) := goodIn_app (goodIn_of _ (by decide +kernel)) ggX7_patchOf_X4_load
set_option maxRecDepth 20000 in
theorem ggX7_patchOf_X7_unlikeNumbers : GoodIn wsX7_patchOf wsX7_unlikeNumbers := goodIn_r _ [96, 97, 98, 7, 99] (by decide +kernel) (by decide +kernel)
set_option maxRecDepth 20000 in
theorem gX7_patchOf_X7_unlikeNumbers : GoodIn wsX7_patchOf (va_wsS RX7 182 yX7_unlikeNumbers wsX7_unlikeNumbers) := goodIn_app (goodIn_of _ (by decide +kernel)) ggX7_patchOf_X7_unlikeNumbers
set_option maxRecDepth 20000 in
theorem ggX7_patchOf_X4_greatestSum : GoodIn wsX7_patchOf wsX4_greatestSum := goodIn_r _ [103, 46, 104, 85, 38, 86, 122, 123] (by decide +kernel) (by decide +kernel)
set_option maxRecDepth 20000 in
theorem gX7_patchOf_X4_greatestSum : GoodIn wsX7_patchOf (wsV RX7 186 RX4 yX4_greatestSum wsX4_greatestSum) := goodIn_app (goodIn_of _ (by decide +kernel)) ggX7_patchOf_X4_greatestSum
set_option maxRecDepth 20000 in
theorem ggX7_patchOf_X4_leastSum : GoodIn wsX7_patchOf wsX4_leastSum := goodIn_r _ [108, 46, 109, 82, 38, 83, 122, 123] (by decide +kernel) (by decide +kernel)
set_option maxRecDepth 20000 in
theorem gX7_patchOf_X4_leastSum : GoodIn wsX7_patchOf (wsV RX7 189 RX4 yX4_leastSum wsX4_leastSum) := goodIn_app (goodIn_of _ (by decide +kernel)) ggX7_patchOf_X4_leastSum
theorem dX7_patchOf_0 : decode cX7_patchOf 0 = .ok (.iload_n 1, 1) := by decide +kernel
theorem dX7_patchOf_1 : decode cX7_patchOf 1 = .ok (.invokestatic 150, 3) := by decide +kernel
theorem dX7_patchOf_4 : decode cX7_patchOf 4 = .ok (.ifCond .eq 12, 3) := by decide +kernel
theorem dX7_patchOf_7 : decode cX7_patchOf 7 = .ok (.iload_n 2, 1) := by decide +kernel
theorem dX7_patchOf_8 : decode cX7_patchOf 8 = .ok (.iconst 0, 1) := by decide +kernel
theorem dX7_patchOf_9 : decode cX7_patchOf 9 = .ok (.iconst 5, 1) := by decide +kernel
theorem dX7_patchOf_10 : decode cX7_patchOf 10 = .ok (.invokestatic 112, 3) := by decide +kernel
theorem dX7_patchOf_13 : decode cX7_patchOf 13 = .ok (.ifCond .ne 7, 3) := by decide +kernel
theorem dX7_patchOf_16 : decode cX7_patchOf 16 = .ok (.sipush (-1001), 3) := by decide +kernel
theorem dX7_patchOf_19 : decode cX7_patchOf 19 = .ok (.ireturn, 1) := by decide +kernel
theorem dX7_patchOf_20 : decode cX7_patchOf 20 = .ok (.iload_n 2, 1) := by decide +kernel
theorem dX7_patchOf_21 : decode cX7_patchOf 21 = .ok (.ifCond .ne 20, 3) := by decide +kernel
theorem dX7_patchOf_24 : decode cX7_patchOf 24 = .ok (.aload_n 0, 1) := by decide +kernel
theorem dX7_patchOf_25 : decode cX7_patchOf 25 = .ok (.getfield 10, 3) := by decide +kernel
theorem dX7_patchOf_28 : decode cX7_patchOf 28 = .ok (.iload_n 1, 1) := by decide +kernel
theorem dX7_patchOf_29 : decode cX7_patchOf 29 = .ok (.invokevirtual 167, 3) := by decide +kernel
theorem dX7_patchOf_32 : decode cX7_patchOf 32 = .ok (.ifCond .eq 7, 3) := by decide +kernel
theorem dX7_patchOf_35 : decode cX7_patchOf 35 = .ok (.iconst 1, 1) := by decide +kernel
theorem dX7_patchOf_36 : decode cX7_patchOf 36 = .ok (.goto 4, 3) := by decide +kernel
theorem dX7_patchOf_39 : decode cX7_patchOf 39 = .ok (.iconst 0, 1) := by decide +kernel
theorem dX7_patchOf_40 : decode cX7_patchOf 40 = .ok (.ireturn, 1) := by decide +kernel
theorem dX7_patchOf_41 : decode cX7_patchOf 41 = .ok (.iload_n 2, 1) := by decide +kernel
theorem dX7_patchOf_42 : decode cX7_patchOf 42 = .ok (.iconst 4, 1) := by decide +kernel
theorem dX7_patchOf_43 : decode cX7_patchOf 43 = .ok (.if_icmp .ne 12, 3) := by decide +kernel
theorem dX7_patchOf_46 : decode cX7_patchOf 46 = .ok (.aload_n 0, 1) := by decide +kernel
theorem dX7_patchOf_47 : decode cX7_patchOf 47 = .ok (.getfield 10, 3) := by decide +kernel
theorem dX7_patchOf_50 : decode cX7_patchOf 50 = .ok (.iload_n 1, 1) := by decide +kernel
theorem dX7_patchOf_51 : decode cX7_patchOf 51 = .ok (.invokevirtual 170, 3) := by decide +kernel
theorem dX7_patchOf_54 : decode cX7_patchOf 54 = .ok (.ireturn, 1) := by decide +kernel
theorem dX7_patchOf_55 : decode cX7_patchOf 55 = .ok (.iload_n 2, 1) := by decide +kernel
theorem dX7_patchOf_56 : decode cX7_patchOf 56 = .ok (.iconst 5, 1) := by decide +kernel
theorem dX7_patchOf_57 : decode cX7_patchOf 57 = .ok (.if_icmp .ne 12, 3) := by decide +kernel
theorem dX7_patchOf_60 : decode cX7_patchOf 60 = .ok (.aload_n 0, 1) := by decide +kernel
theorem dX7_patchOf_61 : decode cX7_patchOf 61 = .ok (.getfield 10, 3) := by decide +kernel
theorem dX7_patchOf_64 : decode cX7_patchOf 64 = .ok (.iload_n 1, 1) := by decide +kernel
theorem dX7_patchOf_65 : decode cX7_patchOf 65 = .ok (.invokevirtual 173, 3) := by decide +kernel
theorem dX7_patchOf_68 : decode cX7_patchOf 68 = .ok (.ireturn, 1) := by decide +kernel
theorem dX7_patchOf_69 : decode cX7_patchOf 69 = .ok (.aload_n 0, 1) := by decide +kernel
theorem dX7_patchOf_70 : decode cX7_patchOf 70 = .ok (.getfield 45, 3) := by decide +kernel
theorem dX7_patchOf_73 : decode cX7_patchOf 73 = .ok (.aload_n 0, 1) := by decide +kernel
theorem dX7_patchOf_74 : decode cX7_patchOf 74 = .ok (.getfield 10, 3) := by decide +kernel
theorem dX7_patchOf_77 : decode cX7_patchOf 77 = .ok (.iload_n 1, 1) := by decide +kernel
theorem dX7_patchOf_78 : decode cX7_patchOf 78 = .ok (.aload_n 0, 1) := by decide +kernel
theorem dX7_patchOf_79 : decode cX7_patchOf 79 = .ok (.getfield 35, 3) := by decide +kernel
theorem dX7_patchOf_82 : decode cX7_patchOf 82 = .ok (.invokevirtual 176, 3) := by decide +kernel
theorem dX7_patchOf_85 : decode cX7_patchOf 85 = .ok (.iload_n 2, 1) := by decide +kernel
theorem dX7_patchOf_86 : decode cX7_patchOf 86 = .ok (.iconst 1, 1) := by decide +kernel
theorem dX7_patchOf_87 : decode cX7_patchOf 87 = .ok (.if_icmp .ne 14, 3) := by decide +kernel
theorem dX7_patchOf_90 : decode cX7_patchOf 90 = .ok (.aload_n 0, 1) := by decide +kernel
theorem dX7_patchOf_91 : decode cX7_patchOf 91 = .ok (.getfield 45, 3) := by decide +kernel
theorem dX7_patchOf_94 : decode cX7_patchOf 94 = .ok (.getfield 179, 3) := by decide +kernel
theorem dX7_patchOf_97 : decode cX7_patchOf 97 = .ok (.invokestatic 182, 3) := by decide +kernel
theorem dX7_patchOf_100 : decode cX7_patchOf 100 = .ok (.ireturn, 1) := by decide +kernel
theorem dX7_patchOf_101 : decode cX7_patchOf 101 = .ok (.iload_n 2, 1) := by decide +kernel
theorem dX7_patchOf_102 : decode cX7_patchOf 102 = .ok (.iconst 2, 1) := by decide +kernel
theorem dX7_patchOf_103 : decode cX7_patchOf 103 = .ok (.if_icmp .ne 13, 3) := by decide +kernel
theorem dX7_patchOf_106 : decode cX7_patchOf 106 = .ok (.aload_n 0, 1) := by decide +kernel
theorem dX7_patchOf_107 : decode cX7_patchOf 107 = .ok (.getfield 45, 3) := by decide +kernel
theorem dX7_patchOf_110 : decode cX7_patchOf 110 = .ok (.invokevirtual 186, 3) := by decide +kernel
theorem dX7_patchOf_113 : decode cX7_patchOf 113 = .ok (.goto 10, 3) := by decide +kernel
theorem dX7_patchOf_116 : decode cX7_patchOf 116 = .ok (.aload_n 0, 1) := by decide +kernel
theorem dX7_patchOf_117 : decode cX7_patchOf 117 = .ok (.getfield 45, 3) := by decide +kernel
theorem dX7_patchOf_120 : decode cX7_patchOf 120 = .ok (.invokevirtual 189, 3) := by decide +kernel
theorem dX7_patchOf_123 : decode cX7_patchOf 123 = .ok (.ireturn, 1) := by decide +kernel
set_option maxRecDepth 20000 in
theorem ggX7_count_X3_heldCorners : GoodIn wsX7_count wsX3_heldCorners := goodIn_r _ [12, 13, 76, 77, 78, 79, 80] (by decide +kernel) (by decide +kernel)
set_option maxRecDepth 20000 in
theorem gX7_count_X3_heldCorners : GoodIn wsX7_count (wsV RX7 98 RX3 yX3_heldCorners wsX3_heldCorners) := goodIn_app (goodIn_of _ (by decide +kernel)) ggX7_count_X3_heldCorners
set_option maxRecDepth 20000 in
theorem ggX7_count_X3_foldedPatches : GoodIn wsX7_count wsX3_foldedPatches := goodIn_r _ [17, 18, 19, 20, 11, 21, 22, 23, 24, 25, 26, 27, 28, 29, 30, 31, 32, 76, 77, 78, 79, 80] (by decide +kernel) (by decide +kernel)
set_option maxRecDepth 20000 in
theorem gX7_count_X3_foldedPatches : GoodIn wsX7_count (wsV RX7 109 RX3 yX3_foldedPatches wsX3_foldedPatches) := goodIn_app (goodIn_of _ (by decide +kernel)) ggX7_count_X3_foldedPatches
set_option maxRecDepth 20000 in
theorem ggX7_count_X3_toldSlopes : GoodIn wsX7_count wsX3_toldSlopes := goodIn_r _ [36, 37, 38, 39, 11, 40, 41, 76, 77, 78, 79, 80] (by decide +kernel) (by decide +kernel)
set_option maxRecDepth 20000 in
theorem gX7_count_X3_toldSlopes : GoodIn wsX7_count (wsV RX7 192 RX3 yX3_toldSlopes wsX3_toldSlopes) := goodIn_app (goodIn_of _ (by decide +kernel)) ggX7_count_X3_toldSlopes
set_option maxRecDepth 20000 in
theorem ggX7_count_X3_fillColours : GoodIn wsX7_count wsX3_fillColours := goodIn_r _ [45, 46, 47, 48, 11, 49, 50, 51, 25, 52, 76, 77, 78, 79, 80] (by decide +kernel) (by decide +kernel)
set_option maxRecDepth 20000 in
theorem gX7_count_X3_fillColours : GoodIn wsX7_count (wsV RX7 202 RX3 yX3_fillColours wsX3_fillColours) := goodIn_app (goodIn_of _ (by decide +kernel)) ggX7_count_X3_fillColours
set_option maxRecDepth 20000 in
theorem ggX7_count_X7_unlikeNumbers : GoodIn wsX7_count wsX7_unlikeNumbers := goodIn_r _ [55, 56, 57, 25, 58] (by decide +kernel) (by decide +kernel)
set_option maxRecDepth 20000 in
theorem gX7_count_X7_unlikeNumbers : GoodIn wsX7_count (va_wsS RX7 182 yX7_unlikeNumbers wsX7_unlikeNumbers) := goodIn_app (goodIn_of _ (by decide +kernel)) ggX7_count_X7_unlikeNumbers
theorem dX7_count_0 : decode cX7_count 0 = .ok (.iload_n 1, 1) := by decide +kernel
theorem dX7_count_1 : decode cX7_count 1 = .ok (.tableswitch 115 0 6 #[43, 51, 59, 67, 75, 83, 96], 43) := by decide +kernel
theorem dX7_count_44 : decode cX7_count 44 = .ok (.aload_n 0, 1) := by decide +kernel
theorem dX7_count_45 : decode cX7_count 45 = .ok (.getfield 10, 3) := by decide +kernel
theorem dX7_count_48 : decode cX7_count 48 = .ok (.invokevirtual 98, 3) := by decide +kernel
theorem dX7_count_51 : decode cX7_count 51 = .ok (.ireturn, 1) := by decide +kernel
theorem dX7_count_52 : decode cX7_count 52 = .ok (.aload_n 0, 1) := by decide +kernel
theorem dX7_count_53 : decode cX7_count 53 = .ok (.getfield 10, 3) := by decide +kernel
theorem dX7_count_56 : decode cX7_count 56 = .ok (.invokevirtual 109, 3) := by decide +kernel
theorem dX7_count_59 : decode cX7_count 59 = .ok (.ireturn, 1) := by decide +kernel
theorem dX7_count_60 : decode cX7_count 60 = .ok (.aload_n 0, 1) := by decide +kernel
theorem dX7_count_61 : decode cX7_count 61 = .ok (.getfield 10, 3) := by decide +kernel
theorem dX7_count_64 : decode cX7_count 64 = .ok (.invokevirtual 192, 3) := by decide +kernel
theorem dX7_count_67 : decode cX7_count 67 = .ok (.ireturn, 1) := by decide +kernel
theorem dX7_count_68 : decode cX7_count 68 = .ok (.aload_n 0, 1) := by decide +kernel
theorem dX7_count_69 : decode cX7_count 69 = .ok (.getfield 28, 3) := by decide +kernel
theorem dX7_count_72 : decode cX7_count 72 = .ok (.getfield 195, 3) := by decide +kernel
theorem dX7_count_75 : decode cX7_count 75 = .ok (.ireturn, 1) := by decide +kernel
theorem dX7_count_76 : decode cX7_count 76 = .ok (.aload_n 0, 1) := by decide +kernel
theorem dX7_count_77 : decode cX7_count 77 = .ok (.getfield 56, 3) := by decide +kernel
theorem dX7_count_80 : decode cX7_count 80 = .ok (.getfield 199, 3) := by decide +kernel
theorem dX7_count_83 : decode cX7_count 83 = .ok (.ireturn, 1) := by decide +kernel
theorem dX7_count_84 : decode cX7_count 84 = .ok (.aload_n 0, 1) := by decide +kernel
theorem dX7_count_85 : decode cX7_count 85 = .ok (.getfield 67, 3) := by decide +kernel
theorem dX7_count_88 : decode cX7_count 88 = .ok (.ifCond .eq 7, 3) := by decide +kernel
theorem dX7_count_91 : decode cX7_count 91 = .ok (.iconst 1, 1) := by decide +kernel
theorem dX7_count_92 : decode cX7_count 92 = .ok (.goto 4, 3) := by decide +kernel
theorem dX7_count_95 : decode cX7_count 95 = .ok (.iconst 0, 1) := by decide +kernel
theorem dX7_count_96 : decode cX7_count 96 = .ok (.ireturn, 1) := by decide +kernel
theorem dX7_count_97 : decode cX7_count 97 = .ok (.aload_n 0, 1) := by decide +kernel
theorem dX7_count_98 : decode cX7_count 98 = .ok (.getfield 10, 3) := by decide +kernel
theorem dX7_count_101 : decode cX7_count 101 = .ok (.aload_n 0, 1) := by decide +kernel
theorem dX7_count_102 : decode cX7_count 102 = .ok (.getfield 49, 3) := by decide +kernel
theorem dX7_count_105 : decode cX7_count 105 = .ok (.invokevirtual 202, 3) := by decide +kernel
theorem dX7_count_108 : decode cX7_count 108 = .ok (.aload_n 0, 1) := by decide +kernel
theorem dX7_count_109 : decode cX7_count 109 = .ok (.getfield 49, 3) := by decide +kernel
theorem dX7_count_112 : decode cX7_count 112 = .ok (.invokestatic 182, 3) := by decide +kernel
theorem dX7_count_115 : decode cX7_count 115 = .ok (.ireturn, 1) := by decide +kernel
theorem dX7_count_116 : decode cX7_count 116 = .ok (.sipush (-1001), 3) := by decide +kernel
theorem dX7_count_119 : decode cX7_count 119 = .ok (.ireturn, 1) := by decide +kernel
set_option maxRecDepth 20000 in
theorem ggX7_agrees_X7_isPatch : GoodIn wsX7_agrees wsX7_isPatch := goodIn_r _ [6, 7, 8, 5, 9] (by decide +kernel) (by decide +kernel)
set_option maxRecDepth 20000 in
theorem gX7_agrees_X7_isPatch : GoodIn wsX7_agrees (va_wsS RX7 150 yX7_isPatch wsX7_isPatch) := goodIn_app (goodIn_of _ (by decide +kernel)) ggX7_agrees_X7_isPatch
set_option maxRecDepth 20000 in
theorem ggX7_agrees_X7_isSide : GoodIn wsX7_agrees wsX7_isSide := goodIn_r _ [12, 7, 8, 5, 9] (by decide +kernel) (by decide +kernel)
set_option maxRecDepth 20000 in
theorem gX7_agrees_X7_isSide : GoodIn wsX7_agrees (va_wsS RX7 206 yX7_isSide wsX7_isSide) := goodIn_app (goodIn_of _ (by decide +kernel)) ggX7_agrees_X7_isSide
set_option maxRecDepth 20000 in
theorem ggX7_agrees_X7_hasPatchBeside : GoodIn wsX7_agrees wsX7_hasPatchBeside := goodIn_r _ [15] (by decide +kernel) (by decide +kernel)
set_option maxRecDepth 20000 in
theorem gX7_agrees_X7_hasPatchBeside : GoodIn wsX7_agrees (va_wsS RX7 209 yX7_hasPatchBeside wsX7_hasPatchBeside) := goodIn_app (goodIn_of _ (by decide +kernel)) ggX7_agrees_X7_hasPatchBeside
set_option maxRecDepth 20000 in
theorem ggX7_agrees_X7_loadBothBlends : GoodIn wsX7_agrees wsX7_loadBothBlends := goodIn_r _ [19, 1, 20, 2, 21, 22, 23, 24, 25, 26, 27, 28, 29, 5, 30, 31, 32, 33, 34, 35, 36, 37, 38, 39, 40, 41, 42, 43, 44, 45, 46, 47, 48, 49, 50, 51, 52, 53, 54, 55, 79, 80, 81, 82, 83, 84, 85, 86, 87, 88, 89, 90, 91, 92, 93, 94, 95, 96, 97, 98] (by decide +kernel) (by decide +kernel)
set_option maxRecDepth 20000 in
theorem gX7_agrees_X7_loadBothBlends : GoodIn wsX7_agrees (wsV RX7 212 RX7 yX7_loadBothBlends wsX7_loadBothBlends) := goodIn_app (goodIn_of _ (by decide +kernel)) ggX7_agrees_X7_loadBothBlends
set_option maxRecDepth 20000 in
theorem ggX7_agrees_X0_partInside : GoodIn wsX7_agrees wsX0_partInside := goodIn_r _ [59, 60, 61, 62, 24, 63, 26, 27, 28, 64, 65, 66, 67, 68, 69, 70, 71, 72, 73, 74, 75, 76, 77, 78, 53, 54, 55, 91, 92, 93] (by decide +kernel) (by decide +kernel)
set_option maxRecDepth 20000 in
theorem gX7_agrees_X0_partInside : GoodIn wsX7_agrees (wsV RX7 215 RX0 yX0_partInside wsX0_partInside) := goodIn_app (goodIn_of _ (by decide +kernel)) ggX7_agrees_X0_partInside
theorem dX7_agrees_0 : decode cX7_agrees 0 = .ok (.iload_n 1, 1) := by decide +kernel
theorem dX7_agrees_1 : decode cX7_agrees 1 = .ok (.invokestatic 150, 3) := by decide +kernel
theorem dX7_agrees_4 : decode cX7_agrees 4 = .ok (.ifCond .eq 10, 3) := by decide +kernel
theorem dX7_agrees_7 : decode cX7_agrees 7 = .ok (.iload_n 2, 1) := by decide +kernel
theorem dX7_agrees_8 : decode cX7_agrees 8 = .ok (.invokestatic 206, 3) := by decide +kernel
theorem dX7_agrees_11 : decode cX7_agrees 11 = .ok (.ifCond .ne 7, 3) := by decide +kernel
theorem dX7_agrees_14 : decode cX7_agrees 14 = .ok (.sipush (-1001), 3) := by decide +kernel
theorem dX7_agrees_17 : decode cX7_agrees 17 = .ok (.ireturn, 1) := by decide +kernel
theorem dX7_agrees_18 : decode cX7_agrees 18 = .ok (.iload_n 1, 1) := by decide +kernel
theorem dX7_agrees_19 : decode cX7_agrees 19 = .ok (.iload_n 2, 1) := by decide +kernel
theorem dX7_agrees_20 : decode cX7_agrees 20 = .ok (.invokestatic 209, 3) := by decide +kernel
theorem dX7_agrees_23 : decode cX7_agrees 23 = .ok (.ifCond .ne 7, 3) := by decide +kernel
theorem dX7_agrees_26 : decode cX7_agrees 26 = .ok (.sipush (-1004), 3) := by decide +kernel
theorem dX7_agrees_29 : decode cX7_agrees 29 = .ok (.ireturn, 1) := by decide +kernel
theorem dX7_agrees_30 : decode cX7_agrees 30 = .ok (.iconst 0, 1) := by decide +kernel
theorem dX7_agrees_31 : decode cX7_agrees 31 = .ok (.istore_n 3, 1) := by decide +kernel
theorem dX7_agrees_32 : decode cX7_agrees 32 = .ok (.iload_n 3, 1) := by decide +kernel
theorem dX7_agrees_33 : decode cX7_agrees 33 = .ok (.iconst 3, 1) := by decide +kernel
theorem dX7_agrees_34 : decode cX7_agrees 34 = .ok (.if_icmp .ge 60, 3) := by decide +kernel
theorem dX7_agrees_37 : decode cX7_agrees 37 = .ok (.aload_n 0, 1) := by decide +kernel
theorem dX7_agrees_38 : decode cX7_agrees 38 = .ok (.iload_n 1, 1) := by decide +kernel
theorem dX7_agrees_39 : decode cX7_agrees 39 = .ok (.iload_n 2, 1) := by decide +kernel
theorem dX7_agrees_40 : decode cX7_agrees 40 = .ok (.iload_n 3, 1) := by decide +kernel
theorem dX7_agrees_41 : decode cX7_agrees 41 = .ok (.invokevirtual 212, 3) := by decide +kernel
theorem dX7_agrees_44 : decode cX7_agrees 44 = .ok (.iconst 0, 1) := by decide +kernel
theorem dX7_agrees_45 : decode cX7_agrees 45 = .ok (.istore 4, 2) := by decide +kernel
theorem dX7_agrees_47 : decode cX7_agrees 47 = .ok (.iload 4, 2) := by decide +kernel
theorem dX7_agrees_49 : decode cX7_agrees 49 = .ok (.bipush 8, 2) := by decide +kernel
theorem dX7_agrees_51 : decode cX7_agrees 51 = .ok (.if_icmp .gt 37, 3) := by decide +kernel
theorem dX7_agrees_54 : decode cX7_agrees 54 = .ok (.aload_n 0, 1) := by decide +kernel
theorem dX7_agrees_55 : decode cX7_agrees 55 = .ok (.getfield 35, 3) := by decide +kernel
theorem dX7_agrees_58 : decode cX7_agrees 58 = .ok (.iload_n 2, 1) := by decide +kernel
theorem dX7_agrees_59 : decode cX7_agrees 59 = .ok (.bipush 8, 2) := by decide +kernel
theorem dX7_agrees_61 : decode cX7_agrees 61 = .ok (.iload 4, 2) := by decide +kernel
theorem dX7_agrees_63 : decode cX7_agrees 63 = .ok (.invokevirtual 215, 3) := by decide +kernel
theorem dX7_agrees_66 : decode cX7_agrees 66 = .ok (.aload_n 0, 1) := by decide +kernel
theorem dX7_agrees_67 : decode cX7_agrees 67 = .ok (.getfield 39, 3) := by decide +kernel
theorem dX7_agrees_70 : decode cX7_agrees 70 = .ok (.iload_n 2, 1) := by decide +kernel
theorem dX7_agrees_71 : decode cX7_agrees 71 = .ok (.iconst 0, 1) := by decide +kernel
theorem dX7_agrees_72 : decode cX7_agrees 72 = .ok (.iload 4, 2) := by decide +kernel
theorem dX7_agrees_74 : decode cX7_agrees 74 = .ok (.invokevirtual 215, 3) := by decide +kernel
theorem dX7_agrees_77 : decode cX7_agrees 77 = .ok (.if_icmp .eq 5, 3) := by decide +kernel
theorem dX7_agrees_80 : decode cX7_agrees 80 = .ok (.iconst 0, 1) := by decide +kernel
theorem dX7_agrees_81 : decode cX7_agrees 81 = .ok (.ireturn, 1) := by decide +kernel
theorem dX7_agrees_82 : decode cX7_agrees 82 = .ok (.iinc 4 1, 3) := by decide +kernel
theorem dX7_agrees_85 : decode cX7_agrees 85 = .ok (.goto (-38), 3) := by decide +kernel
theorem dX7_agrees_88 : decode cX7_agrees 88 = .ok (.iinc 3 1, 3) := by decide +kernel
theorem dX7_agrees_91 : decode cX7_agrees 91 = .ok (.goto (-59), 3) := by decide +kernel
theorem dX7_agrees_94 : decode cX7_agrees 94 = .ok (.iconst 1, 1) := by decide +kernel
theorem dX7_agrees_95 : decode cX7_agrees 95 = .ok (.ireturn, 1) := by decide +kernel
set_option maxRecDepth 20000 in
theorem ggX7_crease_X7_isPatch : GoodIn wsX7_crease wsX7_isPatch := goodIn_r _ [10, 11, 12, 9, 13] (by decide +kernel) (by decide +kernel)
set_option maxRecDepth 20000 in
theorem gX7_crease_X7_isPatch : GoodIn wsX7_crease (va_wsS RX7 150 yX7_isPatch wsX7_isPatch) := goodIn_app (goodIn_of _ (by decide +kernel)) ggX7_crease_X7_isPatch
set_option maxRecDepth 20000 in
theorem ggX7_crease_X7_isSide : GoodIn wsX7_crease wsX7_isSide := goodIn_r _ [16, 11, 12, 9, 13] (by decide +kernel) (by decide +kernel)
set_option maxRecDepth 20000 in
theorem gX7_crease_X7_isSide : GoodIn wsX7_crease (va_wsS RX7 206 yX7_isSide wsX7_isSide) := goodIn_app (goodIn_of _ (by decide +kernel)) ggX7_crease_X7_isSide
set_option maxRecDepth 20000 in
theorem ggX7_crease_X7_isStep : GoodIn wsX7_crease wsX7_isStep := goodIn_r _ [19, 11, 12, 9, 13] (by decide +kernel) (by decide +kernel)
set_option maxRecDepth 20000 in
theorem gX7_crease_X7_isStep : GoodIn wsX7_crease (va_wsS RX7 153 yX7_isStep wsX7_isStep) := goodIn_app (goodIn_of _ (by decide +kernel)) ggX7_crease_X7_isStep
set_option maxRecDepth 20000 in
theorem ggX7_crease_X7_isPart : GoodIn wsX7_crease wsX7_isPart := goodIn_r _ [22, 11, 12, 9, 13] (by decide +kernel) (by decide +kernel)
set_option maxRecDepth 20000 in
theorem gX7_crease_X7_isPart : GoodIn wsX7_crease (va_wsS RX7 116 yX7_isPart wsX7_isPart) := goodIn_app (goodIn_of _ (by decide +kernel)) ggX7_crease_X7_isPart
set_option maxRecDepth 20000 in
theorem ggX7_crease_X7_hasPatchBeside : GoodIn wsX7_crease wsX7_hasPatchBeside := goodIn_r _ [25] (by decide +kernel) (by decide +kernel)
set_option maxRecDepth 20000 in
theorem gX7_crease_X7_hasPatchBeside : GoodIn wsX7_crease (va_wsS RX7 209 yX7_hasPatchBeside wsX7_hasPatchBeside) := goodIn_app (goodIn_of _ (by decide +kernel)) ggX7_crease_X7_hasPatchBeside
set_option maxRecDepth 20000 in
theorem ggX7_crease_X7_loadBothBlends : GoodIn wsX7_crease wsX7_loadBothBlends := goodIn_r _ [29, 1, 30, 2, 31, 32, 33, 34, 35, 36, 37, 38, 39, 9, 40, 41, 42, 43, 44, 45, 46, 47, 48, 49, 50, 51, 52, 53, 54, 55, 56, 57, 58, 59, 60, 61, 62, 63, 64, 65, 88, 89, 90, 91, 92, 93, 94, 95, 96, 97, 98, 99, 100, 101, 102, 103, 104, 105, 106, 107] (by decide +kernel) (by decide +kernel)
set_option maxRecDepth 20000 in
theorem gX7_crease_X7_loadBothBlends : GoodIn wsX7_crease (wsV RX7 212 RX7 yX7_loadBothBlends wsX7_loadBothBlends) := goodIn_app (goodIn_of _ (by decide +kernel)) ggX7_crease_X7_loadBothBlends
set_option maxRecDepth 20000 in
theorem ggX7_crease_X0_partInside : GoodIn wsX7_crease wsX0_partInside := goodIn_r _ [69, 70, 71, 72, 34, 73, 36, 37, 38, 74, 75, 76, 5, 77, 78, 79, 80, 81, 82, 83, 84, 85, 86, 87, 63, 64, 65, 100, 101, 102] (by decide +kernel) (by decide +kernel)
set_option maxRecDepth 20000 in
theorem gX7_crease_X0_partInside : GoodIn wsX7_crease (wsV RX7 215 RX0 yX0_partInside wsX0_partInside) := goodIn_app (goodIn_of _ (by decide +kernel)) ggX7_crease_X0_partInside
theorem dX7_crease_0 : decode cX7_crease 0 = .ok (.iload_n 1, 1) := by decide +kernel
theorem dX7_crease_1 : decode cX7_crease 1 = .ok (.invokestatic 150, 3) := by decide +kernel
theorem dX7_crease_4 : decode cX7_crease 4 = .ok (.ifCond .eq 25, 3) := by decide +kernel
theorem dX7_crease_7 : decode cX7_crease 7 = .ok (.iload_n 2, 1) := by decide +kernel
theorem dX7_crease_8 : decode cX7_crease 8 = .ok (.invokestatic 206, 3) := by decide +kernel
theorem dX7_crease_11 : decode cX7_crease 11 = .ok (.ifCond .eq 18, 3) := by decide +kernel
theorem dX7_crease_14 : decode cX7_crease 14 = .ok (.iload_n 3, 1) := by decide +kernel
theorem dX7_crease_15 : decode cX7_crease 15 = .ok (.invokestatic 153, 3) := by decide +kernel
theorem dX7_crease_18 : decode cX7_crease 18 = .ok (.ifCond .eq 11, 3) := by decide +kernel
theorem dX7_crease_21 : decode cX7_crease 21 = .ok (.iload 4, 2) := by decide +kernel
theorem dX7_crease_23 : decode cX7_crease 23 = .ok (.invokestatic 116, 3) := by decide +kernel
theorem dX7_crease_26 : decode cX7_crease 26 = .ok (.ifCond .ne 7, 3) := by decide +kernel
theorem dX7_crease_29 : decode cX7_crease 29 = .ok (.sipush (-1001), 3) := by decide +kernel
theorem dX7_crease_32 : decode cX7_crease 32 = .ok (.ireturn, 1) := by decide +kernel
theorem dX7_crease_33 : decode cX7_crease 33 = .ok (.iload_n 1, 1) := by decide +kernel
theorem dX7_crease_34 : decode cX7_crease 34 = .ok (.iload_n 2, 1) := by decide +kernel
theorem dX7_crease_35 : decode cX7_crease 35 = .ok (.invokestatic 209, 3) := by decide +kernel
theorem dX7_crease_38 : decode cX7_crease 38 = .ok (.ifCond .ne 7, 3) := by decide +kernel
theorem dX7_crease_41 : decode cX7_crease 41 = .ok (.sipush (-1004), 3) := by decide +kernel
theorem dX7_crease_44 : decode cX7_crease 44 = .ok (.ireturn, 1) := by decide +kernel
theorem dX7_crease_45 : decode cX7_crease 45 = .ok (.aload_n 0, 1) := by decide +kernel
theorem dX7_crease_46 : decode cX7_crease 46 = .ok (.iload_n 1, 1) := by decide +kernel
theorem dX7_crease_47 : decode cX7_crease 47 = .ok (.iload_n 2, 1) := by decide +kernel
theorem dX7_crease_48 : decode cX7_crease 48 = .ok (.iload 4, 2) := by decide +kernel
theorem dX7_crease_50 : decode cX7_crease 50 = .ok (.invokevirtual 212, 3) := by decide +kernel
theorem dX7_crease_53 : decode cX7_crease 53 = .ok (.aload_n 0, 1) := by decide +kernel
theorem dX7_crease_54 : decode cX7_crease 54 = .ok (.getfield 35, 3) := by decide +kernel
theorem dX7_crease_57 : decode cX7_crease 57 = .ok (.iload_n 2, 1) := by decide +kernel
theorem dX7_crease_58 : decode cX7_crease 58 = .ok (.bipush 8, 2) := by decide +kernel
theorem dX7_crease_60 : decode cX7_crease 60 = .ok (.iload_n 3, 1) := by decide +kernel
theorem dX7_crease_61 : decode cX7_crease 61 = .ok (.invokevirtual 215, 3) := by decide +kernel
theorem dX7_crease_64 : decode cX7_crease 64 = .ok (.istore 5, 2) := by decide +kernel
theorem dX7_crease_66 : decode cX7_crease 66 = .ok (.aload_n 0, 1) := by decide +kernel
theorem dX7_crease_67 : decode cX7_crease 67 = .ok (.getfield 35, 3) := by decide +kernel
theorem dX7_crease_70 : decode cX7_crease 70 = .ok (.iload_n 2, 1) := by decide +kernel
theorem dX7_crease_71 : decode cX7_crease 71 = .ok (.bipush 7, 2) := by decide +kernel
theorem dX7_crease_73 : decode cX7_crease 73 = .ok (.iload_n 3, 1) := by decide +kernel
theorem dX7_crease_74 : decode cX7_crease 74 = .ok (.invokevirtual 215, 3) := by decide +kernel
theorem dX7_crease_77 : decode cX7_crease 77 = .ok (.iload 5, 2) := by decide +kernel
theorem dX7_crease_79 : decode cX7_crease 79 = .ok (.isub, 1) := by decide +kernel
theorem dX7_crease_80 : decode cX7_crease 80 = .ok (.istore 6, 2) := by decide +kernel
theorem dX7_crease_82 : decode cX7_crease 82 = .ok (.iload 5, 2) := by decide +kernel
theorem dX7_crease_84 : decode cX7_crease 84 = .ok (.aload_n 0, 1) := by decide +kernel
theorem dX7_crease_85 : decode cX7_crease 85 = .ok (.getfield 39, 3) := by decide +kernel
theorem dX7_crease_88 : decode cX7_crease 88 = .ok (.iload_n 2, 1) := by decide +kernel
theorem dX7_crease_89 : decode cX7_crease 89 = .ok (.iconst 1, 1) := by decide +kernel
theorem dX7_crease_90 : decode cX7_crease 90 = .ok (.iload_n 3, 1) := by decide +kernel
theorem dX7_crease_91 : decode cX7_crease 91 = .ok (.invokevirtual 215, 3) := by decide +kernel
theorem dX7_crease_94 : decode cX7_crease 94 = .ok (.isub, 1) := by decide +kernel
theorem dX7_crease_95 : decode cX7_crease 95 = .ok (.istore 7, 2) := by decide +kernel
theorem dX7_crease_97 : decode cX7_crease 97 = .ok (.iload 6, 2) := by decide +kernel
theorem dX7_crease_99 : decode cX7_crease 99 = .ok (.iload 7, 2) := by decide +kernel
theorem dX7_crease_101 : decode cX7_crease 101 = .ok (.isub, 1) := by decide +kernel
theorem dX7_crease_102 : decode cX7_crease 102 = .ok (.invokestatic 218, 3) := by decide +kernel
theorem dX7_crease_105 : decode cX7_crease 105 = .ok (.ireturn, 1) := by decide +kernel
set_option maxRecDepth 20000 in
theorem ggX7_level_X7_isPatch : GoodIn wsX7_level wsX7_isPatch := goodIn_r _ [6, 7, 8, 5, 9] (by decide +kernel) (by decide +kernel)
set_option maxRecDepth 20000 in
theorem gX7_level_X7_isPatch : GoodIn wsX7_level (va_wsS RX7 150 yX7_isPatch wsX7_isPatch) := goodIn_app (goodIn_of _ (by decide +kernel)) ggX7_level_X7_isPatch
set_option maxRecDepth 20000 in
theorem ggX7_level_X7_isPart : GoodIn wsX7_level wsX7_isPart := goodIn_r _ [12, 7, 8, 5, 9] (by decide +kernel) (by decide +kernel)
set_option maxRecDepth 20000 in
theorem gX7_level_X7_isPart : GoodIn wsX7_level (va_wsS RX7 116 yX7_isPart wsX7_isPart) := goodIn_app (goodIn_of _ (by decide +kernel)) ggX7_level_X7_isPart
set_option maxRecDepth 20000 in
theorem ggX7_level_X0_load : GoodIn wsX7_level wsX0_load := goodIn_r _ [17, 18, 19, 20, 21, 5, 22, 23, 24, 25, 26, 27, 28, 29, 30, 31, 32, 33, 34, 35, 36, 37, 38, 39, 40, 41, 42, 43, 44, 45, 46, 47, 79, 80, 81, 82, 83, 84, 85, 86] (by decide +kernel) (by decide +kernel)
set_option maxRecDepth 20000 in
theorem gX7_level_X0_load : GoodIn wsX7_level (wsV RX7 160 RX0 yX0_load wsX0_load) := goodIn_app (goodIn_of _ (by decide +kernel)) ggX7_level_X0_load
set_option maxRecDepth 20000 in
theorem ggX7_level_X0_partAt : GoodIn wsX7_level wsX0_partAt := goodIn_r _ [51, 18, 19, 20, 52, 53, 54, 55, 56, 57, 58, 59, 60, 61, 16, 62, 63, 64, 65, 66, 45, 46, 47, 79, 80, 81] (by decide +kernel) (by decide +kernel)
set_option maxRecDepth 20000 in
theorem gX7_level_X0_partAt : GoodIn wsX7_level (wsV RX7 164 RX0 yX0_partAt wsX0_partAt) := goodIn_app (goodIn_of _ (by decide +kernel)) ggX7_level_X0_partAt
set_option maxRecDepth 20000 in
theorem ggX7_level_X7_isWithin : GoodIn wsX7_level wsX7_isWithin := goodIn_r _ [9] (by decide +kernel) (by decide +kernel)
set_option maxRecDepth 20000 in
theorem gX7_level_X7_isWithin : GoodIn wsX7_level (va_wsS RX7 112 yX7_isWithin wsX7_isWithin) := goodIn_app (goodIn_of _ (by decide +kernel)) ggX7_level_X7_isWithin
theorem dX7_level_0 : decode cX7_level 0 = .ok (.iload_n 1, 1) := by decide +kernel
theorem dX7_level_1 : decode cX7_level 1 = .ok (.invokestatic 150, 3) := by decide +kernel
theorem dX7_level_4 : decode cX7_level 4 = .ok (.ifCond .eq 10, 3) := by decide +kernel
theorem dX7_level_7 : decode cX7_level 7 = .ok (.iload_n 2, 1) := by decide +kernel
theorem dX7_level_8 : decode cX7_level 8 = .ok (.invokestatic 116, 3) := by decide +kernel
theorem dX7_level_11 : decode cX7_level 11 = .ok (.ifCond .ne 7, 3) := by decide +kernel
theorem dX7_level_14 : decode cX7_level 14 = .ok (.sipush (-1001), 3) := by decide +kernel
theorem dX7_level_17 : decode cX7_level 17 = .ok (.ireturn, 1) := by decide +kernel
theorem dX7_level_18 : decode cX7_level 18 = .ok (.aload_n 0, 1) := by decide +kernel
theorem dX7_level_19 : decode cX7_level 19 = .ok (.getfield 35, 3) := by decide +kernel
theorem dX7_level_22 : decode cX7_level 22 = .ok (.aload_n 0, 1) := by decide +kernel
theorem dX7_level_23 : decode cX7_level 23 = .ok (.getfield 10, 3) := by decide +kernel
theorem dX7_level_26 : decode cX7_level 26 = .ok (.iload_n 1, 1) := by decide +kernel
theorem dX7_level_27 : decode cX7_level 27 = .ok (.iload_n 2, 1) := by decide +kernel
theorem dX7_level_28 : decode cX7_level 28 = .ok (.invokevirtual 160, 3) := by decide +kernel
theorem dX7_level_31 : decode cX7_level 31 = .ok (.iconst 0, 1) := by decide +kernel
theorem dX7_level_32 : decode cX7_level 32 = .ok (.istore 5, 2) := by decide +kernel
theorem dX7_level_34 : decode cX7_level 34 = .ok (.iconst 0, 1) := by decide +kernel
theorem dX7_level_35 : decode cX7_level 35 = .ok (.istore 6, 2) := by decide +kernel
theorem dX7_level_37 : decode cX7_level 37 = .ok (.iload 6, 2) := by decide +kernel
theorem dX7_level_39 : decode cX7_level 39 = .ok (.bipush 8, 2) := by decide +kernel
theorem dX7_level_41 : decode cX7_level 41 = .ok (.if_icmp .gt 48, 3) := by decide +kernel
theorem dX7_level_44 : decode cX7_level 44 = .ok (.iconst 0, 1) := by decide +kernel
theorem dX7_level_45 : decode cX7_level 45 = .ok (.istore 7, 2) := by decide +kernel
theorem dX7_level_47 : decode cX7_level 47 = .ok (.iload 7, 2) := by decide +kernel
theorem dX7_level_49 : decode cX7_level 49 = .ok (.bipush 8, 2) := by decide +kernel
theorem dX7_level_51 : decode cX7_level 51 = .ok (.if_icmp .gt 32, 3) := by decide +kernel
theorem dX7_level_54 : decode cX7_level 54 = .ok (.aload_n 0, 1) := by decide +kernel
theorem dX7_level_55 : decode cX7_level 55 = .ok (.getfield 35, 3) := by decide +kernel
theorem dX7_level_58 : decode cX7_level 58 = .ok (.iload 7, 2) := by decide +kernel
theorem dX7_level_60 : decode cX7_level 60 = .ok (.iload 6, 2) := by decide +kernel
theorem dX7_level_62 : decode cX7_level 62 = .ok (.invokevirtual 164, 3) := by decide +kernel
theorem dX7_level_65 : decode cX7_level 65 = .ok (.iload_n 3, 1) := by decide +kernel
theorem dX7_level_66 : decode cX7_level 66 = .ok (.iload 4, 2) := by decide +kernel
theorem dX7_level_68 : decode cX7_level 68 = .ok (.invokestatic 112, 3) := by decide +kernel
theorem dX7_level_71 : decode cX7_level 71 = .ok (.ifCond .eq 6, 3) := by decide +kernel
theorem dX7_level_74 : decode cX7_level 74 = .ok (.iinc 5 1, 3) := by decide +kernel
theorem dX7_level_77 : decode cX7_level 77 = .ok (.iinc 7 1, 3) := by decide +kernel
theorem dX7_level_80 : decode cX7_level 80 = .ok (.goto (-33), 3) := by decide +kernel
theorem dX7_level_83 : decode cX7_level 83 = .ok (.iinc 6 1, 3) := by decide +kernel
theorem dX7_level_86 : decode cX7_level 86 = .ok (.goto (-49), 3) := by decide +kernel
theorem dX7_level_89 : decode cX7_level 89 = .ok (.iload 5, 2) := by decide +kernel
theorem dX7_level_91 : decode cX7_level 91 = .ok (.ireturn, 1) := by decide +kernel
set_option maxRecDepth 20000 in
theorem ggX7_nearest_X7_isPlace : GoodIn wsX7_nearest wsX7_isPlace := goodIn_r _ [8, 9, 10, 7, 11] (by decide +kernel) (by decide +kernel)
set_option maxRecDepth 20000 in
theorem gX7_nearest_X7_isPlace : GoodIn wsX7_nearest (va_wsS RX7 102 yX7_isPlace wsX7_isPlace) := goodIn_app (goodIn_of _ (by decide +kernel)) ggX7_nearest_X7_isPlace
set_option maxRecDepth 20000 in
theorem ggX7_nearest_X7_isWithin : GoodIn wsX7_nearest wsX7_isWithin := goodIn_r _ [11] (by decide +kernel) (by decide +kernel)
set_option maxRecDepth 20000 in
theorem gX7_nearest_X7_isWithin : GoodIn wsX7_nearest (va_wsS RX7 112 yX7_isWithin wsX7_isWithin) := goodIn_app (goodIn_of _ (by decide +kernel)) ggX7_nearest_X7_isWithin
set_option maxRecDepth 20000 in
theorem ggX7_nearest_X7_placeOfPoint : GoodIn wsX7_nearest wsX7_placeOfPoint := goodIn_r _ [14, 15, 16, 7, 17, 18, 19, 20] (by decide +kernel) (by decide +kernel)
set_option maxRecDepth 20000 in
theorem gX7_nearest_X7_placeOfPoint : GoodIn wsX7_nearest (va_wsS RX7 156 yX7_placeOfPoint wsX7_placeOfPoint) := goodIn_app (goodIn_of _ (by decide +kernel)) ggX7_nearest_X7_placeOfPoint
theorem dX7_nearest_0 : decode cX7_nearest 0 = .ok (.iload_n 1, 1) := by decide +kernel
theorem dX7_nearest_1 : decode cX7_nearest 1 = .ok (.iload_n 2, 1) := by decide +kernel
theorem dX7_nearest_2 : decode cX7_nearest 2 = .ok (.invokestatic 102, 3) := by decide +kernel
theorem dX7_nearest_5 : decode cX7_nearest 5 = .ok (.ifCond .eq 12, 3) := by decide +kernel
theorem dX7_nearest_8 : decode cX7_nearest 8 = .ok (.iload_n 3, 1) := by decide +kernel
theorem dX7_nearest_9 : decode cX7_nearest 9 = .ok (.iconst 0, 1) := by decide +kernel
theorem dX7_nearest_10 : decode cX7_nearest 10 = .ok (.iconst 3, 1) := by decide +kernel
theorem dX7_nearest_11 : decode cX7_nearest 11 = .ok (.invokestatic 112, 3) := by decide +kernel
theorem dX7_nearest_14 : decode cX7_nearest 14 = .ok (.ifCond .ne 7, 3) := by decide +kernel
theorem dX7_nearest_17 : decode cX7_nearest 17 = .ok (.sipush (-1001), 3) := by decide +kernel
theorem dX7_nearest_20 : decode cX7_nearest 20 = .ok (.ireturn, 1) := by decide +kernel
theorem dX7_nearest_21 : decode cX7_nearest 21 = .ok (.ldc 223, 2) := by decide +kernel
theorem dX7_nearest_23 : decode cX7_nearest 23 = .ok (.istore 4, 2) := by decide +kernel
theorem dX7_nearest_25 : decode cX7_nearest 25 = .ok (.iconst 0, 1) := by decide +kernel
theorem dX7_nearest_26 : decode cX7_nearest 26 = .ok (.istore 5, 2) := by decide +kernel
theorem dX7_nearest_28 : decode cX7_nearest 28 = .ok (.iconst 0, 1) := by decide +kernel
theorem dX7_nearest_29 : decode cX7_nearest 29 = .ok (.istore 6, 2) := by decide +kernel
theorem dX7_nearest_31 : decode cX7_nearest 31 = .ok (.iconst 0, 1) := by decide +kernel
theorem dX7_nearest_32 : decode cX7_nearest 32 = .ok (.istore 7, 2) := by decide +kernel
theorem dX7_nearest_34 : decode cX7_nearest 34 = .ok (.iconst 0, 1) := by decide +kernel
theorem dX7_nearest_35 : decode cX7_nearest 35 = .ok (.istore 8, 2) := by decide +kernel
theorem dX7_nearest_37 : decode cX7_nearest 37 = .ok (.iload 8, 2) := by decide +kernel
theorem dX7_nearest_39 : decode cX7_nearest 39 = .ok (.bipush 12, 2) := by decide +kernel
theorem dX7_nearest_41 : decode cX7_nearest 41 = .ok (.if_icmp .ge 117, 3) := by decide +kernel
theorem dX7_nearest_44 : decode cX7_nearest 44 = .ok (.iconst 0, 1) := by decide +kernel
theorem dX7_nearest_45 : decode cX7_nearest 45 = .ok (.istore 9, 2) := by decide +kernel
theorem dX7_nearest_47 : decode cX7_nearest 47 = .ok (.iload 9, 2) := by decide +kernel
theorem dX7_nearest_49 : decode cX7_nearest 49 = .ok (.bipush 8, 2) := by decide +kernel
theorem dX7_nearest_51 : decode cX7_nearest 51 = .ok (.if_icmp .gt 101, 3) := by decide +kernel
theorem dX7_nearest_54 : decode cX7_nearest 54 = .ok (.iconst 0, 1) := by decide +kernel
theorem dX7_nearest_55 : decode cX7_nearest 55 = .ok (.istore 10, 2) := by decide +kernel
theorem dX7_nearest_57 : decode cX7_nearest 57 = .ok (.iload 10, 2) := by decide +kernel
theorem dX7_nearest_59 : decode cX7_nearest 59 = .ok (.bipush 8, 2) := by decide +kernel
theorem dX7_nearest_61 : decode cX7_nearest 61 = .ok (.if_icmp .gt 85, 3) := by decide +kernel
theorem dX7_nearest_64 : decode cX7_nearest 64 = .ok (.aload_n 0, 1) := by decide +kernel
theorem dX7_nearest_65 : decode cX7_nearest 65 = .ok (.getfield 10, 3) := by decide +kernel
theorem dX7_nearest_68 : decode cX7_nearest 68 = .ok (.getfield 144, 3) := by decide +kernel
theorem dX7_nearest_71 : decode cX7_nearest 71 = .ok (.iload 8, 2) := by decide +kernel
theorem dX7_nearest_73 : decode cX7_nearest 73 = .ok (.iload 10, 2) := by decide +kernel
theorem dX7_nearest_75 : decode cX7_nearest 75 = .ok (.iload 9, 2) := by decide +kernel
theorem dX7_nearest_77 : decode cX7_nearest 77 = .ok (.invokestatic 156, 3) := by decide +kernel
theorem dX7_nearest_80 : decode cX7_nearest 80 = .ok (.iload_n 1, 1) := by decide +kernel
theorem dX7_nearest_81 : decode cX7_nearest 81 = .ok (.isub, 1) := by decide +kernel
theorem dX7_nearest_82 : decode cX7_nearest 82 = .ok (.istore 11, 2) := by decide +kernel
theorem dX7_nearest_84 : decode cX7_nearest 84 = .ok (.aload_n 0, 1) := by decide +kernel
theorem dX7_nearest_85 : decode cX7_nearest 85 = .ok (.getfield 10, 3) := by decide +kernel
theorem dX7_nearest_88 : decode cX7_nearest 88 = .ok (.getfield 147, 3) := by decide +kernel
theorem dX7_nearest_91 : decode cX7_nearest 91 = .ok (.iload 8, 2) := by decide +kernel
theorem dX7_nearest_93 : decode cX7_nearest 93 = .ok (.iload 10, 2) := by decide +kernel
theorem dX7_nearest_95 : decode cX7_nearest 95 = .ok (.iload 9, 2) := by decide +kernel
theorem dX7_nearest_97 : decode cX7_nearest 97 = .ok (.invokestatic 156, 3) := by decide +kernel
theorem dX7_nearest_100 : decode cX7_nearest 100 = .ok (.iload_n 2, 1) := by decide +kernel
theorem dX7_nearest_101 : decode cX7_nearest 101 = .ok (.isub, 1) := by decide +kernel
theorem dX7_nearest_102 : decode cX7_nearest 102 = .ok (.istore 12, 2) := by decide +kernel
theorem dX7_nearest_104 : decode cX7_nearest 104 = .ok (.iload 11, 2) := by decide +kernel
theorem dX7_nearest_106 : decode cX7_nearest 106 = .ok (.iload 11, 2) := by decide +kernel
theorem dX7_nearest_108 : decode cX7_nearest 108 = .ok (.imul, 1) := by decide +kernel
theorem dX7_nearest_109 : decode cX7_nearest 109 = .ok (.iload 12, 2) := by decide +kernel
theorem dX7_nearest_111 : decode cX7_nearest 111 = .ok (.iload 12, 2) := by decide +kernel
theorem dX7_nearest_113 : decode cX7_nearest 113 = .ok (.imul, 1) := by decide +kernel
theorem dX7_nearest_114 : decode cX7_nearest 114 = .ok (.iadd, 1) := by decide +kernel
theorem dX7_nearest_115 : decode cX7_nearest 115 = .ok (.istore 13, 2) := by decide +kernel
theorem dX7_nearest_117 : decode cX7_nearest 117 = .ok (.iload 13, 2) := by decide +kernel
theorem dX7_nearest_119 : decode cX7_nearest 119 = .ok (.iload 4, 2) := by decide +kernel
theorem dX7_nearest_121 : decode cX7_nearest 121 = .ok (.if_icmp .ge 19, 3) := by decide +kernel
theorem dX7_nearest_124 : decode cX7_nearest 124 = .ok (.iload 13, 2) := by decide +kernel
theorem dX7_nearest_126 : decode cX7_nearest 126 = .ok (.istore 4, 2) := by decide +kernel
theorem dX7_nearest_128 : decode cX7_nearest 128 = .ok (.iload 8, 2) := by decide +kernel
theorem dX7_nearest_130 : decode cX7_nearest 130 = .ok (.istore 5, 2) := by decide +kernel
theorem dX7_nearest_132 : decode cX7_nearest 132 = .ok (.iload 10, 2) := by decide +kernel
theorem dX7_nearest_134 : decode cX7_nearest 134 = .ok (.istore 6, 2) := by decide +kernel
theorem dX7_nearest_136 : decode cX7_nearest 136 = .ok (.iload 9, 2) := by decide +kernel
theorem dX7_nearest_138 : decode cX7_nearest 138 = .ok (.istore 7, 2) := by decide +kernel
theorem dX7_nearest_140 : decode cX7_nearest 140 = .ok (.iinc 10 1, 3) := by decide +kernel
theorem dX7_nearest_143 : decode cX7_nearest 143 = .ok (.goto (-86), 3) := by decide +kernel
theorem dX7_nearest_146 : decode cX7_nearest 146 = .ok (.iinc 9 1, 3) := by decide +kernel
theorem dX7_nearest_149 : decode cX7_nearest 149 = .ok (.goto (-102), 3) := by decide +kernel
theorem dX7_nearest_152 : decode cX7_nearest 152 = .ok (.iinc 8 1, 3) := by decide +kernel
theorem dX7_nearest_155 : decode cX7_nearest 155 = .ok (.goto (-118), 3) := by decide +kernel
theorem dX7_nearest_158 : decode cX7_nearest 158 = .ok (.iload_n 3, 1) := by decide +kernel
theorem dX7_nearest_159 : decode cX7_nearest 159 = .ok (.ifCond .ne 6, 3) := by decide +kernel
theorem dX7_nearest_162 : decode cX7_nearest 162 = .ok (.iload 5, 2) := by decide +kernel
theorem dX7_nearest_164 : decode cX7_nearest 164 = .ok (.ireturn, 1) := by decide +kernel
theorem dX7_nearest_165 : decode cX7_nearest 165 = .ok (.iload_n 3, 1) := by decide +kernel
theorem dX7_nearest_166 : decode cX7_nearest 166 = .ok (.iconst 1, 1) := by decide +kernel
theorem dX7_nearest_167 : decode cX7_nearest 167 = .ok (.if_icmp .ne 6, 3) := by decide +kernel
theorem dX7_nearest_170 : decode cX7_nearest 170 = .ok (.iload 6, 2) := by decide +kernel
theorem dX7_nearest_172 : decode cX7_nearest 172 = .ok (.ireturn, 1) := by decide +kernel
theorem dX7_nearest_173 : decode cX7_nearest 173 = .ok (.iload_n 3, 1) := by decide +kernel
theorem dX7_nearest_174 : decode cX7_nearest 174 = .ok (.iconst 2, 1) := by decide +kernel
theorem dX7_nearest_175 : decode cX7_nearest 175 = .ok (.if_icmp .ne 8, 3) := by decide +kernel
theorem dX7_nearest_178 : decode cX7_nearest 178 = .ok (.iload 7, 2) := by decide +kernel
theorem dX7_nearest_180 : decode cX7_nearest 180 = .ok (.goto 5, 3) := by decide +kernel
theorem dX7_nearest_183 : decode cX7_nearest 183 = .ok (.iload 4, 2) := by decide +kernel
theorem dX7_nearest_185 : decode cX7_nearest 185 = .ok (.ireturn, 1) := by decide +kernel
set_option maxRecDepth 20000 in
theorem ggX7_calm_X3_copyFrom : GoodIn wsX7_calm wsX3_copyFrom := goodIn_r _ [7, 8, 9, 10, 11, 12, 13, 14, 15, 16, 51, 52, 53, 54, 55] (by decide +kernel) (by decide +kernel)
set_option maxRecDepth 20000 in
theorem gX7_calm_X3_copyFrom : GoodIn wsX7_calm (wsV RX7 224 RX3 yX3_copyFrom wsX3_copyFrom) := goodIn_app (goodIn_of _ (by decide +kernel)) ggX7_calm_X3_copyFrom
set_option maxRecDepth 20000 in
theorem ggX7_calm_X7_spreadOnce : GoodIn wsX7_calm wsX7_spreadOnce := goodIn_r _ [21, 22, 3, 4, 5, 6, 7, 8, 9, 10, 11, 12, 13, 14, 15, 16, 23, 24, 25, 26, 27, 28, 29, 30, 31, 32, 33, 34, 35, 36, 37, 38, 39, 40, 41, 42, 43, 44, 45, 46, 47, 48, 49, 50, 51, 52, 53, 54, 55] (by decide +kernel) (by decide +kernel)
set_option maxRecDepth 20000 in
theorem gX7_calm_X7_spreadOnce : GoodIn wsX7_calm (wsV RX7 137 RX7 yX7_spreadOnce wsX7_spreadOnce) := goodIn_app (goodIn_of _ (by decide +kernel)) ggX7_calm_X7_spreadOnce
theorem dX7_calm_0 : decode cX7_calm 0 = .ok (.aload_n 0, 1) := by decide +kernel
theorem dX7_calm_1 : decode cX7_calm 1 = .ok (.getfield 19, 3) := by decide +kernel
theorem dX7_calm_4 : decode cX7_calm 4 = .ok (.aload_n 0, 1) := by decide +kernel
theorem dX7_calm_5 : decode cX7_calm 5 = .ok (.getfield 10, 3) := by decide +kernel
theorem dX7_calm_8 : decode cX7_calm 8 = .ok (.invokevirtual 224, 3) := by decide +kernel
theorem dX7_calm_11 : decode cX7_calm 11 = .ok (.iconst 0, 1) := by decide +kernel
theorem dX7_calm_12 : decode cX7_calm 12 = .ok (.istore_n 1, 1) := by decide +kernel
theorem dX7_calm_13 : decode cX7_calm 13 = .ok (.iload_n 1, 1) := by decide +kernel
theorem dX7_calm_14 : decode cX7_calm 14 = .ok (.bipush 40, 2) := by decide +kernel
theorem dX7_calm_16 : decode cX7_calm 16 = .ok (.if_icmp .gt 22, 3) := by decide +kernel
theorem dX7_calm_19 : decode cX7_calm 19 = .ok (.aload_n 0, 1) := by decide +kernel
theorem dX7_calm_20 : decode cX7_calm 20 = .ok (.aload_n 0, 1) := by decide +kernel
theorem dX7_calm_21 : decode cX7_calm 21 = .ok (.getfield 19, 3) := by decide +kernel
theorem dX7_calm_24 : decode cX7_calm 24 = .ok (.invokevirtual 137, 3) := by decide +kernel
theorem dX7_calm_27 : decode cX7_calm 27 = .ok (.ifCond .ne 5, 3) := by decide +kernel
theorem dX7_calm_30 : decode cX7_calm 30 = .ok (.iload_n 1, 1) := by decide +kernel
theorem dX7_calm_31 : decode cX7_calm 31 = .ok (.ireturn, 1) := by decide +kernel
theorem dX7_calm_32 : decode cX7_calm 32 = .ok (.iinc 1 1, 3) := by decide +kernel
theorem dX7_calm_35 : decode cX7_calm 35 = .ok (.goto (-22), 3) := by decide +kernel
theorem dX7_calm_38 : decode cX7_calm 38 = .ok (.sipush (-1004), 3) := by decide +kernel
theorem dX7_calm_41 : decode cX7_calm 41 = .ok (.ireturn, 1) := by decide +kernel
set_option maxRecDepth 20000 in
theorem ggX7_keep_X3_copyFrom : GoodIn wsX7_keep wsX3_copyFrom := goodIn_r _ [8, 9, 10, 11, 12, 13, 14, 15, 16, 17, 34, 35, 36, 37, 38] (by decide +kernel) (by decide +kernel)
set_option maxRecDepth 20000 in
theorem gX7_keep_X3_copyFrom : GoodIn wsX7_keep (wsV RX7 224 RX3 yX3_copyFrom wsX3_copyFrom) := goodIn_app (goodIn_of _ (by decide +kernel)) ggX7_keep_X3_copyFrom
set_option maxRecDepth 20000 in
theorem ggX7_keep_X3_heldCorners : GoodIn wsX7_keep wsX3_heldCorners := goodIn_r _ [21, 16, 34, 35, 36, 37, 38] (by decide +kernel) (by decide +kernel)
set_option maxRecDepth 20000 in
theorem gX7_keep_X3_heldCorners : GoodIn wsX7_keep (wsV RX7 98 RX3 yX3_heldCorners wsX3_heldCorners) := goodIn_app (goodIn_of _ (by decide +kernel)) ggX7_keep_X3_heldCorners
theorem dX7_keep_0 : decode cX7_keep 0 = .ok (.aload_n 0, 1) := by decide +kernel
theorem dX7_keep_1 : decode cX7_keep 1 = .ok (.getfield 16, 3) := by decide +kernel
theorem dX7_keep_4 : decode cX7_keep 4 = .ok (.aload_n 0, 1) := by decide +kernel
theorem dX7_keep_5 : decode cX7_keep 5 = .ok (.getfield 10, 3) := by decide +kernel
theorem dX7_keep_8 : decode cX7_keep 8 = .ok (.invokevirtual 224, 3) := by decide +kernel
theorem dX7_keep_11 : decode cX7_keep 11 = .ok (.aload_n 0, 1) := by decide +kernel
theorem dX7_keep_12 : decode cX7_keep 12 = .ok (.iconst 1, 1) := by decide +kernel
theorem dX7_keep_13 : decode cX7_keep 13 = .ok (.putfield 67, 3) := by decide +kernel
theorem dX7_keep_16 : decode cX7_keep 16 = .ok (.aload_n 0, 1) := by decide +kernel
theorem dX7_keep_17 : decode cX7_keep 17 = .ok (.getfield 10, 3) := by decide +kernel
theorem dX7_keep_20 : decode cX7_keep 20 = .ok (.invokevirtual 98, 3) := by decide +kernel
theorem dX7_keep_23 : decode cX7_keep 23 = .ok (.ireturn, 1) := by decide +kernel
set_option maxRecDepth 20000 in
theorem ggX7_restore_X2_record : GoodIn wsX7_restore wsX2_record := goodIn_r _ [9, 10, 11, 12, 13, 14, 15, 16, 17, 18, 19, 20, 21, 22, 23, 24, 25, 26, 44, 45, 46, 47, 48, 49, 50, 51] (by decide +kernel) (by decide +kernel)
set_option maxRecDepth 20000 in
theorem gX7_restore_X2_record : GoodIn wsX7_restore (wsV RX7 86 RX2 yX2_record wsX2_record) := goodIn_app (goodIn_of _ (by decide +kernel)) ggX7_restore_X2_record
set_option maxRecDepth 20000 in
theorem ggX7_restore_X3_copyFrom : GoodIn wsX7_restore wsX3_copyFrom := goodIn_r _ [17, 18, 19, 20, 21, 22, 23, 24, 25, 26, 47, 48, 49, 50, 51] (by decide +kernel) (by decide +kernel)
set_option maxRecDepth 20000 in
theorem gX7_restore_X3_copyFrom : GoodIn wsX7_restore (wsV RX7 224 RX3 yX3_copyFrom wsX3_copyFrom) := goodIn_app (goodIn_of _ (by decide +kernel)) ggX7_restore_X3_copyFrom
set_option maxRecDepth 20000 in
theorem ggX7_restore_X3_heldCorners : GoodIn wsX7_restore wsX3_heldCorners := goodIn_r _ [31, 25, 47, 48, 49, 50, 51] (by decide +kernel) (by decide +kernel)
set_option maxRecDepth 20000 in
theorem gX7_restore_X3_heldCorners : GoodIn wsX7_restore (wsV RX7 98 RX3 yX3_heldCorners wsX3_heldCorners) := goodIn_app (goodIn_of _ (by decide +kernel)) ggX7_restore_X3_heldCorners
theorem dX7_restore_0 : decode cX7_restore 0 = .ok (.aload_n 0, 1) := by decide +kernel
theorem dX7_restore_1 : decode cX7_restore 1 = .ok (.getfield 67, 3) := by decide +kernel
theorem dX7_restore_4 : decode cX7_restore 4 = .ok (.ifCond .ne 7, 3) := by decide +kernel
theorem dX7_restore_7 : decode cX7_restore 7 = .ok (.sipush (-1002), 3) := by decide +kernel
theorem dX7_restore_10 : decode cX7_restore 10 = .ok (.ireturn, 1) := by decide +kernel
theorem dX7_restore_11 : decode cX7_restore 11 = .ok (.aload_n 0, 1) := by decide +kernel
theorem dX7_restore_12 : decode cX7_restore 12 = .ok (.getfield 28, 3) := by decide +kernel
theorem dX7_restore_15 : decode cX7_restore 15 = .ok (.aload_n 0, 1) := by decide +kernel
theorem dX7_restore_16 : decode cX7_restore 16 = .ok (.getfield 10, 3) := by decide +kernel
theorem dX7_restore_19 : decode cX7_restore 19 = .ok (.invokevirtual 86, 3) := by decide +kernel
theorem dX7_restore_22 : decode cX7_restore 22 = .ok (.aload_n 0, 1) := by decide +kernel
theorem dX7_restore_23 : decode cX7_restore 23 = .ok (.getfield 10, 3) := by decide +kernel
theorem dX7_restore_26 : decode cX7_restore 26 = .ok (.aload_n 0, 1) := by decide +kernel
theorem dX7_restore_27 : decode cX7_restore 27 = .ok (.getfield 16, 3) := by decide +kernel
theorem dX7_restore_30 : decode cX7_restore 30 = .ok (.invokevirtual 224, 3) := by decide +kernel
theorem dX7_restore_33 : decode cX7_restore 33 = .ok (.aload_n 0, 1) := by decide +kernel
theorem dX7_restore_34 : decode cX7_restore 34 = .ok (.getfield 10, 3) := by decide +kernel
theorem dX7_restore_37 : decode cX7_restore 37 = .ok (.invokevirtual 98, 3) := by decide +kernel
theorem dX7_restore_40 : decode cX7_restore 40 = .ok (.ireturn, 1) := by decide +kernel
set_option maxRecDepth 20000 in
theorem ggX7_undo_X2_takeLatest : GoodIn wsX7_undo wsX2_takeLatest := goodIn_r _ [8, 9, 10, 11, 12, 13, 14, 15, 16, 17, 18, 19, 20, 21, 22, 23, 24, 25, 38, 39, 40, 41, 42, 43, 44, 45] (by decide +kernel) (by decide +kernel)
set_option maxRecDepth 20000 in
theorem gX7_undo_X2_takeLatest : GoodIn wsX7_undo (wsV RX7 227 RX2 yX2_takeLatest wsX2_takeLatest) := goodIn_app (goodIn_of _ (by decide +kernel)) ggX7_undo_X2_takeLatest
theorem dX7_undo_0 : decode cX7_undo 0 = .ok (.aload_n 0, 1) := by decide +kernel
theorem dX7_undo_1 : decode cX7_undo 1 = .ok (.getfield 28, 3) := by decide +kernel
theorem dX7_undo_4 : decode cX7_undo 4 = .ok (.getfield 195, 3) := by decide +kernel
theorem dX7_undo_7 : decode cX7_undo 7 = .ok (.ifCond .ne 7, 3) := by decide +kernel
theorem dX7_undo_10 : decode cX7_undo 10 = .ok (.sipush (-1002), 3) := by decide +kernel
theorem dX7_undo_13 : decode cX7_undo 13 = .ok (.ireturn, 1) := by decide +kernel
theorem dX7_undo_14 : decode cX7_undo 14 = .ok (.aload_n 0, 1) := by decide +kernel
theorem dX7_undo_15 : decode cX7_undo 15 = .ok (.getfield 28, 3) := by decide +kernel
theorem dX7_undo_18 : decode cX7_undo 18 = .ok (.aload_n 0, 1) := by decide +kernel
theorem dX7_undo_19 : decode cX7_undo 19 = .ok (.getfield 10, 3) := by decide +kernel
theorem dX7_undo_22 : decode cX7_undo 22 = .ok (.invokevirtual 227, 3) := by decide +kernel
theorem dX7_undo_25 : decode cX7_undo 25 = .ok (.aload_n 0, 1) := by decide +kernel
theorem dX7_undo_26 : decode cX7_undo 26 = .ok (.getfield 28, 3) := by decide +kernel
theorem dX7_undo_29 : decode cX7_undo 29 = .ok (.getfield 195, 3) := by decide +kernel
theorem dX7_undo_32 : decode cX7_undo 32 = .ok (.ireturn, 1) := by decide +kernel
set_option maxRecDepth 20000 in
theorem ggX7_type_X7_isWithin : GoodIn wsX7_type wsX7_isWithin := goodIn_r _ [6] (by decide +kernel) (by decide +kernel)
set_option maxRecDepth 20000 in
theorem gX7_type_X7_isWithin : GoodIn wsX7_type (va_wsS RX7 112 yX7_isWithin wsX7_isWithin) := goodIn_app (goodIn_of _ (by decide +kernel)) ggX7_type_X7_isWithin
set_option maxRecDepth 20000 in
theorem ggX7_type_X6_append : GoodIn wsX7_type wsX6_append := goodIn_r _ [11, 12, 13, 26, 27] (by decide +kernel) (by decide +kernel)
set_option maxRecDepth 20000 in
theorem gX7_type_X6_append : GoodIn wsX7_type (wsV RX7 230 RX6 yX6_append wsX6_append) := goodIn_app (goodIn_of _ (by decide +kernel)) ggX7_type_X6_append
theorem dX7_type_0 : decode cX7_type 0 = .ok (.iload_n 1, 1) := by decide +kernel
theorem dX7_type_1 : decode cX7_type 1 = .ok (.bipush 32, 2) := by decide +kernel
theorem dX7_type_3 : decode cX7_type 3 = .ok (.bipush 126, 2) := by decide +kernel
theorem dX7_type_5 : decode cX7_type 5 = .ok (.invokestatic 112, 3) := by decide +kernel
theorem dX7_type_8 : decode cX7_type 8 = .ok (.ifCond .ne 7, 3) := by decide +kernel
theorem dX7_type_11 : decode cX7_type 11 = .ok (.sipush (-1001), 3) := by decide +kernel
theorem dX7_type_14 : decode cX7_type 14 = .ok (.ireturn, 1) := by decide +kernel
theorem dX7_type_15 : decode cX7_type 15 = .ok (.aload_n 0, 1) := by decide +kernel
theorem dX7_type_16 : decode cX7_type 16 = .ok (.getfield 56, 3) := by decide +kernel
theorem dX7_type_19 : decode cX7_type 19 = .ok (.getfield 199, 3) := by decide +kernel
theorem dX7_type_22 : decode cX7_type 22 = .ok (.bipush 60, 2) := by decide +kernel
theorem dX7_type_24 : decode cX7_type 24 = .ok (.if_icmp .lt 7, 3) := by decide +kernel
theorem dX7_type_27 : decode cX7_type 27 = .ok (.sipush (-1003), 3) := by decide +kernel
theorem dX7_type_30 : decode cX7_type 30 = .ok (.ireturn, 1) := by decide +kernel
theorem dX7_type_31 : decode cX7_type 31 = .ok (.aload_n 0, 1) := by decide +kernel
theorem dX7_type_32 : decode cX7_type 32 = .ok (.getfield 56, 3) := by decide +kernel
theorem dX7_type_35 : decode cX7_type 35 = .ok (.iload_n 1, 1) := by decide +kernel
theorem dX7_type_36 : decode cX7_type 36 = .ok (.i2c, 1) := by decide +kernel
theorem dX7_type_37 : decode cX7_type 37 = .ok (.invokevirtual 230, 3) := by decide +kernel
theorem dX7_type_40 : decode cX7_type 40 = .ok (.aload_n 0, 1) := by decide +kernel
theorem dX7_type_41 : decode cX7_type 41 = .ok (.getfield 56, 3) := by decide +kernel
theorem dX7_type_44 : decode cX7_type 44 = .ok (.getfield 199, 3) := by decide +kernel
theorem dX7_type_47 : decode cX7_type 47 = .ok (.ireturn, 1) := by decide +kernel
theorem dX7_clearText_0 : decode cX7_clearText 0 = .ok (.aload_n 0, 1) := by decide +kernel
theorem dX7_clearText_1 : decode cX7_clearText 1 = .ok (.getfield 56, 3) := by decide +kernel
theorem dX7_clearText_4 : decode cX7_clearText 4 = .ok (.getfield 199, 3) := by decide +kernel
theorem dX7_clearText_7 : decode cX7_clearText 7 = .ok (.istore_n 1, 1) := by decide +kernel
theorem dX7_clearText_8 : decode cX7_clearText 8 = .ok (.aload_n 0, 1) := by decide +kernel
theorem dX7_clearText_9 : decode cX7_clearText 9 = .ok (.getfield 56, 3) := by decide +kernel
theorem dX7_clearText_12 : decode cX7_clearText 12 = .ok (.iconst 0, 1) := by decide +kernel
theorem dX7_clearText_13 : decode cX7_clearText 13 = .ok (.putfield 199, 3) := by decide +kernel
theorem dX7_clearText_16 : decode cX7_clearText 16 = .ok (.iload_n 1, 1) := by decide +kernel
theorem dX7_clearText_17 : decode cX7_clearText 17 = .ok (.ireturn, 1) := by decide +kernel
set_option maxRecDepth 20000 in
theorem ggX7_fault_X7_isWithin : GoodIn wsX7_fault wsX7_isWithin := goodIn_r _ [11] (by decide +kernel) (by decide +kernel)
set_option maxRecDepth 20000 in
theorem gX7_fault_X7_isWithin : GoodIn wsX7_fault (va_wsS RX7 112 yX7_isWithin wsX7_isWithin) := goodIn_app (goodIn_of _ (by decide +kernel)) ggX7_fault_X7_isWithin
set_option maxRecDepth 20000 in
theorem ggX7_fault_X5_run : GoodIn wsX7_fault wsX5_run := goodIn_r _ [16, 17, 18, 19, 20, 21, 22, 23, 24, 25, 26, 27, 28, 29, 30, 31, 32, 33, 34, 35, 36, 37, 38, 39, 40, 41, 42, 43, 44, 45, 46, 47, 48, 49, 50, 51, 52, 53, 54, 55, 56, 57, 58, 59, 60, 61, 62, 63, 64, 65, 66, 67, 68, 69, 70, 71, 72, 73, 74, 75, 76, 77, 78, 79, 80, 81, 82, 83, 84, 85, 86, 87, 88, 10, 89, 90, 91, 92, 93, 8, 9, 11, 94, 95, 96, 97, 98, 99, 100, 101, 102, 103, 104, 117, 118, 119, 120, 121, 122, 123, 124, 125, 126, 127, 128, 129, 130, 131, 132, 133, 134, 135] (by decide +kernel) (by decide +kernel)
set_option maxRecDepth 20000 in
theorem gX7_fault_X5_run : GoodIn wsX7_fault (wsV RX7 234 RX5 yX5_run wsX5_run) := goodIn_app (goodIn_of _ (by decide +kernel)) ggX7_fault_X5_run
theorem dX7_fault_0 : decode cX7_fault 0 = .ok (.iload_n 1, 1) := by decide +kernel
theorem dX7_fault_1 : decode cX7_fault 1 = .ok (.iconst 0, 1) := by decide +kernel
theorem dX7_fault_2 : decode cX7_fault 2 = .ok (.iconst 2, 1) := by decide +kernel
theorem dX7_fault_3 : decode cX7_fault 3 = .ok (.invokestatic 112, 3) := by decide +kernel
theorem dX7_fault_6 : decode cX7_fault 6 = .ok (.ifCond .ne 7, 3) := by decide +kernel
theorem dX7_fault_9 : decode cX7_fault 9 = .ok (.sipush (-1001), 3) := by decide +kernel
theorem dX7_fault_12 : decode cX7_fault 12 = .ok (.ireturn, 1) := by decide +kernel
theorem dX7_fault_13 : decode cX7_fault 13 = .ok (.aload_n 0, 1) := by decide +kernel
theorem dX7_fault_14 : decode cX7_fault 14 = .ok (.getfield 63, 3) := by decide +kernel
theorem dX7_fault_17 : decode cX7_fault 17 = .ok (.aload_n 0, 1) := by decide +kernel
theorem dX7_fault_18 : decode cX7_fault 18 = .ok (.getfield 56, 3) := by decide +kernel
theorem dX7_fault_21 : decode cX7_fault 21 = .ok (.aload_n 0, 1) := by decide +kernel
theorem dX7_fault_22 : decode cX7_fault 22 = .ok (.getfield 10, 3) := by decide +kernel
theorem dX7_fault_25 : decode cX7_fault 25 = .ok (.aload_n 0, 1) := by decide +kernel
theorem dX7_fault_26 : decode cX7_fault 26 = .ok (.getfield 19, 3) := by decide +kernel
theorem dX7_fault_29 : decode cX7_fault 29 = .ok (.invokevirtual 234, 3) := by decide +kernel
theorem dX7_fault_32 : decode cX7_fault 32 = .ok (.aload_n 0, 1) := by decide +kernel
theorem dX7_fault_33 : decode cX7_fault 33 = .ok (.getfield 63, 3) := by decide +kernel
theorem dX7_fault_36 : decode cX7_fault 36 = .ok (.getfield 238, 3) := by decide +kernel
theorem dX7_fault_39 : decode cX7_fault 39 = .ok (.ifCond .ne 7, 3) := by decide +kernel
theorem dX7_fault_42 : decode cX7_fault 42 = .ok (.sipush (-1004), 3) := by decide +kernel
theorem dX7_fault_45 : decode cX7_fault 45 = .ok (.ireturn, 1) := by decide +kernel
theorem dX7_fault_46 : decode cX7_fault 46 = .ok (.iload_n 1, 1) := by decide +kernel
theorem dX7_fault_47 : decode cX7_fault 47 = .ok (.ifCond .ne 11, 3) := by decide +kernel
theorem dX7_fault_50 : decode cX7_fault 50 = .ok (.aload_n 0, 1) := by decide +kernel
theorem dX7_fault_51 : decode cX7_fault 51 = .ok (.getfield 63, 3) := by decide +kernel
theorem dX7_fault_54 : decode cX7_fault 54 = .ok (.getfield 241, 3) := by decide +kernel
theorem dX7_fault_57 : decode cX7_fault 57 = .ok (.ireturn, 1) := by decide +kernel
theorem dX7_fault_58 : decode cX7_fault 58 = .ok (.iload_n 1, 1) := by decide +kernel
theorem dX7_fault_59 : decode cX7_fault 59 = .ok (.iconst 1, 1) := by decide +kernel
theorem dX7_fault_60 : decode cX7_fault 60 = .ok (.if_icmp .ne 11, 3) := by decide +kernel
theorem dX7_fault_63 : decode cX7_fault 63 = .ok (.aload_n 0, 1) := by decide +kernel
theorem dX7_fault_64 : decode cX7_fault 64 = .ok (.getfield 63, 3) := by decide +kernel
theorem dX7_fault_67 : decode cX7_fault 67 = .ok (.getfield 238, 3) := by decide +kernel
theorem dX7_fault_70 : decode cX7_fault 70 = .ok (.ireturn, 1) := by decide +kernel
theorem dX7_fault_71 : decode cX7_fault 71 = .ok (.aload_n 0, 1) := by decide +kernel
theorem dX7_fault_72 : decode cX7_fault 72 = .ok (.getfield 63, 3) := by decide +kernel
theorem dX7_fault_75 : decode cX7_fault 75 = .ok (.getfield 238, 3) := by decide +kernel
theorem dX7_fault_78 : decode cX7_fault 78 = .ok (.iconst 1, 1) := by decide +kernel
theorem dX7_fault_79 : decode cX7_fault 79 = .ok (.if_icmp .ne 9, 3) := by decide +kernel
theorem dX7_fault_82 : decode cX7_fault 82 = .ok (.sipush (-1004), 3) := by decide +kernel
theorem dX7_fault_85 : decode cX7_fault 85 = .ok (.goto 10, 3) := by decide +kernel
theorem dX7_fault_88 : decode cX7_fault 88 = .ok (.aload_n 0, 1) := by decide +kernel
theorem dX7_fault_89 : decode cX7_fault 89 = .ok (.getfield 63, 3) := by decide +kernel
theorem dX7_fault_92 : decode cX7_fault 92 = .ok (.getfield 244, 3) := by decide +kernel
theorem dX7_fault_95 : decode cX7_fault 95 = .ok (.ireturn, 1) := by decide +kernel
set_option maxRecDepth 20000 in
theorem ggX7_play_X5_run : GoodIn wsX7_play wsX5_run := goodIn_r _ [12, 13, 14, 15, 16, 17, 18, 19, 20, 21, 22, 23, 24, 25, 26, 27, 28, 29, 30, 31, 32, 33, 34, 35, 36, 37, 38, 39, 40, 41, 42, 43, 44, 45, 46, 47, 48, 49, 50, 51, 52, 53, 54, 55, 56, 57, 58, 59, 60, 61, 62, 63, 64, 65, 66, 67, 68, 69, 70, 71, 72, 73, 74, 75, 76, 77, 78, 79, 80, 81, 82, 83, 84, 85, 86, 87, 88, 89, 90, 91, 92, 93, 94, 95, 96, 97, 98, 99, 100, 101, 102, 103, 104, 127, 128, 129, 130, 131, 132, 133, 134, 135, 136, 137, 138, 139, 140, 141, 142, 143, 144, 145] (by decide +kernel) (by decide +kernel)
set_option maxRecDepth 20000 in
theorem gX7_play_X5_run : GoodIn wsX7_play (wsV RX7 234 RX5 yX5_run wsX5_run) := goodIn_app (goodIn_of _ (by decide +kernel)) ggX7_play_X5_run
set_option maxRecDepth 20000 in
theorem ggX7_play_X2_record : GoodIn wsX7_play wsX2_record := goodIn_r _ [109, 110, 111, 112, 113, 21, 22, 23, 24, 25, 26, 27, 28, 29, 30, 31, 32, 33, 146, 147, 148, 141, 142, 143, 144, 145] (by decide +kernel) (by decide +kernel)
set_option maxRecDepth 20000 in
theorem gX7_play_X2_record : GoodIn wsX7_play (wsV RX7 86 RX2 yX2_record wsX2_record) := goodIn_app (goodIn_of _ (by decide +kernel)) ggX7_play_X2_record
set_option maxRecDepth 20000 in
theorem ggX7_play_X3_copyFrom : GoodIn wsX7_play wsX3_copyFrom := goodIn_r _ [24, 25, 26, 27, 28, 29, 30, 31, 32, 33, 141, 142, 143, 144, 145] (by decide +kernel) (by decide +kernel)
set_option maxRecDepth 20000 in
theorem gX7_play_X3_copyFrom : GoodIn wsX7_play (wsV RX7 224 RX3 yX3_copyFrom wsX3_copyFrom) := goodIn_app (goodIn_of _ (by decide +kernel)) ggX7_play_X3_copyFrom
theorem dX7_play_0 : decode cX7_play 0 = .ok (.aload_n 0, 1) := by decide +kernel
theorem dX7_play_1 : decode cX7_play 1 = .ok (.getfield 63, 3) := by decide +kernel
theorem dX7_play_4 : decode cX7_play 4 = .ok (.aload_n 0, 1) := by decide +kernel
theorem dX7_play_5 : decode cX7_play 5 = .ok (.getfield 56, 3) := by decide +kernel
theorem dX7_play_8 : decode cX7_play 8 = .ok (.aload_n 0, 1) := by decide +kernel
theorem dX7_play_9 : decode cX7_play 9 = .ok (.getfield 10, 3) := by decide +kernel
theorem dX7_play_12 : decode cX7_play 12 = .ok (.aload_n 0, 1) := by decide +kernel
theorem dX7_play_13 : decode cX7_play 13 = .ok (.getfield 19, 3) := by decide +kernel
theorem dX7_play_16 : decode cX7_play 16 = .ok (.invokevirtual 234, 3) := by decide +kernel
theorem dX7_play_19 : decode cX7_play 19 = .ok (.aload_n 0, 1) := by decide +kernel
theorem dX7_play_20 : decode cX7_play 20 = .ok (.getfield 63, 3) := by decide +kernel
theorem dX7_play_23 : decode cX7_play 23 = .ok (.getfield 238, 3) := by decide +kernel
theorem dX7_play_26 : decode cX7_play 26 = .ok (.ifCond .eq 7, 3) := by decide +kernel
theorem dX7_play_29 : decode cX7_play 29 = .ok (.sipush (-1002), 3) := by decide +kernel
theorem dX7_play_32 : decode cX7_play 32 = .ok (.ireturn, 1) := by decide +kernel
theorem dX7_play_33 : decode cX7_play 33 = .ok (.aload_n 0, 1) := by decide +kernel
theorem dX7_play_34 : decode cX7_play 34 = .ok (.getfield 28, 3) := by decide +kernel
theorem dX7_play_37 : decode cX7_play 37 = .ok (.aload_n 0, 1) := by decide +kernel
theorem dX7_play_38 : decode cX7_play 38 = .ok (.getfield 10, 3) := by decide +kernel
theorem dX7_play_41 : decode cX7_play 41 = .ok (.invokevirtual 86, 3) := by decide +kernel
theorem dX7_play_44 : decode cX7_play 44 = .ok (.aload_n 0, 1) := by decide +kernel
theorem dX7_play_45 : decode cX7_play 45 = .ok (.getfield 10, 3) := by decide +kernel
theorem dX7_play_48 : decode cX7_play 48 = .ok (.aload_n 0, 1) := by decide +kernel
theorem dX7_play_49 : decode cX7_play 49 = .ok (.getfield 19, 3) := by decide +kernel
theorem dX7_play_52 : decode cX7_play 52 = .ok (.invokevirtual 224, 3) := by decide +kernel
theorem dX7_play_55 : decode cX7_play 55 = .ok (.aload_n 0, 1) := by decide +kernel
theorem dX7_play_56 : decode cX7_play 56 = .ok (.getfield 63, 3) := by decide +kernel
theorem dX7_play_59 : decode cX7_play 59 = .ok (.getfield 247, 3) := by decide +kernel
theorem dX7_play_62 : decode cX7_play 62 = .ok (.ireturn, 1) := by decide +kernel
set_option maxRecDepth 20000 in
theorem ggX7_spreadOnce_X3_copyFrom : GoodIn wsX7_spreadOnce wsX3_copyFrom := goodIn_r _ [6, 7, 8, 9, 10, 11, 12, 13, 14, 15, 44, 45, 46, 47, 48] (by decide +kernel) (by decide +kernel)
set_option maxRecDepth 20000 in
theorem gX7_spreadOnce_X3_copyFrom : GoodIn wsX7_spreadOnce (wsV RX7 224 RX3 yX3_copyFrom wsX3_copyFrom) := goodIn_app (goodIn_of _ (by decide +kernel)) ggX7_spreadOnce_X3_copyFrom
set_option maxRecDepth 20000 in
theorem ggX7_spreadOnce_X3_takeRound : GoodIn wsX7_spreadOnce wsX3_takeRound := goodIn_r _ [19, 14, 20, 21, 22, 5, 23, 13, 24, 25, 26, 27, 28, 29, 30, 31, 44, 45, 46, 47, 48] (by decide +kernel) (by decide +kernel)
set_option maxRecDepth 20000 in
theorem gX7_spreadOnce_X3_takeRound : GoodIn wsX7_spreadOnce (wsV RX7 250 RX3 yX3_takeRound wsX3_takeRound) := goodIn_app (goodIn_of _ (by decide +kernel)) ggX7_spreadOnce_X3_takeRound
theorem dX7_spreadOnce_0 : decode cX7_spreadOnce 0 = .ok (.aload_n 0, 1) := by decide +kernel
theorem dX7_spreadOnce_1 : decode cX7_spreadOnce 1 = .ok (.getfield 22, 3) := by decide +kernel
theorem dX7_spreadOnce_4 : decode cX7_spreadOnce 4 = .ok (.aload_n 1, 1) := by decide +kernel
theorem dX7_spreadOnce_5 : decode cX7_spreadOnce 5 = .ok (.invokevirtual 224, 3) := by decide +kernel
theorem dX7_spreadOnce_8 : decode cX7_spreadOnce 8 = .ok (.aload_n 1, 1) := by decide +kernel
theorem dX7_spreadOnce_9 : decode cX7_spreadOnce 9 = .ok (.aload_n 0, 1) := by decide +kernel
theorem dX7_spreadOnce_10 : decode cX7_spreadOnce 10 = .ok (.getfield 22, 3) := by decide +kernel
theorem dX7_spreadOnce_13 : decode cX7_spreadOnce 13 = .ok (.invokevirtual 250, 3) := by decide +kernel
theorem dX7_spreadOnce_16 : decode cX7_spreadOnce 16 = .ok (.ireturn, 1) := by decide +kernel
set_option maxRecDepth 20000 in
theorem ggX7_loadBothBlends_X0_load : GoodIn wsX7_loadBothBlends wsX0_load := goodIn_r _ [8, 9, 10, 11, 12, 13, 14, 15, 16, 17, 18, 19, 20, 21, 22, 23, 24, 25, 26, 27, 28, 29, 30, 31, 32, 33, 34, 35, 36, 37, 38, 39, 52, 53, 54, 55, 56, 57, 58, 59] (by decide +kernel) (by decide +kernel)
set_option maxRecDepth 20000 in
theorem gX7_loadBothBlends_X0_load : GoodIn wsX7_loadBothBlends (wsV RX7 160 RX0 yX0_load wsX0_load) := goodIn_app (goodIn_of _ (by decide +kernel)) ggX7_loadBothBlends_X0_load
theorem dX7_loadBothBlends_0 : decode cX7_loadBothBlends 0 = .ok (.aload_n 0, 1) := by decide +kernel
theorem dX7_loadBothBlends_1 : decode cX7_loadBothBlends 1 = .ok (.getfield 35, 3) := by decide +kernel
theorem dX7_loadBothBlends_4 : decode cX7_loadBothBlends 4 = .ok (.aload_n 0, 1) := by decide +kernel
theorem dX7_loadBothBlends_5 : decode cX7_loadBothBlends 5 = .ok (.getfield 10, 3) := by decide +kernel
theorem dX7_loadBothBlends_8 : decode cX7_loadBothBlends 8 = .ok (.iload_n 1, 1) := by decide +kernel
theorem dX7_loadBothBlends_9 : decode cX7_loadBothBlends 9 = .ok (.iload_n 3, 1) := by decide +kernel
theorem dX7_loadBothBlends_10 : decode cX7_loadBothBlends 10 = .ok (.invokevirtual 160, 3) := by decide +kernel
theorem dX7_loadBothBlends_13 : decode cX7_loadBothBlends 13 = .ok (.aload_n 0, 1) := by decide +kernel
theorem dX7_loadBothBlends_14 : decode cX7_loadBothBlends 14 = .ok (.getfield 39, 3) := by decide +kernel
theorem dX7_loadBothBlends_17 : decode cX7_loadBothBlends 17 = .ok (.aload_n 0, 1) := by decide +kernel
theorem dX7_loadBothBlends_18 : decode cX7_loadBothBlends 18 = .ok (.getfield 10, 3) := by decide +kernel
theorem dX7_loadBothBlends_21 : decode cX7_loadBothBlends 21 = .ok (.iload_n 2, 1) := by decide +kernel
theorem dX7_loadBothBlends_22 : decode cX7_loadBothBlends 22 = .ok (.ifCond .ne 9, 3) := by decide +kernel
