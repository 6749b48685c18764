theorem dX8_colour_157 : decode cX8_colour 157 = .ok (.ifCond .ge 7, 3) := by decide +kernel
theorem dX8_colour_160 : decode cX8_colour 160 = .ok (.iconst 0, 1) := by decide +kernel
theorem dX8_colour_161 : decode cX8_colour 161 = .ok (.goto 19, 3) := by decide +kernel
theorem dX8_colour_164 : decode cX8_colour 164 = .ok (.iload 6, 2) := by decide +kernel
theorem dX8_colour_166 : decode cX8_colour 166 = .ok (.sipush 255, 3) := by decide +kernel
theorem dX8_colour_169 : decode cX8_colour 169 = .ok (.if_icmp .le 9, 3) := by decide +kernel
theorem dX8_colour_172 : decode cX8_colour 172 = .ok (.sipush 255, 3) := by decide +kernel
theorem dX8_colour_175 : decode cX8_colour 175 = .ok (.goto 5, 3) := by decide +kernel
theorem dX8_colour_178 : decode cX8_colour 178 = .ok (.iload 6, 2) := by decide +kernel
theorem dX8_colour_180 : decode cX8_colour 180 = .ok (.ireturn, 1) := by decide +kernel
set_option maxRecDepth 20000 in
theorem ggX8_placeOf_X8_at : GoodIn wsX8_placeOf wsX8_at := goodIn_r _ [5] (by decide +kernel) (by decide +kernel)
set_option maxRecDepth 20000 in
theorem gX8_placeOf_X8_at : GoodIn wsX8_placeOf (va_wsS RX8 53 yX8_at wsX8_at) := goodIn_app (goodIn_of _ (by decide +kernel)) ggX8_placeOf_X8_at
theorem dX8_placeOf_0 : decode cX8_placeOf 0 = .ok (.iconst 0, 1) := by decide +kernel
theorem dX8_placeOf_1 : decode cX8_placeOf 1 = .ok (.istore 5, 2) := by decide +kernel
theorem dX8_placeOf_3 : decode cX8_placeOf 3 = .ok (.iconst 0, 1) := by decide +kernel
theorem dX8_placeOf_4 : decode cX8_placeOf 4 = .ok (.istore 6, 2) := by decide +kernel
theorem dX8_placeOf_6 : decode cX8_placeOf 6 = .ok (.iload 6, 2) := by decide +kernel
theorem dX8_placeOf_8 : decode cX8_placeOf 8 = .ok (.iconst 4, 1) := by decide +kernel
theorem dX8_placeOf_9 : decode cX8_placeOf 9 = .ok (.if_icmp .ge 79, 3) := by decide +kernel
theorem dX8_placeOf_12 : decode cX8_placeOf 12 = .ok (.iload 6, 2) := by decide +kernel
theorem dX8_placeOf_14 : decode cX8_placeOf 14 = .ok (.iconst 2, 1) := by decide +kernel
theorem dX8_placeOf_15 : decode cX8_placeOf 15 = .ok (.irem, 1) := by decide +kernel
theorem dX8_placeOf_16 : decode cX8_placeOf 16 = .ok (.istore 7, 2) := by decide +kernel
theorem dX8_placeOf_18 : decode cX8_placeOf 18 = .ok (.iload 6, 2) := by decide +kernel
theorem dX8_placeOf_20 : decode cX8_placeOf 20 = .ok (.iconst 2, 1) := by decide +kernel
theorem dX8_placeOf_21 : decode cX8_placeOf 21 = .ok (.idiv, 1) := by decide +kernel
theorem dX8_placeOf_22 : decode cX8_placeOf 22 = .ok (.istore 8, 2) := by decide +kernel
theorem dX8_placeOf_24 : decode cX8_placeOf 24 = .ok (.iload 5, 2) := by decide +kernel
theorem dX8_placeOf_26 : decode cX8_placeOf 26 = .ok (.aload_n 0, 1) := by decide +kernel
theorem dX8_placeOf_27 : decode cX8_placeOf 27 = .ok (.getfield 7, 3) := by decide +kernel
theorem dX8_placeOf_30 : decode cX8_placeOf 30 = .ok (.iload_n 1, 1) := by decide +kernel
theorem dX8_placeOf_31 : decode cX8_placeOf 31 = .ok (.iconst 4, 1) := by decide +kernel
theorem dX8_placeOf_32 : decode cX8_placeOf 32 = .ok (.irem, 1) := by decide +kernel
theorem dX8_placeOf_33 : decode cX8_placeOf 33 = .ok (.iload 7, 2) := by decide +kernel
theorem dX8_placeOf_35 : decode cX8_placeOf 35 = .ok (.iadd, 1) := by decide +kernel
theorem dX8_placeOf_36 : decode cX8_placeOf 36 = .ok (.iload_n 1, 1) := by decide +kernel
theorem dX8_placeOf_37 : decode cX8_placeOf 37 = .ok (.iconst 4, 1) := by decide +kernel
theorem dX8_placeOf_38 : decode cX8_placeOf 38 = .ok (.idiv, 1) := by decide +kernel
theorem dX8_placeOf_39 : decode cX8_placeOf 39 = .ok (.iload 8, 2) := by decide +kernel
theorem dX8_placeOf_41 : decode cX8_placeOf 41 = .ok (.iadd, 1) := by decide +kernel
theorem dX8_placeOf_42 : decode cX8_placeOf 42 = .ok (.invokestatic 53, 3) := by decide +kernel
theorem dX8_placeOf_45 : decode cX8_placeOf 45 = .ok (.iload 4, 2) := by decide +kernel
theorem dX8_placeOf_47 : decode cX8_placeOf 47 = .ok (.iadd, 1) := by decide +kernel
theorem dX8_placeOf_48 : decode cX8_placeOf 48 = .ok (.iaload, 1) := by decide +kernel
theorem dX8_placeOf_49 : decode cX8_placeOf 49 = .ok (.iload 7, 2) := by decide +kernel
theorem dX8_placeOf_51 : decode cX8_placeOf 51 = .ok (.iconst 1, 1) := by decide +kernel
theorem dX8_placeOf_52 : decode cX8_placeOf 52 = .ok (.if_icmp .ne 7, 3) := by decide +kernel
theorem dX8_placeOf_55 : decode cX8_placeOf 55 = .ok (.iload_n 2, 1) := by decide +kernel
theorem dX8_placeOf_56 : decode cX8_placeOf 56 = .ok (.goto 7, 3) := by decide +kernel
theorem dX8_placeOf_59 : decode cX8_placeOf 59 = .ok (.bipush 8, 2) := by decide +kernel
theorem dX8_placeOf_61 : decode cX8_placeOf 61 = .ok (.iload_n 2, 1) := by decide +kernel
theorem dX8_placeOf_62 : decode cX8_placeOf 62 = .ok (.isub, 1) := by decide +kernel
theorem dX8_placeOf_63 : decode cX8_placeOf 63 = .ok (.imul, 1) := by decide +kernel
theorem dX8_placeOf_64 : decode cX8_placeOf 64 = .ok (.iload 8, 2) := by decide +kernel
theorem dX8_placeOf_66 : decode cX8_placeOf 66 = .ok (.iconst 1, 1) := by decide +kernel
theorem dX8_placeOf_67 : decode cX8_placeOf 67 = .ok (.if_icmp .ne 7, 3) := by decide +kernel
theorem dX8_placeOf_70 : decode cX8_placeOf 70 = .ok (.iload_n 3, 1) := by decide +kernel
theorem dX8_placeOf_71 : decode cX8_placeOf 71 = .ok (.goto 7, 3) := by decide +kernel
theorem dX8_placeOf_74 : decode cX8_placeOf 74 = .ok (.bipush 8, 2) := by decide +kernel
theorem dX8_placeOf_76 : decode cX8_placeOf 76 = .ok (.iload_n 3, 1) := by decide +kernel
theorem dX8_placeOf_77 : decode cX8_placeOf 77 = .ok (.isub, 1) := by decide +kernel
theorem dX8_placeOf_78 : decode cX8_placeOf 78 = .ok (.imul, 1) := by decide +kernel
theorem dX8_placeOf_79 : decode cX8_placeOf 79 = .ok (.iadd, 1) := by decide +kernel
theorem dX8_placeOf_80 : decode cX8_placeOf 80 = .ok (.istore 5, 2) := by decide +kernel
theorem dX8_placeOf_82 : decode cX8_placeOf 82 = .ok (.iinc 6 1, 3) := by decide +kernel
theorem dX8_placeOf_85 : decode cX8_placeOf 85 = .ok (.goto (-79), 3) := by decide +kernel
theorem dX8_placeOf_88 : decode cX8_placeOf 88 = .ok (.iload 5, 2) := by decide +kernel
theorem dX8_placeOf_90 : decode cX8_placeOf 90 = .ok (.bipush 64, 2) := by decide +kernel
theorem dX8_placeOf_92 : decode cX8_placeOf 92 = .ok (.idiv, 1) := by decide +kernel
theorem dX8_placeOf_93 : decode cX8_placeOf 93 = .ok (.ireturn, 1) := by decide +kernel
set_option maxRecDepth 20000 in
theorem ggX8_isPatch_X8_in : GoodIn wsX8_isPatch wsX8_in := goodIn_r _ [4] (by decide +kernel) (by decide +kernel)
set_option maxRecDepth 20000 in
theorem gX8_isPatch_X8_in : GoodIn wsX8_isPatch (va_wsS RX8 42 yX8_in wsX8_in) := goodIn_app (goodIn_of _ (by decide +kernel)) ggX8_isPatch_X8_in
theorem dX8_isPatch_0 : decode cX8_isPatch 0 = .ok (.iload_n 0, 1) := by decide +kernel
theorem dX8_isPatch_1 : decode cX8_isPatch 1 = .ok (.iconst 0, 1) := by decide +kernel
theorem dX8_isPatch_2 : decode cX8_isPatch 2 = .ok (.bipush 11, 2) := by decide +kernel
theorem dX8_isPatch_4 : decode cX8_isPatch 4 = .ok (.invokestatic 42, 3) := by decide +kernel
theorem dX8_isPatch_7 : decode cX8_isPatch 7 = .ok (.ireturn, 1) := by decide +kernel
set_option maxRecDepth 20000 in
theorem ggX8_point_X8_isPatch : GoodIn wsX8_point wsX8_isPatch := goodIn_r _ [4, 5, 6, 3, 7] (by decide +kernel) (by decide +kernel)
set_option maxRecDepth 20000 in
theorem gX8_point_X8_isPatch : GoodIn wsX8_point (va_wsS RX8 88 yX8_isPatch wsX8_isPatch) := goodIn_app (goodIn_of _ (by decide +kernel)) ggX8_point_X8_isPatch
set_option maxRecDepth 20000 in
theorem ggX8_point_X8_in : GoodIn wsX8_point wsX8_in := goodIn_r _ [7] (by decide +kernel) (by decide +kernel)
set_option maxRecDepth 20000 in
theorem gX8_point_X8_in : GoodIn wsX8_point (va_wsS RX8 42 yX8_in wsX8_in) := goodIn_app (goodIn_of _ (by decide +kernel)) ggX8_point_X8_in
set_option maxRecDepth 20000 in
theorem ggX8_point_X8_colour : GoodIn wsX8_point wsX8_colour := goodIn_r _ [11, 12, 13, 14, 15, 3, 16, 17, 18, 19, 20, 21, 22, 23, 24, 25, 26, 31, 32, 33, 34, 35, 36, 37, 38, 39, 40, 41, 42, 43, 44, 45, 46, 47, 48] (by decide +kernel) (by decide +kernel)
set_option maxRecDepth 20000 in
theorem gX8_point_X8_colour : GoodIn wsX8_point (wsV RX8 92 RX8 yX8_colour wsX8_colour) := goodIn_app (goodIn_of _ (by decide +kernel)) ggX8_point_X8_colour
set_option maxRecDepth 20000 in
theorem ggX8_point_X8_placeOf : GoodIn wsX8_point wsX8_placeOf := goodIn_r _ [30, 12, 14, 15, 3, 16, 31, 32, 33, 34, 35, 36, 37, 38, 39, 40, 41, 42, 43, 44, 45, 46, 47, 48] (by decide +kernel) (by decide +kernel)
set_option maxRecDepth 20000 in
theorem gX8_point_X8_placeOf : GoodIn wsX8_point (wsV RX8 95 RX8 yX8_placeOf wsX8_placeOf) := goodIn_app (goodIn_of _ (by decide +kernel)) ggX8_point_X8_placeOf
theorem dX8_point_0 : decode cX8_point 0 = .ok (.iload_n 1, 1) := by decide +kernel
theorem dX8_point_1 : decode cX8_point 1 = .ok (.invokestatic 88, 3) := by decide +kernel
theorem dX8_point_4 : decode cX8_point 4 = .ok (.ifCond .eq 33, 3) := by decide +kernel
theorem dX8_point_7 : decode cX8_point 7 = .ok (.iload_n 2, 1) := by decide +kernel
theorem dX8_point_8 : decode cX8_point 8 = .ok (.iconst 0, 1) := by decide +kernel
theorem dX8_point_9 : decode cX8_point 9 = .ok (.bipush 8, 2) := by decide +kernel
theorem dX8_point_11 : decode cX8_point 11 = .ok (.invokestatic 42, 3) := by decide +kernel
theorem dX8_point_14 : decode cX8_point 14 = .ok (.ifCond .eq 23, 3) := by decide +kernel
theorem dX8_point_17 : decode cX8_point 17 = .ok (.iload_n 3, 1) := by decide +kernel
theorem dX8_point_18 : decode cX8_point 18 = .ok (.iconst 0, 1) := by decide +kernel
theorem dX8_point_19 : decode cX8_point 19 = .ok (.bipush 8, 2) := by decide +kernel
theorem dX8_point_21 : decode cX8_point 21 = .ok (.invokestatic 42, 3) := by decide +kernel
theorem dX8_point_24 : decode cX8_point 24 = .ok (.ifCond .eq 13, 3) := by decide +kernel
theorem dX8_point_27 : decode cX8_point 27 = .ok (.iload 4, 2) := by decide +kernel
theorem dX8_point_29 : decode cX8_point 29 = .ok (.iconst 0, 1) := by decide +kernel
theorem dX8_point_30 : decode cX8_point 30 = .ok (.iconst 4, 1) := by decide +kernel
theorem dX8_point_31 : decode cX8_point 31 = .ok (.invokestatic 42, 3) := by decide +kernel
theorem dX8_point_34 : decode cX8_point 34 = .ok (.ifCond .ne 7, 3) := by decide +kernel
theorem dX8_point_37 : decode cX8_point 37 = .ok (.sipush (-1001), 3) := by decide +kernel
theorem dX8_point_40 : decode cX8_point 40 = .ok (.ireturn, 1) := by decide +kernel
theorem dX8_point_41 : decode cX8_point 41 = .ok (.iload 4, 2) := by decide +kernel
theorem dX8_point_43 : decode cX8_point 43 = .ok (.iconst 3, 1) := by decide +kernel
theorem dX8_point_44 : decode cX8_point 44 = .ok (.if_icmp .ge 15, 3) := by decide +kernel
theorem dX8_point_47 : decode cX8_point 47 = .ok (.aload_n 0, 1) := by decide +kernel
theorem dX8_point_48 : decode cX8_point 48 = .ok (.iload_n 1, 1) := by decide +kernel
theorem dX8_point_49 : decode cX8_point 49 = .ok (.iload_n 2, 1) := by decide +kernel
theorem dX8_point_50 : decode cX8_point 50 = .ok (.iload_n 3, 1) := by decide +kernel
theorem dX8_point_51 : decode cX8_point 51 = .ok (.iload 4, 2) := by decide +kernel
theorem dX8_point_53 : decode cX8_point 53 = .ok (.invokevirtual 92, 3) := by decide +kernel
theorem dX8_point_56 : decode cX8_point 56 = .ok (.goto 14, 3) := by decide +kernel
theorem dX8_point_59 : decode cX8_point 59 = .ok (.aload_n 0, 1) := by decide +kernel
theorem dX8_point_60 : decode cX8_point 60 = .ok (.iload_n 1, 1) := by decide +kernel
theorem dX8_point_61 : decode cX8_point 61 = .ok (.iload_n 2, 1) := by decide +kernel
theorem dX8_point_62 : decode cX8_point 62 = .ok (.iload_n 3, 1) := by decide +kernel
theorem dX8_point_63 : decode cX8_point 63 = .ok (.iload 4, 2) := by decide +kernel
theorem dX8_point_65 : decode cX8_point 65 = .ok (.iconst 3, 1) := by decide +kernel
theorem dX8_point_66 : decode cX8_point 66 = .ok (.isub, 1) := by decide +kernel
theorem dX8_point_67 : decode cX8_point 67 = .ok (.invokevirtual 95, 3) := by decide +kernel
theorem dX8_point_70 : decode cX8_point 70 = .ok (.ireturn, 1) := by decide +kernel
set_option maxRecDepth 20000 in
theorem ggX8_around_X8_at : GoodIn wsX8_around wsX8_at := goodIn_r _ [4] (by decide +kernel) (by decide +kernel)
set_option maxRecDepth 20000 in
theorem gX8_around_X8_at : GoodIn wsX8_around (va_wsS RX8 53 yX8_at wsX8_at) := goodIn_app (goodIn_of _ (by decide +kernel)) ggX8_around_X8_at
theorem dX8_around_0 : decode cX8_around 0 = .ok (.iload_n 1, 1) := by decide +kernel
theorem dX8_around_1 : decode cX8_around 1 = .ok (.iconst 4, 1) := by decide +kernel
theorem dX8_around_2 : decode cX8_around 2 = .ok (.irem, 1) := by decide +kernel
theorem dX8_around_3 : decode cX8_around 3 = .ok (.istore_n 2, 1) := by decide +kernel
theorem dX8_around_4 : decode cX8_around 4 = .ok (.iload_n 0, 1) := by decide +kernel
theorem dX8_around_5 : decode cX8_around 5 = .ok (.iconst 4, 1) := by decide +kernel
theorem dX8_around_6 : decode cX8_around 6 = .ok (.irem, 1) := by decide +kernel
theorem dX8_around_7 : decode cX8_around 7 = .ok (.iload_n 2, 1) := by decide +kernel
theorem dX8_around_8 : decode cX8_around 8 = .ok (.iconst 1, 1) := by decide +kernel
theorem dX8_around_9 : decode cX8_around 9 = .ok (.if_icmp .eq 8, 3) := by decide +kernel
theorem dX8_around_12 : decode cX8_around 12 = .ok (.iload_n 2, 1) := by decide +kernel
theorem dX8_around_13 : decode cX8_around 13 = .ok (.iconst 2, 1) := by decide +kernel
theorem dX8_around_14 : decode cX8_around 14 = .ok (.if_icmp .ne 7, 3) := by decide +kernel
theorem dX8_around_17 : decode cX8_around 17 = .ok (.iconst 1, 1) := by decide +kernel
theorem dX8_around_18 : decode cX8_around 18 = .ok (.goto 4, 3) := by decide +kernel
theorem dX8_around_21 : decode cX8_around 21 = .ok (.iconst 0, 1) := by decide +kernel
theorem dX8_around_22 : decode cX8_around 22 = .ok (.iadd, 1) := by decide +kernel
theorem dX8_around_23 : decode cX8_around 23 = .ok (.iload_n 0, 1) := by decide +kernel
theorem dX8_around_24 : decode cX8_around 24 = .ok (.iconst 4, 1) := by decide +kernel
theorem dX8_around_25 : decode cX8_around 25 = .ok (.idiv, 1) := by decide +kernel
theorem dX8_around_26 : decode cX8_around 26 = .ok (.iload_n 2, 1) := by decide +kernel
theorem dX8_around_27 : decode cX8_around 27 = .ok (.iconst 1, 1) := by decide +kernel
theorem dX8_around_28 : decode cX8_around 28 = .ok (.if_icmp .le 7, 3) := by decide +kernel
theorem dX8_around_31 : decode cX8_around 31 = .ok (.iconst 1, 1) := by decide +kernel
theorem dX8_around_32 : decode cX8_around 32 = .ok (.goto 4, 3) := by decide +kernel
theorem dX8_around_35 : decode cX8_around 35 = .ok (.iconst 0, 1) := by decide +kernel
theorem dX8_around_36 : decode cX8_around 36 = .ok (.iadd, 1) := by decide +kernel
theorem dX8_around_37 : decode cX8_around 37 = .ok (.invokestatic 53, 3) := by decide +kernel
theorem dX8_around_40 : decode cX8_around 40 = .ok (.ireturn, 1) := by decide +kernel
set_option maxRecDepth 20000 in
theorem ggX8_isFolded_X8_around : GoodIn wsX8_isFolded wsX8_around := goodIn_r _ [5, 6, 7, 4, 8] (by decide +kernel) (by decide +kernel)
set_option maxRecDepth 20000 in
theorem gX8_isFolded_X8_around : GoodIn wsX8_isFolded (va_wsS RX8 98 yX8_around wsX8_around) := goodIn_app (goodIn_of _ (by decide +kernel)) ggX8_isFolded_X8_around
theorem dX8_isFolded_0 : decode cX8_isFolded 0 = .ok (.iconst 0, 1) := by decide +kernel
theorem dX8_isFolded_1 : decode cX8_isFolded 1 = .ok (.istore_n 2, 1) := by decide +kernel
theorem dX8_isFolded_2 : decode cX8_isFolded 2 = .ok (.iconst 0, 1) := by decide +kernel
theorem dX8_isFolded_3 : decode cX8_isFolded 3 = .ok (.istore_n 3, 1) := by decide +kernel
theorem dX8_isFolded_4 : decode cX8_isFolded 4 = .ok (.iload_n 3, 1) := by decide +kernel
theorem dX8_isFolded_5 : decode cX8_isFolded 5 = .ok (.iconst 4, 1) := by decide +kernel
theorem dX8_isFolded_6 : decode cX8_isFolded 6 = .ok (.if_icmp .ge 130, 3) := by decide +kernel
theorem dX8_isFolded_9 : decode cX8_isFolded 9 = .ok (.iload_n 1, 1) := by decide +kernel
theorem dX8_isFolded_10 : decode cX8_isFolded 10 = .ok (.iload_n 3, 1) := by decide +kernel
theorem dX8_isFolded_11 : decode cX8_isFolded 11 = .ok (.invokestatic 98, 3) := by decide +kernel
theorem dX8_isFolded_14 : decode cX8_isFolded 14 = .ok (.istore 4, 2) := by decide +kernel
theorem dX8_isFolded_16 : decode cX8_isFolded 16 = .ok (.iload_n 1, 1) := by decide +kernel
theorem dX8_isFolded_17 : decode cX8_isFolded 17 = .ok (.iload_n 3, 1) := by decide +kernel
theorem dX8_isFolded_18 : decode cX8_isFolded 18 = .ok (.iconst 1, 1) := by decide +kernel
theorem dX8_isFolded_19 : decode cX8_isFolded 19 = .ok (.iadd, 1) := by decide +kernel
theorem dX8_isFolded_20 : decode cX8_isFolded 20 = .ok (.invokestatic 98, 3) := by decide +kernel
theorem dX8_isFolded_23 : decode cX8_isFolded 23 = .ok (.istore 5, 2) := by decide +kernel
theorem dX8_isFolded_25 : decode cX8_isFolded 25 = .ok (.iload_n 1, 1) := by decide +kernel
theorem dX8_isFolded_26 : decode cX8_isFolded 26 = .ok (.iload_n 3, 1) := by decide +kernel
theorem dX8_isFolded_27 : decode cX8_isFolded 27 = .ok (.iconst 2, 1) := by decide +kernel
theorem dX8_isFolded_28 : decode cX8_isFolded 28 = .ok (.iadd, 1) := by decide +kernel
theorem dX8_isFolded_29 : decode cX8_isFolded 29 = .ok (.invokestatic 98, 3) := by decide +kernel
theorem dX8_isFolded_32 : decode cX8_isFolded 32 = .ok (.istore 6, 2) := by decide +kernel
theorem dX8_isFolded_34 : decode cX8_isFolded 34 = .ok (.aload_n 0, 1) := by decide +kernel
theorem dX8_isFolded_35 : decode cX8_isFolded 35 = .ok (.getfield 7, 3) := by decide +kernel
theorem dX8_isFolded_38 : decode cX8_isFolded 38 = .ok (.iload 5, 2) := by decide +kernel
theorem dX8_isFolded_40 : decode cX8_isFolded 40 = .ok (.iconst 0, 1) := by decide +kernel
theorem dX8_isFolded_41 : decode cX8_isFolded 41 = .ok (.iadd, 1) := by decide +kernel
theorem dX8_isFolded_42 : decode cX8_isFolded 42 = .ok (.iaload, 1) := by decide +kernel
theorem dX8_isFolded_43 : decode cX8_isFolded 43 = .ok (.aload_n 0, 1) := by decide +kernel
theorem dX8_isFolded_44 : decode cX8_isFolded 44 = .ok (.getfield 7, 3) := by decide +kernel
theorem dX8_isFolded_47 : decode cX8_isFolded 47 = .ok (.iload 4, 2) := by decide +kernel
theorem dX8_isFolded_49 : decode cX8_isFolded 49 = .ok (.iconst 0, 1) := by decide +kernel
theorem dX8_isFolded_50 : decode cX8_isFolded 50 = .ok (.iadd, 1) := by decide +kernel
theorem dX8_isFolded_51 : decode cX8_isFolded 51 = .ok (.iaload, 1) := by decide +kernel
theorem dX8_isFolded_52 : decode cX8_isFolded 52 = .ok (.isub, 1) := by decide +kernel
theorem dX8_isFolded_53 : decode cX8_isFolded 53 = .ok (.aload_n 0, 1) := by decide +kernel
theorem dX8_isFolded_54 : decode cX8_isFolded 54 = .ok (.getfield 7, 3) := by decide +kernel
theorem dX8_isFolded_57 : decode cX8_isFolded 57 = .ok (.iload 6, 2) := by decide +kernel
theorem dX8_isFolded_59 : decode cX8_isFolded 59 = .ok (.iconst 1, 1) := by decide +kernel
theorem dX8_isFolded_60 : decode cX8_isFolded 60 = .ok (.iadd, 1) := by decide +kernel
theorem dX8_isFolded_61 : decode cX8_isFolded 61 = .ok (.iaload, 1) := by decide +kernel
theorem dX8_isFolded_62 : decode cX8_isFolded 62 = .ok (.aload_n 0, 1) := by decide +kernel
theorem dX8_isFolded_63 : decode cX8_isFolded 63 = .ok (.getfield 7, 3) := by decide +kernel
theorem dX8_isFolded_66 : decode cX8_isFolded 66 = .ok (.iload 5, 2) := by decide +kernel
theorem dX8_isFolded_68 : decode cX8_isFolded 68 = .ok (.iconst 1, 1) := by decide +kernel
theorem dX8_isFolded_69 : decode cX8_isFolded 69 = .ok (.iadd, 1) := by decide +kernel
theorem dX8_isFolded_70 : decode cX8_isFolded 70 = .ok (.iaload, 1) := by decide +kernel
theorem dX8_isFolded_71 : decode cX8_isFolded 71 = .ok (.isub, 1) := by decide +kernel
theorem dX8_isFolded_72 : decode cX8_isFolded 72 = .ok (.imul, 1) := by decide +kernel
theorem dX8_isFolded_73 : decode cX8_isFolded 73 = .ok (.aload_n 0, 1) := by decide +kernel
theorem dX8_isFolded_74 : decode cX8_isFolded 74 = .ok (.getfield 7, 3) := by decide +kernel
theorem dX8_isFolded_77 : decode cX8_isFolded 77 = .ok (.iload 5, 2) := by decide +kernel
theorem dX8_isFolded_79 : decode cX8_isFolded 79 = .ok (.iconst 1, 1) := by decide +kernel
theorem dX8_isFolded_80 : decode cX8_isFolded 80 = .ok (.iadd, 1) := by decide +kernel
theorem dX8_isFolded_81 : decode cX8_isFolded 81 = .ok (.iaload, 1) := by decide +kernel
theorem dX8_isFolded_82 : decode cX8_isFolded 82 = .ok (.aload_n 0, 1) := by decide +kernel
theorem dX8_isFolded_83 : decode cX8_isFolded 83 = .ok (.getfield 7, 3) := by decide +kernel
theorem dX8_isFolded_86 : decode cX8_isFolded 86 = .ok (.iload 4, 2) := by decide +kernel
theorem dX8_isFolded_88 : decode cX8_isFolded 88 = .ok (.iconst 1, 1) := by decide +kernel
theorem dX8_isFolded_89 : decode cX8_isFolded 89 = .ok (.iadd, 1) := by decide +kernel
theorem dX8_isFolded_90 : decode cX8_isFolded 90 = .ok (.iaload, 1) := by decide +kernel
theorem dX8_isFolded_91 : decode cX8_isFolded 91 = .ok (.isub, 1) := by decide +kernel
theorem dX8_isFolded_92 : decode cX8_isFolded 92 = .ok (.aload_n 0, 1) := by decide +kernel
theorem dX8_isFolded_93 : decode cX8_isFolded 93 = .ok (.getfield 7, 3) := by decide +kernel
theorem dX8_isFolded_96 : decode cX8_isFolded 96 = .ok (.iload 6, 2) := by decide +kernel
theorem dX8_isFolded_98 : decode cX8_isFolded 98 = .ok (.iconst 0, 1) := by decide +kernel
theorem dX8_isFolded_99 : decode cX8_isFolded 99 = .ok (.iadd, 1) := by decide +kernel
theorem dX8_isFolded_100 : decode cX8_isFolded 100 = .ok (.iaload, 1) := by decide +kernel
theorem dX8_isFolded_101 : decode cX8_isFolded 101 = .ok (.aload_n 0, 1) := by decide +kernel
theorem dX8_isFolded_102 : decode cX8_isFolded 102 = .ok (.getfield 7, 3) := by decide +kernel
theorem dX8_isFolded_105 : decode cX8_isFolded 105 = .ok (.iload 5, 2) := by decide +kernel
theorem dX8_isFolded_107 : decode cX8_isFolded 107 = .ok (.iconst 0, 1) := by decide +kernel
theorem dX8_isFolded_108 : decode cX8_isFolded 108 = .ok (.iadd, 1) := by decide +kernel
theorem dX8_isFolded_109 : decode cX8_isFolded 109 = .ok (.iaload, 1) := by decide +kernel
theorem dX8_isFolded_110 : decode cX8_isFolded 110 = .ok (.isub, 1) := by decide +kernel
theorem dX8_isFolded_111 : decode cX8_isFolded 111 = .ok (.imul, 1) := by decide +kernel
theorem dX8_isFolded_112 : decode cX8_isFolded 112 = .ok (.isub, 1) := by decide +kernel
theorem dX8_isFolded_113 : decode cX8_isFolded 113 = .ok (.istore 7, 2) := by decide +kernel
theorem dX8_isFolded_115 : decode cX8_isFolded 115 = .ok (.iload_n 2, 1) := by decide +kernel
theorem dX8_isFolded_116 : decode cX8_isFolded 116 = .ok (.ifCond .ne 8, 3) := by decide +kernel
theorem dX8_isFolded_119 : decode cX8_isFolded 119 = .ok (.iload 7, 2) := by decide +kernel
theorem dX8_isFolded_121 : decode cX8_isFolded 121 = .ok (.ifCond .gt 7, 3) := by decide +kernel
theorem dX8_isFolded_124 : decode cX8_isFolded 124 = .ok (.iconst 1, 1) := by decide +kernel
theorem dX8_isFolded_125 : decode cX8_isFolded 125 = .ok (.goto 4, 3) := by decide +kernel
theorem dX8_isFolded_128 : decode cX8_isFolded 128 = .ok (.iconst 0, 1) := by decide +kernel
theorem dX8_isFolded_129 : decode cX8_isFolded 129 = .ok (.istore_n 2, 1) := by decide +kernel
theorem dX8_isFolded_130 : decode cX8_isFolded 130 = .ok (.iinc 3 1, 3) := by decide +kernel
theorem dX8_isFolded_133 : decode cX8_isFolded 133 = .ok (.goto (-129), 3) := by decide +kernel
theorem dX8_isFolded_136 : decode cX8_isFolded 136 = .ok (.iload_n 2, 1) := by decide +kernel
theorem dX8_isFolded_137 : decode cX8_isFolded 137 = .ok (.ireturn, 1) := by decide +kernel
set_option maxRecDepth 20000 in
theorem ggX8_folded_X8_isFolded : GoodIn wsX8_folded wsX8_isFolded := goodIn_r _ [5, 6, 7, 8, 4, 9, 10, 11, 12, 13, 14, 15, 16, 17, 18, 19, 20, 21, 22, 23, 24, 25, 26, 27, 28, 29, 30] (by decide +kernel) (by decide +kernel)
set_option maxRecDepth 20000 in
theorem gX8_folded_X8_isFolded : GoodIn wsX8_folded (wsV RX8 101 RX8 yX8_isFolded wsX8_isFolded) := goodIn_app (goodIn_of _ (by decide +kernel)) ggX8_folded_X8_isFolded
theorem dX8_folded_0 : decode cX8_folded 0 = .ok (.iconst 0, 1) := by decide +kernel
theorem dX8_folded_1 : decode cX8_folded 1 = .ok (.istore_n 1, 1) := by decide +kernel
theorem dX8_folded_2 : decode cX8_folded 2 = .ok (.iconst 0, 1) := by decide +kernel
theorem dX8_folded_3 : decode cX8_folded 3 = .ok (.istore_n 2, 1) := by decide +kernel
theorem dX8_folded_4 : decode cX8_folded 4 = .ok (.iload_n 2, 1) := by decide +kernel
theorem dX8_folded_5 : decode cX8_folded 5 = .ok (.bipush 12, 2) := by decide +kernel
theorem dX8_folded_7 : decode cX8_folded 7 = .ok (.if_icmp .ge 25, 3) := by decide +kernel
theorem dX8_folded_10 : decode cX8_folded 10 = .ok (.iload_n 1, 1) := by decide +kernel
theorem dX8_folded_11 : decode cX8_folded 11 = .ok (.aload_n 0, 1) := by decide +kernel
theorem dX8_folded_12 : decode cX8_folded 12 = .ok (.iload_n 2, 1) := by decide +kernel
theorem dX8_folded_13 : decode cX8_folded 13 = .ok (.invokevirtual 101, 3) := by decide +kernel
theorem dX8_folded_16 : decode cX8_folded 16 = .ok (.ifCond .eq 7, 3) := by decide +kernel
theorem dX8_folded_19 : decode cX8_folded 19 = .ok (.iconst 1, 1) := by decide +kernel
theorem dX8_folded_20 : decode cX8_folded 20 = .ok (.goto 4, 3) := by decide +kernel
theorem dX8_folded_23 : decode cX8_folded 23 = .ok (.iconst 0, 1) := by decide +kernel
theorem dX8_folded_24 : decode cX8_folded 24 = .ok (.iadd, 1) := by decide +kernel
theorem dX8_folded_25 : decode cX8_folded 25 = .ok (.istore_n 1, 1) := by decide +kernel
theorem dX8_folded_26 : decode cX8_folded 26 = .ok (.iinc 2 1, 3) := by decide +kernel
theorem dX8_folded_29 : decode cX8_folded 29 = .ok (.goto (-25), 3) := by decide +kernel
theorem dX8_folded_32 : decode cX8_folded 32 = .ok (.iload_n 1, 1) := by decide +kernel
theorem dX8_folded_33 : decode cX8_folded 33 = .ok (.ireturn, 1) := by decide +kernel
set_option maxRecDepth 20000 in
theorem ggX8_area_X8_around : GoodIn wsX8_area wsX8_around := goodIn_r _ [5, 6, 7, 4, 8] (by decide +kernel) (by decide +kernel)
set_option maxRecDepth 20000 in
theorem gX8_area_X8_around : GoodIn wsX8_area (va_wsS RX8 98 yX8_around wsX8_around) := goodIn_app (goodIn_of _ (by decide +kernel)) ggX8_area_X8_around
theorem dX8_area_0 : decode cX8_area 0 = .ok (.iconst 0, 1) := by decide +kernel
theorem dX8_area_1 : decode cX8_area 1 = .ok (.istore_n 2, 1) := by decide +kernel
theorem dX8_area_2 : decode cX8_area 2 = .ok (.iconst 0, 1) := by decide +kernel
theorem dX8_area_3 : decode cX8_area 3 = .ok (.istore_n 3, 1) := by decide +kernel
theorem dX8_area_4 : decode cX8_area 4 = .ok (.iload_n 3, 1) := by decide +kernel
theorem dX8_area_5 : decode cX8_area 5 = .ok (.iconst 4, 1) := by decide +kernel
theorem dX8_area_6 : decode cX8_area 6 = .ok (.if_icmp .ge 67, 3) := by decide +kernel
theorem dX8_area_9 : decode cX8_area 9 = .ok (.iload_n 1, 1) := by decide +kernel
theorem dX8_area_10 : decode cX8_area 10 = .ok (.iload_n 3, 1) := by decide +kernel
theorem dX8_area_11 : decode cX8_area 11 = .ok (.invokestatic 98, 3) := by decide +kernel
theorem dX8_area_14 : decode cX8_area 14 = .ok (.istore 4, 2) := by decide +kernel
theorem dX8_area_16 : decode cX8_area 16 = .ok (.iload_n 1, 1) := by decide +kernel
theorem dX8_area_17 : decode cX8_area 17 = .ok (.iload_n 3, 1) := by decide +kernel
theorem dX8_area_18 : decode cX8_area 18 = .ok (.iconst 1, 1) := by decide +kernel
theorem dX8_area_19 : decode cX8_area 19 = .ok (.iadd, 1) := by decide +kernel
theorem dX8_area_20 : decode cX8_area 20 = .ok (.invokestatic 98, 3) := by decide +kernel
theorem dX8_area_23 : decode cX8_area 23 = .ok (.istore 5, 2) := by decide +kernel
theorem dX8_area_25 : decode cX8_area 25 = .ok (.iload_n 2, 1) := by decide +kernel
theorem dX8_area_26 : decode cX8_area 26 = .ok (.aload_n 0, 1) := by decide +kernel
theorem dX8_area_27 : decode cX8_area 27 = .ok (.getfield 7, 3) := by decide +kernel
theorem dX8_area_30 : decode cX8_area 30 = .ok (.iload 4, 2) := by decide +kernel
theorem dX8_area_32 : decode cX8_area 32 = .ok (.iconst 0, 1) := by decide +kernel
theorem dX8_area_33 : decode cX8_area 33 = .ok (.iadd, 1) := by decide +kernel
theorem dX8_area_34 : decode cX8_area 34 = .ok (.iaload, 1) := by decide +kernel
theorem dX8_area_35 : decode cX8_area 35 = .ok (.aload_n 0, 1) := by decide +kernel
theorem dX8_area_36 : decode cX8_area 36 = .ok (.getfield 7, 3) := by decide +kernel
theorem dX8_area_39 : decode cX8_area 39 = .ok (.iload 5, 2) := by decide +kernel
theorem dX8_area_41 : decode cX8_area 41 = .ok (.iconst 1, 1) := by decide +kernel
theorem dX8_area_42 : decode cX8_area 42 = .ok (.iadd, 1) := by decide +kernel
theorem dX8_area_43 : decode cX8_area 43 = .ok (.iaload, 1) := by decide +kernel
theorem dX8_area_44 : decode cX8_area 44 = .ok (.imul, 1) := by decide +kernel
theorem dX8_area_45 : decode cX8_area 45 = .ok (.aload_n 0, 1) := by decide +kernel
theorem dX8_area_46 : decode cX8_area 46 = .ok (.getfield 7, 3) := by decide +kernel
theorem dX8_area_49 : decode cX8_area 49 = .ok (.iload 5, 2) := by decide +kernel
theorem dX8_area_51 : decode cX8_area 51 = .ok (.iconst 0, 1) := by decide +kernel
theorem dX8_area_52 : decode cX8_area 52 = .ok (.iadd, 1) := by decide +kernel
theorem dX8_area_53 : decode cX8_area 53 = .ok (.iaload, 1) := by decide +kernel
theorem dX8_area_54 : decode cX8_area 54 = .ok (.aload_n 0, 1) := by decide +kernel
theorem dX8_area_55 : decode cX8_area 55 = .ok (.getfield 7, 3) := by decide +kernel
theorem dX8_area_58 : decode cX8_area 58 = .ok (.iload 4, 2) := by decide +kernel
theorem dX8_area_60 : decode cX8_area 60 = .ok (.iconst 1, 1) := by decide +kernel
theorem dX8_area_61 : decode cX8_area 61 = .ok (.iadd, 1) := by decide +kernel
theorem dX8_area_62 : decode cX8_area 62 = .ok (.iaload, 1) := by decide +kernel
theorem dX8_area_63 : decode cX8_area 63 = .ok (.imul, 1) := by decide +kernel
theorem dX8_area_64 : decode cX8_area 64 = .ok (.isub, 1) := by decide +kernel
theorem dX8_area_65 : decode cX8_area 65 = .ok (.iadd, 1) := by decide +kernel
theorem dX8_area_66 : decode cX8_area 66 = .ok (.istore_n 2, 1) := by decide +kernel
theorem dX8_area_67 : decode cX8_area 67 = .ok (.iinc 3 1, 3) := by decide +kernel
theorem dX8_area_70 : decode cX8_area 70 = .ok (.goto (-66), 3) := by decide +kernel
theorem dX8_area_73 : decode cX8_area 73 = .ok (.iload_n 2, 1) := by decide +kernel
theorem dX8_area_74 : decode cX8_area 74 = .ok (.ifCond .ge 8, 3) := by decide +kernel
theorem dX8_area_77 : decode cX8_area 77 = .ok (.iload_n 2, 1) := by decide +kernel
theorem dX8_area_78 : decode cX8_area 78 = .ok (.ineg, 1) := by decide +kernel
theorem dX8_area_79 : decode cX8_area 79 = .ok (.goto 4, 3) := by decide +kernel
theorem dX8_area_82 : decode cX8_area 82 = .ok (.iload_n 2, 1) := by decide +kernel
theorem dX8_area_83 : decode cX8_area 83 = .ok (.ireturn, 1) := by decide +kernel
set_option maxRecDepth 20000 in
theorem ggX8_looks_X8_colour : GoodIn wsX8_looks wsX8_colour := goodIn_r _ [7, 8, 9, 10, 11, 6, 12, 13, 14, 15, 16, 17, 18, 19, 20, 21, 22, 23, 24, 25, 26, 27, 28, 29, 30, 31, 32, 33, 34, 35, 36, 37, 38, 39, 40] (by decide +kernel) (by decide +kernel)
set_option maxRecDepth 20000 in
theorem gX8_looks_X8_colour : GoodIn wsX8_looks (wsV RX8 92 RX8 yX8_colour wsX8_colour) := goodIn_app (goodIn_of _ (by decide +kernel)) ggX8_looks_X8_colour
theorem dX8_looks_0 : decode cX8_looks 0 = .ok (.iconst 0, 1) := by decide +kernel
theorem dX8_looks_1 : decode cX8_looks 1 = .ok (.istore_n 2, 1) := by decide +kernel
theorem dX8_looks_2 : decode cX8_looks 2 = .ok (.iload_n 2, 1) := by decide +kernel
theorem dX8_looks_3 : decode cX8_looks 3 = .ok (.bipush 81, 2) := by decide +kernel
theorem dX8_looks_5 : decode cX8_looks 5 = .ok (.if_icmp .ge 66, 3) := by decide +kernel
theorem dX8_looks_8 : decode cX8_looks 8 = .ok (.aload_n 0, 1) := by decide +kernel
theorem dX8_looks_9 : decode cX8_looks 9 = .ok (.getfield 28, 3) := by decide +kernel
theorem dX8_looks_12 : decode cX8_looks 12 = .ok (.iload_n 2, 1) := by decide +kernel
theorem dX8_looks_13 : decode cX8_looks 13 = .ok (.ldc 104, 2) := by decide +kernel
theorem dX8_looks_15 : decode cX8_looks 15 = .ok (.aload_n 0, 1) := by decide +kernel
theorem dX8_looks_16 : decode cX8_looks 16 = .ok (.iload_n 1, 1) := by decide +kernel
theorem dX8_looks_17 : decode cX8_looks 17 = .ok (.iload_n 2, 1) := by decide +kernel
theorem dX8_looks_18 : decode cX8_looks 18 = .ok (.bipush 9, 2) := by decide +kernel
theorem dX8_looks_20 : decode cX8_looks 20 = .ok (.irem, 1) := by decide +kernel
theorem dX8_looks_21 : decode cX8_looks 21 = .ok (.iload_n 2, 1) := by decide +kernel
theorem dX8_looks_22 : decode cX8_looks 22 = .ok (.bipush 9, 2) := by decide +kernel
theorem dX8_looks_24 : decode cX8_looks 24 = .ok (.idiv, 1) := by decide +kernel
theorem dX8_looks_25 : decode cX8_looks 25 = .ok (.iconst 0, 1) := by decide +kernel
theorem dX8_looks_26 : decode cX8_looks 26 = .ok (.invokevirtual 92, 3) := by decide +kernel
theorem dX8_looks_29 : decode cX8_looks 29 = .ok (.imul, 1) := by decide +kernel
theorem dX8_looks_30 : decode cX8_looks 30 = .ok (.sipush 256, 3) := by decide +kernel
theorem dX8_looks_33 : decode cX8_looks 33 = .ok (.aload_n 0, 1) := by decide +kernel
theorem dX8_looks_34 : decode cX8_looks 34 = .ok (.iload_n 1, 1) := by decide +kernel
theorem dX8_looks_35 : decode cX8_looks 35 = .ok (.iload_n 2, 1) := by decide +kernel
theorem dX8_looks_36 : decode cX8_looks 36 = .ok (.bipush 9, 2) := by decide +kernel
theorem dX8_looks_38 : decode cX8_looks 38 = .ok (.irem, 1) := by decide +kernel
theorem dX8_looks_39 : decode cX8_looks 39 = .ok (.iload_n 2, 1) := by decide +kernel
theorem dX8_looks_40 : decode cX8_looks 40 = .ok (.bipush 9, 2) := by decide +kernel
theorem dX8_looks_42 : decode cX8_looks 42 = .ok (.idiv, 1) := by decide +kernel
theorem dX8_looks_43 : decode cX8_looks 43 = .ok (.iconst 1, 1) := by decide +kernel
theorem dX8_looks_44 : decode cX8_looks 44 = .ok (.invokevirtual 92, 3) := by decide +kernel
theorem dX8_looks_47 : decode cX8_looks 47 = .ok (.imul, 1) := by decide +kernel
theorem dX8_looks_48 : decode cX8_looks 48 = .ok (.iadd, 1) := by decide +kernel
theorem dX8_looks_49 : decode cX8_looks 49 = .ok (.aload_n 0, 1) := by decide +kernel
theorem dX8_looks_50 : decode cX8_looks 50 = .ok (.iload_n 1, 1) := by decide +kernel
theorem dX8_looks_51 : decode cX8_looks 51 = .ok (.iload_n 2, 1) := by decide +kernel
theorem dX8_looks_52 : decode cX8_looks 52 = .ok (.bipush 9, 2) := by decide +kernel
theorem dX8_looks_54 : decode cX8_looks 54 = .ok (.irem, 1) := by decide +kernel
theorem dX8_looks_55 : decode cX8_looks 55 = .ok (.iload_n 2, 1) := by decide +kernel
theorem dX8_looks_56 : decode cX8_looks 56 = .ok (.bipush 9, 2) := by decide +kernel
theorem dX8_looks_58 : decode cX8_looks 58 = .ok (.idiv, 1) := by decide +kernel
theorem dX8_looks_59 : decode cX8_looks 59 = .ok (.iconst 2, 1) := by decide +kernel
theorem dX8_looks_60 : decode cX8_looks 60 = .ok (.invokevirtual 92, 3) := by decide +kernel
theorem dX8_looks_63 : decode cX8_looks 63 = .ok (.iadd, 1) := by decide +kernel
theorem dX8_looks_64 : decode cX8_looks 64 = .ok (.iastore, 1) := by decide +kernel
theorem dX8_looks_65 : decode cX8_looks 65 = .ok (.iinc 2 1, 3) := by decide +kernel
theorem dX8_looks_68 : decode cX8_looks 68 = .ok (.goto (-66), 3) := by decide +kernel
theorem dX8_looks_71 : decode cX8_looks 71 = .ok (.return_, 1) := by decide +kernel
theorem dX8_unlike_0 : decode cX8_unlike 0 = .ok (.iconst 0, 1) := by decide +kernel
theorem dX8_unlike_1 : decode cX8_unlike 1 = .ok (.istore_n 2, 1) := by decide +kernel
theorem dX8_unlike_2 : decode cX8_unlike 2 = .ok (.iconst 0, 1) := by decide +kernel
theorem dX8_unlike_3 : decode cX8_unlike 3 = .ok (.istore_n 3, 1) := by decide +kernel
theorem dX8_unlike_4 : decode cX8_unlike 4 = .ok (.iload_n 3, 1) := by decide +kernel
theorem dX8_unlike_5 : decode cX8_unlike 5 = .ok (.iload_n 1, 1) := by decide +kernel
theorem dX8_unlike_6 : decode cX8_unlike 6 = .ok (.if_icmp .ge 68, 3) := by decide +kernel
theorem dX8_unlike_9 : decode cX8_unlike 9 = .ok (.iconst 1, 1) := by decide +kernel
theorem dX8_unlike_10 : decode cX8_unlike 10 = .ok (.istore 4, 2) := by decide +kernel
theorem dX8_unlike_12 : decode cX8_unlike 12 = .ok (.iconst 0, 1) := by decide +kernel
theorem dX8_unlike_13 : decode cX8_unlike 13 = .ok (.istore 5, 2) := by decide +kernel
theorem dX8_unlike_15 : decode cX8_unlike 15 = .ok (.iload 5, 2) := by decide +kernel
theorem dX8_unlike_17 : decode cX8_unlike 17 = .ok (.iload_n 3, 1) := by decide +kernel
theorem dX8_unlike_18 : decode cX8_unlike 18 = .ok (.if_icmp .ge 37, 3) := by decide +kernel
theorem dX8_unlike_21 : decode cX8_unlike 21 = .ok (.iload 4, 2) := by decide +kernel
theorem dX8_unlike_23 : decode cX8_unlike 23 = .ok (.ifCond .eq 32, 3) := by decide +kernel
theorem dX8_unlike_26 : decode cX8_unlike 26 = .ok (.aload_n 0, 1) := by decide +kernel
theorem dX8_unlike_27 : decode cX8_unlike 27 = .ok (.getfield 28, 3) := by decide +kernel
theorem dX8_unlike_30 : decode cX8_unlike 30 = .ok (.iload 5, 2) := by decide +kernel
theorem dX8_unlike_32 : decode cX8_unlike 32 = .ok (.iaload, 1) := by decide +kernel
theorem dX8_unlike_33 : decode cX8_unlike 33 = .ok (.aload_n 0, 1) := by decide +kernel
theorem dX8_unlike_34 : decode cX8_unlike 34 = .ok (.getfield 28, 3) := by decide +kernel
theorem dX8_unlike_37 : decode cX8_unlike 37 = .ok (.iload_n 3, 1) := by decide +kernel
theorem dX8_unlike_38 : decode cX8_unlike 38 = .ok (.iaload, 1) := by decide +kernel
theorem dX8_unlike_39 : decode cX8_unlike 39 = .ok (.if_icmp .eq 7, 3) := by decide +kernel
theorem dX8_unlike_42 : decode cX8_unlike 42 = .ok (.iconst 1, 1) := by decide +kernel
theorem dX8_unlike_43 : decode cX8_unlike 43 = .ok (.goto 4, 3) := by decide +kernel
theorem dX8_unlike_46 : decode cX8_unlike 46 = .ok (.iconst 0, 1) := by decide +kernel
theorem dX8_unlike_47 : decode cX8_unlike 47 = .ok (.istore 4, 2) := by decide +kernel
theorem dX8_unlike_49 : decode cX8_unlike 49 = .ok (.iinc 5 1, 3) := by decide +kernel
theorem dX8_unlike_52 : decode cX8_unlike 52 = .ok (.goto (-37), 3) := by decide +kernel
theorem dX8_unlike_55 : decode cX8_unlike 55 = .ok (.iload_n 2, 1) := by decide +kernel
theorem dX8_unlike_56 : decode cX8_unlike 56 = .ok (.iload 4, 2) := by decide +kernel
theorem dX8_unlike_58 : decode cX8_unlike 58 = .ok (.ifCond .eq 7, 3) := by decide +kernel
theorem dX8_unlike_61 : decode cX8_unlike 61 = .ok (.iconst 1, 1) := by decide +kernel
theorem dX8_unlike_62 : decode cX8_unlike 62 = .ok (.goto 4, 3) := by decide +kernel
theorem dX8_unlike_65 : decode cX8_unlike 65 = .ok (.iconst 0, 1) := by decide +kernel
theorem dX8_unlike_66 : decode cX8_unlike 66 = .ok (.iadd, 1) := by decide +kernel
theorem dX8_unlike_67 : decode cX8_unlike 67 = .ok (.istore_n 2, 1) := by decide +kernel
theorem dX8_unlike_68 : decode cX8_unlike 68 = .ok (.iinc 3 1, 3) := by decide +kernel
theorem dX8_unlike_71 : decode cX8_unlike 71 = .ok (.goto (-67), 3) := by decide +kernel
theorem dX8_unlike_74 : decode cX8_unlike 74 = .ok (.iload_n 2, 1) := by decide +kernel
theorem dX8_unlike_75 : decode cX8_unlike 75 = .ok (.ireturn, 1) := by decide +kernel
theorem dX8_sum_0 : decode cX8_sum 0 = .ok (.sipush (-1004), 3) := by decide +kernel
theorem dX8_sum_3 : decode cX8_sum 3 = .ok (.istore_n 2, 1) := by decide +kernel
theorem dX8_sum_4 : decode cX8_sum 4 = .ok (.iconst 0, 1) := by decide +kernel
theorem dX8_sum_5 : decode cX8_sum 5 = .ok (.istore_n 3, 1) := by decide +kernel
theorem dX8_sum_6 : decode cX8_sum 6 = .ok (.iload_n 3, 1) := by decide +kernel
theorem dX8_sum_7 : decode cX8_sum 7 = .ok (.bipush 81, 2) := by decide +kernel
theorem dX8_sum_9 : decode cX8_sum 9 = .ok (.if_icmp .ge 76, 3) := by decide +kernel
theorem dX8_sum_12 : decode cX8_sum 12 = .ok (.aload_n 0, 1) := by decide +kernel
theorem dX8_sum_13 : decode cX8_sum 13 = .ok (.getfield 28, 3) := by decide +kernel
theorem dX8_sum_16 : decode cX8_sum 16 = .ok (.iload_n 3, 1) := by decide +kernel
theorem dX8_sum_17 : decode cX8_sum 17 = .ok (.iaload, 1) := by decide +kernel
theorem dX8_sum_18 : decode cX8_sum 18 = .ok (.ldc 104, 2) := by decide +kernel
theorem dX8_sum_20 : decode cX8_sum 20 = .ok (.idiv, 1) := by decide +kernel
theorem dX8_sum_21 : decode cX8_sum 21 = .ok (.aload_n 0, 1) := by decide +kernel
theorem dX8_sum_22 : decode cX8_sum 22 = .ok (.getfield 28, 3) := by decide +kernel
theorem dX8_sum_25 : decode cX8_sum 25 = .ok (.iload_n 3, 1) := by decide +kernel
theorem dX8_sum_26 : decode cX8_sum 26 = .ok (.iaload, 1) := by decide +kernel
theorem dX8_sum_27 : decode cX8_sum 27 = .ok (.sipush 256, 3) := by decide +kernel
theorem dX8_sum_30 : decode cX8_sum 30 = .ok (.idiv, 1) := by decide +kernel
theorem dX8_sum_31 : decode cX8_sum 31 = .ok (.sipush 256, 3) := by decide +kernel
theorem dX8_sum_34 : decode cX8_sum 34 = .ok (.irem, 1) := by decide +kernel
theorem dX8_sum_35 : decode cX8_sum 35 = .ok (.iadd, 1) := by decide +kernel
theorem dX8_sum_36 : decode cX8_sum 36 = .ok (.aload_n 0, 1) := by decide +kernel
theorem dX8_sum_37 : decode cX8_sum 37 = .ok (.getfield 28, 3) := by decide +kernel
theorem dX8_sum_40 : decode cX8_sum 40 = .ok (.iload_n 3, 1) := by decide +kernel
theorem dX8_sum_41 : decode cX8_sum 41 = .ok (.iaload, 1) := by decide +kernel
theorem dX8_sum_42 : decode cX8_sum 42 = .ok (.sipush 256, 3) := by decide +kernel
theorem dX8_sum_45 : decode cX8_sum 45 = .ok (.irem, 1) := by decide +kernel
theorem dX8_sum_46 : decode cX8_sum 46 = .ok (.iadd, 1) := by decide +kernel
theorem dX8_sum_47 : decode cX8_sum 47 = .ok (.istore 4, 2) := by decide +kernel
theorem dX8_sum_49 : decode cX8_sum 49 = .ok (.iload_n 2, 1) := by decide +kernel
theorem dX8_sum_50 : decode cX8_sum 50 = .ok (.ifCond .lt 22, 3) := by decide +kernel
theorem dX8_sum_53 : decode cX8_sum 53 = .ok (.iload_n 1, 1) := by decide +kernel
theorem dX8_sum_54 : decode cX8_sum 54 = .ok (.ifCond .eq 12, 3) := by decide +kernel
theorem dX8_sum_57 : decode cX8_sum 57 = .ok (.iload 4, 2) := by decide +kernel
theorem dX8_sum_59 : decode cX8_sum 59 = .ok (.iload_n 2, 1) := by decide +kernel
theorem dX8_sum_60 : decode cX8_sum 60 = .ok (.if_icmp .le 17, 3) := by decide +kernel
theorem dX8_sum_63 : decode cX8_sum 63 = .ok (.goto 9, 3) := by decide +kernel
theorem dX8_sum_66 : decode cX8_sum 66 = .ok (.iload 4, 2) := by decide +kernel
theorem dX8_sum_68 : decode cX8_sum 68 = .ok (.iload_n 2, 1) := by decide +kernel
theorem dX8_sum_69 : decode cX8_sum 69 = .ok (.if_icmp .ge 8, 3) := by decide +kernel
theorem dX8_sum_72 : decode cX8_sum 72 = .ok (.iload 4, 2) := by decide +kernel
theorem dX8_sum_74 : decode cX8_sum 74 = .ok (.goto 4, 3) := by decide +kernel
theorem dX8_sum_77 : decode cX8_sum 77 = .ok (.iload_n 2, 1) := by decide +kernel
theorem dX8_sum_78 : decode cX8_sum 78 = .ok (.istore_n 2, 1) := by decide +kernel
theorem dX8_sum_79 : decode cX8_sum 79 = .ok (.iinc 3 1, 3) := by decide +kernel
theorem dX8_sum_82 : decode cX8_sum 82 = .ok (.goto (-76), 3) := by decide +kernel
theorem dX8_sum_85 : decode cX8_sum 85 = .ok (.iload_n 2, 1) := by decide +kernel
theorem dX8_sum_86 : decode cX8_sum 86 = .ok (.ireturn, 1) := by decide +kernel
set_option maxRecDepth 20000 in
theorem ggX8_heldOf_X8_around : GoodIn wsX8_heldOf wsX8_around := goodIn_r _ [5, 6, 7, 4, 8] (by decide +kernel) (by decide +kernel)
set_option maxRecDepth 20000 in
theorem gX8_heldOf_X8_around : GoodIn wsX8_heldOf (va_wsS RX8 98 yX8_around wsX8_around) := goodIn_app (goodIn_of _ (by decide +kernel)) ggX8_heldOf_X8_around
theorem dX8_heldOf_0 : decode cX8_heldOf 0 = .ok (.iconst 0, 1) := by decide +kernel
theorem dX8_heldOf_1 : decode cX8_heldOf 1 = .ok (.istore_n 2, 1) := by decide +kernel
theorem dX8_heldOf_2 : decode cX8_heldOf 2 = .ok (.iconst 0, 1) := by decide +kernel
theorem dX8_heldOf_3 : decode cX8_heldOf 3 = .ok (.istore_n 3, 1) := by decide +kernel
theorem dX8_heldOf_4 : decode cX8_heldOf 4 = .ok (.iload_n 3, 1) := by decide +kernel
theorem dX8_heldOf_5 : decode cX8_heldOf 5 = .ok (.iconst 4, 1) := by decide +kernel
theorem dX8_heldOf_6 : decode cX8_heldOf 6 = .ok (.if_icmp .ge 24, 3) := by decide +kernel
theorem dX8_heldOf_9 : decode cX8_heldOf 9 = .ok (.iload_n 2, 1) := by decide +kernel
theorem dX8_heldOf_10 : decode cX8_heldOf 10 = .ok (.aload_n 0, 1) := by decide +kernel
theorem dX8_heldOf_11 : decode cX8_heldOf 11 = .ok (.getfield 7, 3) := by decide +kernel
theorem dX8_heldOf_14 : decode cX8_heldOf 14 = .ok (.iload_n 1, 1) := by decide +kernel
theorem dX8_heldOf_15 : decode cX8_heldOf 15 = .ok (.iload_n 3, 1) := by decide +kernel
theorem dX8_heldOf_16 : decode cX8_heldOf 16 = .ok (.invokestatic 98, 3) := by decide +kernel
theorem dX8_heldOf_19 : decode cX8_heldOf 19 = .ok (.iconst 5, 1) := by decide +kernel
theorem dX8_heldOf_20 : decode cX8_heldOf 20 = .ok (.iadd, 1) := by decide +kernel
theorem dX8_heldOf_21 : decode cX8_heldOf 21 = .ok (.iaload, 1) := by decide +kernel
theorem dX8_heldOf_22 : decode cX8_heldOf 22 = .ok (.iadd, 1) := by decide +kernel
theorem dX8_heldOf_23 : decode cX8_heldOf 23 = .ok (.istore_n 2, 1) := by decide +kernel
theorem dX8_heldOf_24 : decode cX8_heldOf 24 = .ok (.iinc 3 1, 3) := by decide +kernel
theorem dX8_heldOf_27 : decode cX8_heldOf 27 = .ok (.goto (-23), 3) := by decide +kernel
theorem dX8_heldOf_30 : decode cX8_heldOf 30 = .ok (.iload_n 2, 1) := by decide +kernel
theorem dX8_heldOf_31 : decode cX8_heldOf 31 = .ok (.ireturn, 1) := by decide +kernel
set_option maxRecDepth 20000 in
theorem ggX8_patchOf_X8_isPatch : GoodIn wsX8_patchOf wsX8_isPatch := goodIn_r _ [4, 5, 6, 3, 7] (by decide +kernel) (by decide +kernel)
set_option maxRecDepth 20000 in
theorem gX8_patchOf_X8_isPatch : GoodIn wsX8_patchOf (va_wsS RX8 88 yX8_isPatch wsX8_isPatch) := goodIn_app (goodIn_of _ (by decide +kernel)) ggX8_patchOf_X8_isPatch
set_option maxRecDepth 20000 in
theorem ggX8_patchOf_X8_in : GoodIn wsX8_patchOf wsX8_in := goodIn_r _ [7] (by decide +kernel) (by decide +kernel)
set_option maxRecDepth 20000 in
theorem gX8_patchOf_X8_in : GoodIn wsX8_patchOf (va_wsS RX8 42 yX8_in wsX8_in) := goodIn_app (goodIn_of _ (by decide +kernel)) ggX8_patchOf_X8_in
set_option maxRecDepth 20000 in
theorem ggX8_patchOf_X8_looks : GoodIn wsX8_patchOf wsX8_looks := goodIn_r _ [11, 12, 13, 14, 15, 16, 3, 17, 18, 19, 20, 21, 22, 23, 24, 25, 26, 27, 28, 29, 30, 31, 32, 56, 57, 58, 59, 60, 61, 62, 63, 64, 65, 66, 67, 68, 69, 70, 71, 72, 73] (by decide +kernel) (by decide +kernel)
set_option maxRecDepth 20000 in
theorem gX8_patchOf_X8_looks : GoodIn wsX8_patchOf (wsV RX8 105 RX8 yX8_looks wsX8_looks) := goodIn_app (goodIn_of _ (by decide +kernel)) ggX8_patchOf_X8_looks
set_option maxRecDepth 20000 in
theorem ggX8_patchOf_X8_isFolded : GoodIn wsX8_patchOf wsX8_isFolded := goodIn_r _ [36, 18, 37, 38, 3, 39, 20, 21, 22, 56, 57, 58, 59, 60, 61, 62, 63, 64, 65, 66, 67, 68, 69, 70, 71, 72, 73] (by decide +kernel) (by decide +kernel)
set_option maxRecDepth 20000 in
theorem gX8_patchOf_X8_isFolded : GoodIn wsX8_patchOf (wsV RX8 101 RX8 yX8_isFolded wsX8_isFolded) := goodIn_app (goodIn_of _ (by decide +kernel)) ggX8_patchOf_X8_isFolded
set_option maxRecDepth 20000 in
theorem ggX8_patchOf_X8_unlike : GoodIn wsX8_patchOf wsX8_unlike := goodIn_r _ [43, 12, 56, 57, 58, 59, 60, 61, 62, 63, 64, 65, 66, 67, 68, 69, 70, 71, 72, 73] (by decide +kernel) (by decide +kernel)
set_option maxRecDepth 20000 in
theorem gX8_patchOf_X8_unlike : GoodIn wsX8_patchOf (wsV RX8 109 RX8 yX8_unlike wsX8_unlike) := goodIn_app (goodIn_of _ (by decide +kernel)) ggX8_patchOf_X8_unlike
set_option maxRecDepth 20000 in
theorem ggX8_patchOf_X8_sum : GoodIn wsX8_patchOf wsX8_sum := goodIn_r _ [47, 12, 13, 56, 57, 58, 59, 60, 61, 62, 63, 64, 65, 66, 67, 68, 69, 70, 71, 72, 73] (by decide +kernel) (by decide +kernel)
set_option maxRecDepth 20000 in
theorem gX8_patchOf_X8_sum : GoodIn wsX8_patchOf (wsV RX8 113 RX8 yX8_sum wsX8_sum) := goodIn_app (goodIn_of _ (by decide +kernel)) ggX8_patchOf_X8_sum
set_option maxRecDepth 20000 in
theorem ggX8_patchOf_X8_heldOf : GoodIn wsX8_patchOf wsX8_heldOf := goodIn_r _ [51, 18, 37, 38, 3, 39, 20, 21, 22, 56, 57, 58, 59, 60, 61, 62, 63, 64, 65, 66, 67, 68, 69, 70, 71, 72, 73] (by decide +kernel) (by decide +kernel)
set_option maxRecDepth 20000 in
theorem gX8_patchOf_X8_heldOf : GoodIn wsX8_patchOf (wsV RX8 117 RX8 yX8_heldOf wsX8_heldOf) := goodIn_app (goodIn_of _ (by decide +kernel)) ggX8_patchOf_X8_heldOf
set_option maxRecDepth 20000 in
theorem ggX8_patchOf_X8_area : GoodIn wsX8_patchOf wsX8_area := goodIn_r _ [55, 18, 37, 38, 3, 39, 20, 21, 22, 56, 57, 58, 59, 60, 61, 62, 63, 64, 65, 66, 67, 68, 69, 70, 71, 72, 73] (by decide +kernel) (by decide +kernel)
set_option maxRecDepth 20000 in
theorem gX8_patchOf_X8_area : GoodIn wsX8_patchOf (wsV RX8 120 RX8 yX8_area wsX8_area) := goodIn_app (goodIn_of _ (by decide +kernel)) ggX8_patchOf_X8_area
theorem dX8_patchOf_0 : decode cX8_patchOf 0 = .ok (.iload_n 1, 1) := by decide +kernel
theorem dX8_patchOf_1 : decode cX8_patchOf 1 = .ok (.invokestatic 88, 3) := by decide +kernel
theorem dX8_patchOf_4 : decode cX8_patchOf 4 = .ok (.ifCond .eq 12, 3) := by decide +kernel
theorem dX8_patchOf_7 : decode cX8_patchOf 7 = .ok (.iload_n 2, 1) := by decide +kernel
theorem dX8_patchOf_8 : decode cX8_patchOf 8 = .ok (.iconst 0, 1) := by decide +kernel
theorem dX8_patchOf_9 : decode cX8_patchOf 9 = .ok (.iconst 5, 1) := by decide +kernel
theorem dX8_patchOf_10 : decode cX8_patchOf 10 = .ok (.invokestatic 42, 3) := by decide +kernel
theorem dX8_patchOf_13 : decode cX8_patchOf 13 = .ok (.ifCond .ne 7, 3) := by decide +kernel
theorem dX8_patchOf_16 : decode cX8_patchOf 16 = .ok (.sipush (-1001), 3) := by decide +kernel
theorem dX8_patchOf_19 : decode cX8_patchOf 19 = .ok (.ireturn, 1) := by decide +kernel
theorem dX8_patchOf_20 : decode cX8_patchOf 20 = .ok (.aload_n 0, 1) := by decide +kernel
theorem dX8_patchOf_21 : decode cX8_patchOf 21 = .ok (.iload_n 1, 1) := by decide +kernel
theorem dX8_patchOf_22 : decode cX8_patchOf 22 = .ok (.invokevirtual 105, 3) := by decide +kernel
theorem dX8_patchOf_25 : decode cX8_patchOf 25 = .ok (.iload_n 2, 1) := by decide +kernel
theorem dX8_patchOf_26 : decode cX8_patchOf 26 = .ok (.tableswitch 76 0 4 #[34, 48, 55, 55, 70], 34) := by decide +kernel
theorem dX8_patchOf_60 : decode cX8_patchOf 60 = .ok (.aload_n 0, 1) := by decide +kernel
theorem dX8_patchOf_61 : decode cX8_patchOf 61 = .ok (.iload_n 1, 1) := by decide +kernel
theorem dX8_patchOf_62 : decode cX8_patchOf 62 = .ok (.invokevirtual 101, 3) := by decide +kernel
theorem dX8_patchOf_65 : decode cX8_patchOf 65 = .ok (.ifCond .eq 7, 3) := by decide +kernel
theorem dX8_patchOf_68 : decode cX8_patchOf 68 = .ok (.iconst 1, 1) := by decide +kernel
theorem dX8_patchOf_69 : decode cX8_patchOf 69 = .ok (.goto 4, 3) := by decide +kernel
theorem dX8_patchOf_72 : decode cX8_patchOf 72 = .ok (.iconst 0, 1) := by decide +kernel
theorem dX8_patchOf_73 : decode cX8_patchOf 73 = .ok (.ireturn, 1) := by decide +kernel
theorem dX8_patchOf_74 : decode cX8_patchOf 74 = .ok (.aload_n 0, 1) := by decide +kernel
theorem dX8_patchOf_75 : decode cX8_patchOf 75 = .ok (.bipush 81, 2) := by decide +kernel
theorem dX8_patchOf_77 : decode cX8_patchOf 77 = .ok (.invokevirtual 109, 3) := by decide +kernel
theorem dX8_patchOf_80 : decode cX8_patchOf 80 = .ok (.ireturn, 1) := by decide +kernel
theorem dX8_patchOf_81 : decode cX8_patchOf 81 = .ok (.aload_n 0, 1) := by decide +kernel
theorem dX8_patchOf_82 : decode cX8_patchOf 82 = .ok (.iload_n 2, 1) := by decide +kernel
theorem dX8_patchOf_83 : decode cX8_patchOf 83 = .ok (.iconst 2, 1) := by decide +kernel
theorem dX8_patchOf_84 : decode cX8_patchOf 84 = .ok (.if_icmp .ne 7, 3) := by decide +kernel
theorem dX8_patchOf_87 : decode cX8_patchOf 87 = .ok (.iconst 1, 1) := by decide +kernel
theorem dX8_patchOf_88 : decode cX8_patchOf 88 = .ok (.goto 4, 3) := by decide +kernel
theorem dX8_patchOf_91 : decode cX8_patchOf 91 = .ok (.iconst 0, 1) := by decide +kernel
theorem dX8_patchOf_92 : decode cX8_patchOf 92 = .ok (.invokevirtual 113, 3) := by decide +kernel
theorem dX8_patchOf_95 : decode cX8_patchOf 95 = .ok (.ireturn, 1) := by decide +kernel
theorem dX8_patchOf_96 : decode cX8_patchOf 96 = .ok (.aload_n 0, 1) := by decide +kernel
theorem dX8_patchOf_97 : decode cX8_patchOf 97 = .ok (.iload_n 1, 1) := by decide +kernel
theorem dX8_patchOf_98 : decode cX8_patchOf 98 = .ok (.invokevirtual 117, 3) := by decide +kernel
theorem dX8_patchOf_101 : decode cX8_patchOf 101 = .ok (.ireturn, 1) := by decide +kernel
theorem dX8_patchOf_102 : decode cX8_patchOf 102 = .ok (.aload_n 0, 1) := by decide +kernel
theorem dX8_patchOf_103 : decode cX8_patchOf 103 = .ok (.iload_n 1, 1) := by decide +kernel
theorem dX8_patchOf_104 : decode cX8_patchOf 104 = .ok (.invokevirtual 120, 3) := by decide +kernel
theorem dX8_patchOf_107 : decode cX8_patchOf 107 = .ok (.ireturn, 1) := by decide +kernel
set_option maxRecDepth 20000 in
theorem ggX8_toldAll_X8_told : GoodIn wsX8_toldAll wsX8_told := goodIn_r _ [5, 6, 7, 8, 4, 9, 10, 11, 12, 13, 14, 15, 16, 17, 18, 19, 20, 21, 22, 23, 24, 25, 26, 27] (by decide +kernel) (by decide +kernel)
set_option maxRecDepth 20000 in
theorem gX8_toldAll_X8_told : GoodIn wsX8_toldAll (wsV RX8 71 RX8 yX8_told wsX8_told) := goodIn_app (goodIn_of _ (by decide +kernel)) ggX8_toldAll_X8_told
theorem dX8_toldAll_0 : decode cX8_toldAll 0 = .ok (.iconst 0, 1) := by decide +kernel
theorem dX8_toldAll_1 : decode cX8_toldAll 1 = .ok (.istore_n 1, 1) := by decide +kernel
theorem dX8_toldAll_2 : decode cX8_toldAll 2 = .ok (.iconst 0, 1) := by decide +kernel
theorem dX8_toldAll_3 : decode cX8_toldAll 3 = .ok (.istore_n 2, 1) := by decide +kernel
theorem dX8_toldAll_4 : decode cX8_toldAll 4 = .ok (.iload_n 2, 1) := by decide +kernel
theorem dX8_toldAll_5 : decode cX8_toldAll 5 = .ok (.bipush 20, 2) := by decide +kernel
theorem dX8_toldAll_7 : decode cX8_toldAll 7 = .ok (.if_icmp .ge 22, 3) := by decide +kernel
theorem dX8_toldAll_10 : decode cX8_toldAll 10 = .ok (.iload_n 1, 1) := by decide +kernel
theorem dX8_toldAll_11 : decode cX8_toldAll 11 = .ok (.aload_n 0, 1) := by decide +kernel
theorem dX8_toldAll_12 : decode cX8_toldAll 12 = .ok (.iload_n 2, 1) := by decide +kernel
theorem dX8_toldAll_13 : decode cX8_toldAll 13 = .ok (.iconst 5, 1) := by decide +kernel
theorem dX8_toldAll_14 : decode cX8_toldAll 14 = .ok (.irem, 1) := by decide +kernel
theorem dX8_toldAll_15 : decode cX8_toldAll 15 = .ok (.iload_n 2, 1) := by decide +kernel
theorem dX8_toldAll_16 : decode cX8_toldAll 16 = .ok (.iconst 5, 1) := by decide +kernel
theorem dX8_toldAll_17 : decode cX8_toldAll 17 = .ok (.idiv, 1) := by decide +kernel
theorem dX8_toldAll_18 : decode cX8_toldAll 18 = .ok (.invokevirtual 71, 3) := by decide +kernel
theorem dX8_toldAll_21 : decode cX8_toldAll 21 = .ok (.iadd, 1) := by decide +kernel
theorem dX8_toldAll_22 : decode cX8_toldAll 22 = .ok (.istore_n 1, 1) := by decide +kernel
theorem dX8_toldAll_23 : decode cX8_toldAll 23 = .ok (.iinc 2 1, 3) := by decide +kernel
theorem dX8_toldAll_26 : decode cX8_toldAll 26 = .ok (.goto (-22), 3) := by decide +kernel
theorem dX8_toldAll_29 : decode cX8_toldAll 29 = .ok (.iload_n 1, 1) := by decide +kernel
theorem dX8_toldAll_30 : decode cX8_toldAll 30 = .ok (.ireturn, 1) := by decide +kernel
set_option maxRecDepth 20000 in
theorem ggX8_unlikeCorners_X8_unlike : GoodIn wsX8_unlikeCorners wsX8_unlike := goodIn_r _ [8, 1, 9, 10, 11, 12, 13, 14, 15, 16, 17, 18, 19, 20, 21, 22, 23, 24, 25, 26] (by decide +kernel) (by decide +kernel)
set_option maxRecDepth 20000 in
theorem gX8_unlikeCorners_X8_unlike : GoodIn wsX8_unlikeCorners (wsV RX8 109 RX8 yX8_unlike wsX8_unlike) := goodIn_app (goodIn_of _ (by decide +kernel)) ggX8_unlikeCorners_X8_unlike
theorem dX8_unlikeCorners_0 : decode cX8_unlikeCorners 0 = .ok (.iconst 0, 1) := by decide +kernel
theorem dX8_unlikeCorners_1 : decode cX8_unlikeCorners 1 = .ok (.istore_n 1, 1) := by decide +kernel
theorem dX8_unlikeCorners_2 : decode cX8_unlikeCorners 2 = .ok (.iload_n 1, 1) := by decide +kernel
theorem dX8_unlikeCorners_3 : decode cX8_unlikeCorners 3 = .ok (.bipush 20, 2) := by decide +kernel
theorem dX8_unlikeCorners_5 : decode cX8_unlikeCorners 5 = .ok (.if_icmp .ge 61, 3) := by decide +kernel
theorem dX8_unlikeCorners_8 : decode cX8_unlikeCorners 8 = .ok (.aload_n 0, 1) := by decide +kernel
theorem dX8_unlikeCorners_9 : decode cX8_unlikeCorners 9 = .ok (.getfield 28, 3) := by decide +kernel
theorem dX8_unlikeCorners_12 : decode cX8_unlikeCorners 12 = .ok (.iload_n 1, 1) := by decide +kernel
theorem dX8_unlikeCorners_13 : decode cX8_unlikeCorners 13 = .ok (.ldc 104, 2) := by decide +kernel
theorem dX8_unlikeCorners_15 : decode cX8_unlikeCorners 15 = .ok (.aload_n 0, 1) := by decide +kernel
theorem dX8_unlikeCorners_16 : decode cX8_unlikeCorners 16 = .ok (.getfield 7, 3) := by decide +kernel
theorem dX8_unlikeCorners_19 : decode cX8_unlikeCorners 19 = .ok (.bipush 12, 2) := by decide +kernel
theorem dX8_unlikeCorners_21 : decode cX8_unlikeCorners 21 = .ok (.iload_n 1, 1) := by decide +kernel
theorem dX8_unlikeCorners_22 : decode cX8_unlikeCorners 22 = .ok (.imul, 1) := by decide +kernel
theorem dX8_unlikeCorners_23 : decode cX8_unlikeCorners 23 = .ok (.iconst 2, 1) := by decide +kernel
theorem dX8_unlikeCorners_24 : decode cX8_unlikeCorners 24 = .ok (.iadd, 1) := by decide +kernel
theorem dX8_unlikeCorners_25 : decode cX8_unlikeCorners 25 = .ok (.iaload, 1) := by decide +kernel
theorem dX8_unlikeCorners_26 : decode cX8_unlikeCorners 26 = .ok (.imul, 1) := by decide +kernel
theorem dX8_unlikeCorners_27 : decode cX8_unlikeCorners 27 = .ok (.sipush 256, 3) := by decide +kernel
theorem dX8_unlikeCorners_30 : decode cX8_unlikeCorners 30 = .ok (.aload_n 0, 1) := by decide +kernel
theorem dX8_unlikeCorners_31 : decode cX8_unlikeCorners 31 = .ok (.getfield 7, 3) := by decide +kernel
theorem dX8_unlikeCorners_34 : decode cX8_unlikeCorners 34 = .ok (.bipush 12, 2) := by decide +kernel
theorem dX8_unlikeCorners_36 : decode cX8_unlikeCorners 36 = .ok (.iload_n 1, 1) := by decide +kernel
theorem dX8_unlikeCorners_37 : decode cX8_unlikeCorners 37 = .ok (.imul, 1) := by decide +kernel
theorem dX8_unlikeCorners_38 : decode cX8_unlikeCorners 38 = .ok (.iconst 2, 1) := by decide +kernel
theorem dX8_unlikeCorners_39 : decode cX8_unlikeCorners 39 = .ok (.iadd, 1) := by decide +kernel
theorem dX8_unlikeCorners_40 : decode cX8_unlikeCorners 40 = .ok (.iconst 1, 1) := by decide +kernel
theorem dX8_unlikeCorners_41 : decode cX8_unlikeCorners 41 = .ok (.iadd, 1) := by decide +kernel
theorem dX8_unlikeCorners_42 : decode cX8_unlikeCorners 42 = .ok (.iaload, 1) := by decide +kernel
theorem dX8_unlikeCorners_43 : decode cX8_unlikeCorners 43 = .ok (.imul, 1) := by decide +kernel
theorem dX8_unlikeCorners_44 : decode cX8_unlikeCorners 44 = .ok (.iadd, 1) := by decide +kernel
theorem dX8_unlikeCorners_45 : decode cX8_unlikeCorners 45 = .ok (.aload_n 0, 1) := by decide +kernel
theorem dX8_unlikeCorners_46 : decode cX8_unlikeCorners 46 = .ok (.getfield 7, 3) := by decide +kernel
theorem dX8_unlikeCorners_49 : decode cX8_unlikeCorners 49 = .ok (.bipush 12, 2) := by decide +kernel
theorem dX8_unlikeCorners_51 : decode cX8_unlikeCorners 51 = .ok (.iload_n 1, 1) := by decide +kernel
theorem dX8_unlikeCorners_52 : decode cX8_unlikeCorners 52 = .ok (.imul, 1) := by decide +kernel
theorem dX8_unlikeCorners_53 : decode cX8_unlikeCorners 53 = .ok (.iconst 2, 1) := by decide +kernel
theorem dX8_unlikeCorners_54 : decode cX8_unlikeCorners 54 = .ok (.iadd, 1) := by decide +kernel
theorem dX8_unlikeCorners_55 : decode cX8_unlikeCorners 55 = .ok (.iconst 2, 1) := by decide +kernel
theorem dX8_unlikeCorners_56 : decode cX8_unlikeCorners 56 = .ok (.iadd, 1) := by decide +kernel
theorem dX8_unlikeCorners_57 : decode cX8_unlikeCorners 57 = .ok (.iaload, 1) := by decide +kernel
theorem dX8_unlikeCorners_58 : decode cX8_unlikeCorners 58 = .ok (.iadd, 1) := by decide +kernel
theorem dX8_unlikeCorners_59 : decode cX8_unlikeCorners 59 = .ok (.iastore, 1) := by decide +kernel
theorem dX8_unlikeCorners_60 : decode cX8_unlikeCorners 60 = .ok (.iinc 1 1, 3) := by decide +kernel
theorem dX8_unlikeCorners_63 : decode cX8_unlikeCorners 63 = .ok (.goto (-61), 3) := by decide +kernel
theorem dX8_unlikeCorners_66 : decode cX8_unlikeCorners 66 = .ok (.aload_n 0, 1) := by decide +kernel
theorem dX8_unlikeCorners_67 : decode cX8_unlikeCorners 67 = .ok (.bipush 20, 2) := by decide +kernel
theorem dX8_unlikeCorners_69 : decode cX8_unlikeCorners 69 = .ok (.invokevirtual 109, 3) := by decide +kernel
theorem dX8_unlikeCorners_72 : decode cX8_unlikeCorners 72 = .ok (.ireturn, 1) := by decide +kernel
set_option maxRecDepth 20000 in
theorem ggX8_count_X8_heldCorners : GoodIn wsX8_count wsX8_heldCorners := goodIn_r _ [8, 9, 42, 43, 44, 45, 46, 47, 48, 49, 50, 51, 52, 53, 54, 55, 56, 57, 58, 59] (by decide +kernel) (by decide +kernel)
set_option maxRecDepth 20000 in
theorem gX8_count_X8_heldCorners : GoodIn wsX8_count (wsV RX8 57 RX8 yX8_heldCorners wsX8_heldCorners) := goodIn_app (goodIn_of _ (by decide +kernel)) ggX8_count_X8_heldCorners
set_option maxRecDepth 20000 in
theorem ggX8_count_X8_folded : GoodIn wsX8_count wsX8_folded := goodIn_r _ [13, 14, 15, 16, 7, 17, 9, 18, 19, 20, 21, 22, 23, 42, 43, 44, 45, 46, 47, 48, 49, 50, 51, 52, 53, 54, 55, 56, 57, 58, 59] (by decide +kernel) (by decide +kernel)
set_option maxRecDepth 20000 in
theorem gX8_count_X8_folded : GoodIn wsX8_count (wsV RX8 61 RX8 yX8_folded wsX8_folded) := goodIn_app (goodIn_of _ (by decide +kernel)) ggX8_count_X8_folded
set_option maxRecDepth 20000 in
theorem ggX8_count_X8_toldAll : GoodIn wsX8_count wsX8_toldAll := goodIn_r _ [27, 28, 29, 30, 7, 31, 9, 21, 22, 23, 42, 43, 44, 45, 46, 47, 48, 49, 50, 51, 52, 53, 54, 55, 56, 57, 58, 59] (by decide +kernel) (by decide +kernel)
set_option maxRecDepth 20000 in
theorem gX8_count_X8_toldAll : GoodIn wsX8_count (wsV RX8 123 RX8 yX8_toldAll wsX8_toldAll) := goodIn_app (goodIn_of _ (by decide +kernel)) ggX8_count_X8_toldAll
set_option maxRecDepth 20000 in
theorem ggX8_count_X8_unlikeCorners : GoodIn wsX8_count wsX8_unlikeCorners := goodIn_r _ [35, 36, 37, 9, 38, 39, 40, 7, 41, 42, 43, 44, 45, 46, 47, 48, 49, 50, 51, 52, 53, 54, 55, 56, 57, 58, 59] (by decide +kernel) (by decide +kernel)
set_option maxRecDepth 20000 in
theorem gX8_count_X8_unlikeCorners : GoodIn wsX8_count (wsV RX8 132 RX8 yX8_unlikeCorners wsX8_unlikeCorners) := goodIn_app (goodIn_of _ (by decide +kernel)) ggX8_count_X8_unlikeCorners
theorem dX8_count_0 : decode cX8_count 0 = .ok (.iload_n 1, 1) := by decide +kernel
theorem dX8_count_1 : decode cX8_count 1 = .ok (.tableswitch 86 0 6 #[43, 48, 53, 58, 63, 68, 81], 43) := by decide +kernel
theorem dX8_count_44 : decode cX8_count 44 = .ok (.aload_n 0, 1) := by decide +kernel
theorem dX8_count_45 : decode cX8_count 45 = .ok (.invokevirtual 57, 3) := by decide +kernel
theorem dX8_count_48 : decode cX8_count 48 = .ok (.ireturn, 1) := by decide +kernel
theorem dX8_count_49 : decode cX8_count 49 = .ok (.aload_n 0, 1) := by decide +kernel
theorem dX8_count_50 : decode cX8_count 50 = .ok (.invokevirtual 61, 3) := by decide +kernel
theorem dX8_count_53 : decode cX8_count 53 = .ok (.ireturn, 1) := by decide +kernel
theorem dX8_count_54 : decode cX8_count 54 = .ok (.aload_n 0, 1) := by decide +kernel
theorem dX8_count_55 : decode cX8_count 55 = .ok (.invokevirtual 123, 3) := by decide +kernel
theorem dX8_count_58 : decode cX8_count 58 = .ok (.ireturn, 1) := by decide +kernel
theorem dX8_count_59 : decode cX8_count 59 = .ok (.aload_n 0, 1) := by decide +kernel
theorem dX8_count_60 : decode cX8_count 60 = .ok (.getfield 38, 3) := by decide +kernel
theorem dX8_count_63 : decode cX8_count 63 = .ok (.ireturn, 1) := by decide +kernel
theorem dX8_count_64 : decode cX8_count 64 = .ok (.aload_n 0, 1) := by decide +kernel
theorem dX8_count_65 : decode cX8_count 65 = .ok (.getfield 126, 3) := by decide +kernel
theorem dX8_count_68 : decode cX8_count 68 = .ok (.ireturn, 1) := by decide +kernel
theorem dX8_count_69 : decode cX8_count 69 = .ok (.aload_n 0, 1) := by decide +kernel
theorem dX8_count_70 : decode cX8_count 70 = .ok (.getfield 129, 3) := by decide +kernel
theorem dX8_count_73 : decode cX8_count 73 = .ok (.ifCond .eq 7, 3) := by decide +kernel
theorem dX8_count_76 : decode cX8_count 76 = .ok (.iconst 1, 1) := by decide +kernel
theorem dX8_count_77 : decode cX8_count 77 = .ok (.goto 4, 3) := by decide +kernel
theorem dX8_count_80 : decode cX8_count 80 = .ok (.iconst 0, 1) := by decide +kernel
theorem dX8_count_81 : decode cX8_count 81 = .ok (.ireturn, 1) := by decide +kernel
theorem dX8_count_82 : decode cX8_count 82 = .ok (.aload_n 0, 1) := by decide +kernel
theorem dX8_count_83 : decode cX8_count 83 = .ok (.invokevirtual 132, 3) := by decide +kernel
theorem dX8_count_86 : decode cX8_count 86 = .ok (.ireturn, 1) := by decide +kernel
theorem dX8_count_87 : decode cX8_count 87 = .ok (.sipush (-1001), 3) := by decide +kernel
theorem dX8_count_90 : decode cX8_count 90 = .ok (.ireturn, 1) := by decide +kernel
theorem dX8_hasBeside_0 : decode cX8_hasBeside 0 = .ok (.iload_n 1, 1) := by decide +kernel
theorem dX8_hasBeside_1 : decode cX8_hasBeside 1 = .ok (.ifCond .ne 18, 3) := by decide +kernel
theorem dX8_hasBeside_4 : decode cX8_hasBeside 4 = .ok (.iload_n 0, 1) := by decide +kernel
theorem dX8_hasBeside_5 : decode cX8_hasBeside 5 = .ok (.iconst 4, 1) := by decide +kernel
theorem dX8_hasBeside_6 : decode cX8_hasBeside 6 = .ok (.irem, 1) := by decide +kernel
theorem dX8_hasBeside_7 : decode cX8_hasBeside 7 = .ok (.iconst 3, 1) := by decide +kernel
theorem dX8_hasBeside_8 : decode cX8_hasBeside 8 = .ok (.if_icmp .ge 7, 3) := by decide +kernel
theorem dX8_hasBeside_11 : decode cX8_hasBeside 11 = .ok (.iconst 1, 1) := by decide +kernel
theorem dX8_hasBeside_12 : decode cX8_hasBeside 12 = .ok (.goto 18, 3) := by decide +kernel
theorem dX8_hasBeside_15 : decode cX8_hasBeside 15 = .ok (.iconst 0, 1) := by decide +kernel
theorem dX8_hasBeside_16 : decode cX8_hasBeside 16 = .ok (.goto 14, 3) := by decide +kernel
theorem dX8_hasBeside_19 : decode cX8_hasBeside 19 = .ok (.iload_n 0, 1) := by decide +kernel
theorem dX8_hasBeside_20 : decode cX8_hasBeside 20 = .ok (.bipush 8, 2) := by decide +kernel
theorem dX8_hasBeside_22 : decode cX8_hasBeside 22 = .ok (.if_icmp .ge 7, 3) := by decide +kernel
theorem dX8_hasBeside_25 : decode cX8_hasBeside 25 = .ok (.iconst 1, 1) := by decide +kernel
theorem dX8_hasBeside_26 : decode cX8_hasBeside 26 = .ok (.goto 4, 3) := by decide +kernel
theorem dX8_hasBeside_29 : decode cX8_hasBeside 29 = .ok (.iconst 0, 1) := by decide +kernel
theorem dX8_hasBeside_30 : decode cX8_hasBeside 30 = .ok (.ireturn, 1) := by decide +kernel
set_option maxRecDepth 20000 in
theorem ggX8_across_X8_colour : GoodIn wsX8_across wsX8_colour := goodIn_r _ [5, 6, 7, 8, 9, 4, 10, 11, 12, 13, 14, 15, 16, 17, 18, 19, 20, 21, 22, 23, 24, 25, 26, 27, 28, 29, 30, 31, 32, 33, 34, 35, 36, 37, 38] (by decide +kernel) (by decide +kernel)
set_option maxRecDepth 20000 in
theorem gX8_across_X8_colour : GoodIn wsX8_across (wsV RX8 92 RX8 yX8_colour wsX8_colour) := goodIn_app (goodIn_of _ (by decide +kernel)) ggX8_across_X8_colour
theorem dX8_across_0 : decode cX8_across 0 = .ok (.iload_n 2, 1) := by decide +kernel
theorem dX8_across_1 : decode cX8_across 1 = .ok (.ifCond .ne 16, 3) := by decide +kernel
theorem dX8_across_4 : decode cX8_across 4 = .ok (.aload_n 0, 1) := by decide +kernel
theorem dX8_across_5 : decode cX8_across 5 = .ok (.iload_n 1, 1) := by decide +kernel
theorem dX8_across_6 : decode cX8_across 6 = .ok (.iload_n 3, 1) := by decide +kernel
theorem dX8_across_7 : decode cX8_across 7 = .ok (.iload 4, 2) := by decide +kernel
theorem dX8_across_9 : decode cX8_across 9 = .ok (.iload 5, 2) := by decide +kernel
theorem dX8_across_11 : decode cX8_across 11 = .ok (.invokevirtual 92, 3) := by decide +kernel
theorem dX8_across_14 : decode cX8_across 14 = .ok (.goto 13, 3) := by decide +kernel
theorem dX8_across_17 : decode cX8_across 17 = .ok (.aload_n 0, 1) := by decide +kernel
theorem dX8_across_18 : decode cX8_across 18 = .ok (.iload_n 1, 1) := by decide +kernel
theorem dX8_across_19 : decode cX8_across 19 = .ok (.iload 4, 2) := by decide +kernel
theorem dX8_across_21 : decode cX8_across 21 = .ok (.iload_n 3, 1) := by decide +kernel
theorem dX8_across_22 : decode cX8_across 22 = .ok (.iload 5, 2) := by decide +kernel
theorem dX8_across_24 : decode cX8_across 24 = .ok (.invokevirtual 92, 3) := by decide +kernel
theorem dX8_across_27 : decode cX8_across 27 = .ok (.ireturn, 1) := by decide +kernel
set_option maxRecDepth 20000 in
theorem ggX8_agrees_X8_isPatch : GoodIn wsX8_agrees wsX8_isPatch := goodIn_r _ [4, 5, 6, 3, 7] (by decide +kernel) (by decide +kernel)
set_option maxRecDepth 20000 in
theorem gX8_agrees_X8_isPatch : GoodIn wsX8_agrees (va_wsS RX8 88 yX8_isPatch wsX8_isPatch) := goodIn_app (goodIn_of _ (by decide +kernel)) ggX8_agrees_X8_isPatch
set_option maxRecDepth 20000 in
theorem ggX8_agrees_X8_in : GoodIn wsX8_agrees wsX8_in := goodIn_r _ [7] (by decide +kernel) (by decide +kernel)
set_option maxRecDepth 20000 in
theorem gX8_agrees_X8_in : GoodIn wsX8_agrees (va_wsS RX8 42 yX8_in wsX8_in) := goodIn_app (goodIn_of _ (by decide +kernel)) ggX8_agrees_X8_in
set_option maxRecDepth 20000 in
theorem ggX8_agrees_X8_hasBeside : GoodIn wsX8_agrees wsX8_hasBeside := goodIn_r _ [10] (by decide +kernel) (by decide +kernel)
set_option maxRecDepth 20000 in
theorem gX8_agrees_X8_hasBeside : GoodIn wsX8_agrees (va_wsS RX8 135 yX8_hasBeside wsX8_hasBeside) := goodIn_app (goodIn_of _ (by decide +kernel)) ggX8_agrees_X8_hasBeside
set_option maxRecDepth 20000 in
theorem ggX8_agrees_X8_across : GoodIn wsX8_agrees wsX8_across := goodIn_r _ [14, 15, 16, 17, 3, 18, 19, 20, 21, 22, 23, 24, 25, 26, 27, 28, 29, 30, 31, 32, 33, 34, 35, 36, 37, 38, 39, 40, 41, 42, 43, 44, 45, 46, 47, 48, 49, 50, 51] (by decide +kernel) (by decide +kernel)
set_option maxRecDepth 20000 in
theorem gX8_agrees_X8_across : GoodIn wsX8_agrees (wsV RX8 138 RX8 yX8_across wsX8_across) := goodIn_app (goodIn_of _ (by decide +kernel)) ggX8_agrees_X8_across
theorem dX8_agrees_0 : decode cX8_agrees 0 = .ok (.iload_n 1, 1) := by decide +kernel
theorem dX8_agrees_1 : decode cX8_agrees 1 = .ok (.invokestatic 88, 3) := by decide +kernel
theorem dX8_agrees_4 : decode cX8_agrees 4 = .ok (.ifCond .eq 12, 3) := by decide +kernel
theorem dX8_agrees_7 : decode cX8_agrees 7 = .ok (.iload_n 2, 1) := by decide +kernel
theorem dX8_agrees_8 : decode cX8_agrees 8 = .ok (.iconst 0, 1) := by decide +kernel
theorem dX8_agrees_9 : decode cX8_agrees 9 = .ok (.iconst 1, 1) := by decide +kernel
theorem dX8_agrees_10 : decode cX8_agrees 10 = .ok (.invokestatic 42, 3) := by decide +kernel
theorem dX8_agrees_13 : decode cX8_agrees 13 = .ok (.ifCond .ne 7, 3) := by decide +kernel
theorem dX8_agrees_16 : decode cX8_agrees 16 = .ok (.sipush (-1001), 3) := by decide +kernel
theorem dX8_agrees_19 : decode cX8_agrees 19 = .ok (.ireturn, 1) := by decide +kernel
theorem dX8_agrees_20 : decode cX8_agrees 20 = .ok (.iload_n 1, 1) := by decide +kernel
theorem dX8_agrees_21 : decode cX8_agrees 21 = .ok (.iload_n 2, 1) := by decide +kernel
theorem dX8_agrees_22 : decode cX8_agrees 22 = .ok (.invokestatic 135, 3) := by decide +kernel
theorem dX8_agrees_25 : decode cX8_agrees 25 = .ok (.ifCond .ne 7, 3) := by decide +kernel
theorem dX8_agrees_28 : decode cX8_agrees 28 = .ok (.sipush (-1004), 3) := by decide +kernel
theorem dX8_agrees_31 : decode cX8_agrees 31 = .ok (.ireturn, 1) := by decide +kernel
theorem dX8_agrees_32 : decode cX8_agrees 32 = .ok (.iload_n 2, 1) := by decide +kernel
theorem dX8_agrees_33 : decode cX8_agrees 33 = .ok (.ifCond .ne 9, 3) := by decide +kernel
theorem dX8_agrees_36 : decode cX8_agrees 36 = .ok (.iload_n 1, 1) := by decide +kernel
theorem dX8_agrees_37 : decode cX8_agrees 37 = .ok (.iconst 1, 1) := by decide +kernel
theorem dX8_agrees_38 : decode cX8_agrees 38 = .ok (.iadd, 1) := by decide +kernel
theorem dX8_agrees_39 : decode cX8_agrees 39 = .ok (.goto 6, 3) := by decide +kernel
theorem dX8_agrees_42 : decode cX8_agrees 42 = .ok (.iload_n 1, 1) := by decide +kernel
theorem dX8_agrees_43 : decode cX8_agrees 43 = .ok (.iconst 4, 1) := by decide +kernel
theorem dX8_agrees_44 : decode cX8_agrees 44 = .ok (.iadd, 1) := by decide +kernel
theorem dX8_agrees_45 : decode cX8_agrees 45 = .ok (.istore_n 3, 1) := by decide +kernel
theorem dX8_agrees_46 : decode cX8_agrees 46 = .ok (.iconst 1, 1) := by decide +kernel
theorem dX8_agrees_47 : decode cX8_agrees 47 = .ok (.istore 4, 2) := by decide +kernel
theorem dX8_agrees_49 : decode cX8_agrees 49 = .ok (.iconst 0, 1) := by decide +kernel
theorem dX8_agrees_50 : decode cX8_agrees 50 = .ok (.istore 5, 2) := by decide +kernel
theorem dX8_agrees_52 : decode cX8_agrees 52 = .ok (.iload 5, 2) := by decide +kernel
theorem dX8_agrees_54 : decode cX8_agrees 54 = .ok (.bipush 27, 2) := by decide +kernel
theorem dX8_agrees_56 : decode cX8_agrees 56 = .ok (.if_icmp .ge 55, 3) := by decide +kernel
theorem dX8_agrees_59 : decode cX8_agrees 59 = .ok (.iload 4, 2) := by decide +kernel
theorem dX8_agrees_61 : decode cX8_agrees 61 = .ok (.ifCond .eq 41, 3) := by decide +kernel
theorem dX8_agrees_64 : decode cX8_agrees 64 = .ok (.aload_n 0, 1) := by decide +kernel
theorem dX8_agrees_65 : decode cX8_agrees 65 = .ok (.iload_n 1, 1) := by decide +kernel
theorem dX8_agrees_66 : decode cX8_agrees 66 = .ok (.iload_n 2, 1) := by decide +kernel
theorem dX8_agrees_67 : decode cX8_agrees 67 = .ok (.bipush 8, 2) := by decide +kernel
theorem dX8_agrees_69 : decode cX8_agrees 69 = .ok (.iload 5, 2) := by decide +kernel
theorem dX8_agrees_71 : decode cX8_agrees 71 = .ok (.iconst 3, 1) := by decide +kernel
theorem dX8_agrees_72 : decode cX8_agrees 72 = .ok (.idiv, 1) := by decide +kernel
theorem dX8_agrees_73 : decode cX8_agrees 73 = .ok (.iload 5, 2) := by decide +kernel
theorem dX8_agrees_75 : decode cX8_agrees 75 = .ok (.iconst 3, 1) := by decide +kernel
theorem dX8_agrees_76 : decode cX8_agrees 76 = .ok (.irem, 1) := by decide +kernel
theorem dX8_agrees_77 : decode cX8_agrees 77 = .ok (.invokevirtual 138, 3) := by decide +kernel
theorem dX8_agrees_80 : decode cX8_agrees 80 = .ok (.aload_n 0, 1) := by decide +kernel
theorem dX8_agrees_81 : decode cX8_agrees 81 = .ok (.iload_n 3, 1) := by decide +kernel
theorem dX8_agrees_82 : decode cX8_agrees 82 = .ok (.iload_n 2, 1) := by decide +kernel
theorem dX8_agrees_83 : decode cX8_agrees 83 = .ok (.iconst 0, 1) := by decide +kernel
theorem dX8_agrees_84 : decode cX8_agrees 84 = .ok (.iload 5, 2) := by decide +kernel
theorem dX8_agrees_86 : decode cX8_agrees 86 = .ok (.iconst 3, 1) := by decide +kernel
theorem dX8_agrees_87 : decode cX8_agrees 87 = .ok (.idiv, 1) := by decide +kernel
theorem dX8_agrees_88 : decode cX8_agrees 88 = .ok (.iload 5, 2) := by decide +kernel
theorem dX8_agrees_90 : decode cX8_agrees 90 = .ok (.iconst 3, 1) := by decide +kernel
theorem dX8_agrees_91 : decode cX8_agrees 91 = .ok (.irem, 1) := by decide +kernel
theorem dX8_agrees_92 : decode cX8_agrees 92 = .ok (.invokevirtual 138, 3) := by decide +kernel
theorem dX8_agrees_95 : decode cX8_agrees 95 = .ok (.if_icmp .ne 7, 3) := by decide +kernel
theorem dX8_agrees_98 : decode cX8_agrees 98 = .ok (.iconst 1, 1) := by decide +kernel
theorem dX8_agrees_99 : decode cX8_agrees 99 = .ok (.goto 4, 3) := by decide +kernel
theorem dX8_agrees_102 : decode cX8_agrees 102 = .ok (.iconst 0, 1) := by decide +kernel
theorem dX8_agrees_103 : decode cX8_agrees 103 = .ok (.istore 4, 2) := by decide +kernel
theorem dX8_agrees_105 : decode cX8_agrees 105 = .ok (.iinc 5 1, 3) := by decide +kernel
theorem dX8_agrees_108 : decode cX8_agrees 108 = .ok (.goto (-56), 3) := by decide +kernel
theorem dX8_agrees_111 : decode cX8_agrees 111 = .ok (.iload 4, 2) := by decide +kernel
theorem dX8_agrees_113 : decode cX8_agrees 113 = .ok (.ifCond .eq 7, 3) := by decide +kernel
theorem dX8_agrees_116 : decode cX8_agrees 116 = .ok (.iconst 1, 1) := by decide +kernel
theorem dX8_agrees_117 : decode cX8_agrees 117 = .ok (.goto 4, 3) := by decide +kernel
theorem dX8_agrees_120 : decode cX8_agrees 120 = .ok (.iconst 0, 1) := by decide +kernel
theorem dX8_agrees_121 : decode cX8_agrees 121 = .ok (.ireturn, 1) := by decide +kernel
set_option maxRecDepth 20000 in
theorem ggX8_crease_X8_isPatch : GoodIn wsX8_crease wsX8_isPatch := goodIn_r _ [4, 5, 6, 3, 7] (by decide +kernel) (by decide +kernel)
set_option maxRecDepth 20000 in
theorem gX8_crease_X8_isPatch : GoodIn wsX8_crease (va_wsS RX8 88 yX8_isPatch wsX8_isPatch) := goodIn_app (goodIn_of _ (by decide +kernel)) ggX8_crease_X8_isPatch
set_option maxRecDepth 20000 in
theorem ggX8_crease_X8_in : GoodIn wsX8_crease wsX8_in := goodIn_r _ [7] (by decide +kernel) (by decide +kernel)
set_option maxRecDepth 20000 in
theorem gX8_crease_X8_in : GoodIn wsX8_crease (va_wsS RX8 42 yX8_in wsX8_in) := goodIn_app (goodIn_of _ (by decide +kernel)) ggX8_crease_X8_in
set_option maxRecDepth 20000 in
theorem ggX8_crease_X8_hasBeside : GoodIn wsX8_crease wsX8_hasBeside := goodIn_r _ [10] (by decide +kernel) (by decide +kernel)
set_option maxRecDepth 20000 in
theorem gX8_crease_X8_hasBeside : GoodIn wsX8_crease (va_wsS RX8 135 yX8_hasBeside wsX8_hasBeside) := goodIn_app (goodIn_of _ (by decide +kernel)) ggX8_crease_X8_hasBeside
set_option maxRecDepth 20000 in
theorem ggX8_crease_X8_across : GoodIn wsX8_crease wsX8_across := goodIn_r _ [14, 15, 16, 17, 3, 18, 19, 20, 21, 22, 23, 24, 25, 26, 27, 28, 29, 30, 31, 32, 33, 34, 35, 36, 37, 38, 39, 40, 41, 42, 43, 44, 45, 46, 47, 48, 49, 50, 51] (by decide +kernel) (by decide +kernel)
set_option maxRecDepth 20000 in
theorem gX8_crease_X8_across : GoodIn wsX8_crease (wsV RX8 138 RX8 yX8_across wsX8_across) := goodIn_app (goodIn_of _ (by decide +kernel)) ggX8_crease_X8_across
theorem dX8_crease_0 : decode cX8_crease 0 = .ok (.iload_n 1, 1) := by decide +kernel
theorem dX8_crease_1 : decode cX8_crease 1 = .ok (.invokestatic 88, 3) := by decide +kernel
theorem dX8_crease_4 : decode cX8_crease 4 = .ok (.ifCond .eq 32, 3) := by decide +kernel
theorem dX8_crease_7 : decode cX8_crease 7 = .ok (.iload_n 2, 1) := by decide +kernel
theorem dX8_crease_8 : decode cX8_crease 8 = .ok (.iconst 0, 1) := by decide +kernel
theorem dX8_crease_9 : decode cX8_crease 9 = .ok (.iconst 1, 1) := by decide +kernel
theorem dX8_crease_10 : decode cX8_crease 10 = .ok (.invokestatic 42, 3) := by decide +kernel
theorem dX8_crease_13 : decode cX8_crease 13 = .ok (.ifCond .eq 23, 3) := by decide +kernel
theorem dX8_crease_16 : decode cX8_crease 16 = .ok (.iload_n 3, 1) := by decide +kernel
theorem dX8_crease_17 : decode cX8_crease 17 = .ok (.iconst 0, 1) := by decide +kernel
theorem dX8_crease_18 : decode cX8_crease 18 = .ok (.bipush 8, 2) := by decide +kernel
theorem dX8_crease_20 : decode cX8_crease 20 = .ok (.invokestatic 42, 3) := by decide +kernel
theorem dX8_crease_23 : decode cX8_crease 23 = .ok (.ifCond .eq 13, 3) := by decide +kernel
theorem dX8_crease_26 : decode cX8_crease 26 = .ok (.iload 4, 2) := by decide +kernel
theorem dX8_crease_28 : decode cX8_crease 28 = .ok (.iconst 0, 1) := by decide +kernel
theorem dX8_crease_29 : decode cX8_crease 29 = .ok (.iconst 2, 1) := by decide +kernel
theorem dX8_crease_30 : decode cX8_crease 30 = .ok (.invokestatic 42, 3) := by decide +kernel
theorem dX8_crease_33 : decode cX8_crease 33 = .ok (.ifCond .ne 7, 3) := by decide +kernel
theorem dX8_crease_36 : decode cX8_crease 36 = .ok (.sipush (-1001), 3) := by decide +kernel
theorem dX8_crease_39 : decode cX8_crease 39 = .ok (.ireturn, 1) := by decide +kernel
theorem dX8_crease_40 : decode cX8_crease 40 = .ok (.iload_n 1, 1) := by decide +kernel
theorem dX8_crease_41 : decode cX8_crease 41 = .ok (.iload_n 2, 1) := by decide +kernel
theorem dX8_crease_42 : decode cX8_crease 42 = .ok (.invokestatic 135, 3) := by decide +kernel
theorem dX8_crease_45 : decode cX8_crease 45 = .ok (.ifCond .ne 7, 3) := by decide +kernel
theorem dX8_crease_48 : decode cX8_crease 48 = .ok (.sipush (-1004), 3) := by decide +kernel
theorem dX8_crease_51 : decode cX8_crease 51 = .ok (.ireturn, 1) := by decide +kernel
theorem dX8_crease_52 : decode cX8_crease 52 = .ok (.iload_n 2, 1) := by decide +kernel
theorem dX8_crease_53 : decode cX8_crease 53 = .ok (.ifCond .ne 9, 3) := by decide +kernel
theorem dX8_crease_56 : decode cX8_crease 56 = .ok (.iload_n 1, 1) := by decide +kernel
theorem dX8_crease_57 : decode cX8_crease 57 = .ok (.iconst 1, 1) := by decide +kernel
theorem dX8_crease_58 : decode cX8_crease 58 = .ok (.iadd, 1) := by decide +kernel
theorem dX8_crease_59 : decode cX8_crease 59 = .ok (.goto 6, 3) := by decide +kernel
theorem dX8_crease_62 : decode cX8_crease 62 = .ok (.iload_n 1, 1) := by decide +kernel
theorem dX8_crease_63 : decode cX8_crease 63 = .ok (.iconst 4, 1) := by decide +kernel
theorem dX8_crease_64 : decode cX8_crease 64 = .ok (.iadd, 1) := by decide +kernel
theorem dX8_crease_65 : decode cX8_crease 65 = .ok (.istore 5, 2) := by decide +kernel
theorem dX8_crease_67 : decode cX8_crease 67 = .ok (.aload_n 0, 1) := by decide +kernel
theorem dX8_crease_68 : decode cX8_crease 68 = .ok (.iload_n 1, 1) := by decide +kernel
theorem dX8_crease_69 : decode cX8_crease 69 = .ok (.iload_n 2, 1) := by decide +kernel
theorem dX8_crease_70 : decode cX8_crease 70 = .ok (.bipush 8, 2) := by decide +kernel
theorem dX8_crease_72 : decode cX8_crease 72 = .ok (.iload_n 3, 1) := by decide +kernel
theorem dX8_crease_73 : decode cX8_crease 73 = .ok (.iload 4, 2) := by decide +kernel
theorem dX8_crease_75 : decode cX8_crease 75 = .ok (.invokevirtual 138, 3) := by decide +kernel
theorem dX8_crease_78 : decode cX8_crease 78 = .ok (.istore 6, 2) := by decide +kernel
theorem dX8_crease_80 : decode cX8_crease 80 = .ok (.aload_n 0, 1) := by decide +kernel
theorem dX8_crease_81 : decode cX8_crease 81 = .ok (.iload_n 1, 1) := by decide +kernel
theorem dX8_crease_82 : decode cX8_crease 82 = .ok (.iload_n 2, 1) := by decide +kernel
theorem dX8_crease_83 : decode cX8_crease 83 = .ok (.bipush 7, 2) := by decide +kernel
theorem dX8_crease_85 : decode cX8_crease 85 = .ok (.iload_n 3, 1) := by decide +kernel
theorem dX8_crease_86 : decode cX8_crease 86 = .ok (.iload 4, 2) := by decide +kernel
theorem dX8_crease_88 : decode cX8_crease 88 = .ok (.invokevirtual 138, 3) := by decide +kernel
theorem dX8_crease_91 : decode cX8_crease 91 = .ok (.iload 6, 2) := by decide +kernel
theorem dX8_crease_93 : decode cX8_crease 93 = .ok (.isub, 1) := by decide +kernel
theorem dX8_crease_94 : decode cX8_crease 94 = .ok (.iload 6, 2) := by decide +kernel
theorem dX8_crease_96 : decode cX8_crease 96 = .ok (.aload_n 0, 1) := by decide +kernel
theorem dX8_crease_97 : decode cX8_crease 97 = .ok (.iload 5, 2) := by decide +kernel
theorem dX8_crease_99 : decode cX8_crease 99 = .ok (.iload_n 2, 1) := by decide +kernel
theorem dX8_crease_100 : decode cX8_crease 100 = .ok (.iconst 1, 1) := by decide +kernel
theorem dX8_crease_101 : decode cX8_crease 101 = .ok (.iload_n 3, 1) := by decide +kernel
theorem dX8_crease_102 : decode cX8_crease 102 = .ok (.iload 4, 2) := by decide +kernel
theorem dX8_crease_104 : decode cX8_crease 104 = .ok (.invokevirtual 138, 3) := by decide +kernel
theorem dX8_crease_107 : decode cX8_crease 107 = .ok (.isub, 1) := by decide +kernel
theorem dX8_crease_108 : decode cX8_crease 108 = .ok (.isub, 1) := by decide +kernel
theorem dX8_crease_109 : decode cX8_crease 109 = .ok (.istore 7, 2) := by decide +kernel
theorem dX8_crease_111 : decode cX8_crease 111 = .ok (.iload 7, 2) := by decide +kernel
theorem dX8_crease_113 : decode cX8_crease 113 = .ok (.ifCond .ge 9, 3) := by decide +kernel
theorem dX8_crease_116 : decode cX8_crease 116 = .ok (.iload 7, 2) := by decide +kernel
theorem dX8_crease_118 : decode cX8_crease 118 = .ok (.ineg, 1) := by decide +kernel
theorem dX8_crease_119 : decode cX8_crease 119 = .ok (.goto 5, 3) := by decide +kernel
theorem dX8_crease_122 : decode cX8_crease 122 = .ok (.iload 7, 2) := by decide +kernel
theorem dX8_crease_124 : decode cX8_crease 124 = .ok (.ireturn, 1) := by decide +kernel
set_option maxRecDepth 20000 in
theorem ggX8_level_X8_isPatch : GoodIn wsX8_level wsX8_isPatch := goodIn_r _ [4, 5, 6, 3, 7] (by decide +kernel) (by decide +kernel)
set_option maxRecDepth 20000 in
theorem gX8_level_X8_isPatch : GoodIn wsX8_level (va_wsS RX8 88 yX8_isPatch wsX8_isPatch) := goodIn_app (goodIn_of _ (by decide +kernel)) ggX8_level_X8_isPatch
set_option maxRecDepth 20000 in
theorem ggX8_level_X8_in : GoodIn wsX8_level wsX8_in := goodIn_r _ [7] (by decide +kernel) (by decide +kernel)
set_option maxRecDepth 20000 in
theorem gX8_level_X8_in : GoodIn wsX8_level (va_wsS RX8 42 yX8_in wsX8_in) := goodIn_app (goodIn_of _ (by decide +kernel)) ggX8_level_X8_in
set_option maxRecDepth 20000 in
theorem ggX8_level_X8_colour : GoodIn wsX8_level wsX8_colour := goodIn_r _ [11, 12, 13, 14, 15, 3, 16, 17, 18, 19, 20, 21, 22, 23, 24, 25, 26, 27, 28, 29, 30, 31, 32, 33, 34, 35, 36, 37, 38, 39, 40, 41, 42, 43, 44] (by decide +kernel) (by decide +kernel)
set_option maxRecDepth 20000 in
theorem gX8_level_X8_colour : GoodIn wsX8_level (wsV RX8 92 RX8 yX8_colour wsX8_colour) := goodIn_app (goodIn_of _ (by decide +kernel)) ggX8_level_X8_colour
theorem dX8_level_0 : decode cX8_level 0 = .ok (.iload_n 1, 1) := by decide +kernel
theorem dX8_level_1 : decode cX8_level 1 = .ok (.invokestatic 88, 3) := by decide +kernel
theorem dX8_level_4 : decode cX8_level 4 = .ok (.ifCond .eq 12, 3) := by decide +kernel
theorem dX8_level_7 : decode cX8_level 7 = .ok (.iload_n 2, 1) := by decide +kernel
theorem dX8_level_8 : decode cX8_level 8 = .ok (.iconst 0, 1) := by decide +kernel
theorem dX8_level_9 : decode cX8_level 9 = .ok (.iconst 2, 1) := by decide +kernel
theorem dX8_level_10 : decode cX8_level 10 = .ok (.invokestatic 42, 3) := by decide +kernel
theorem dX8_level_13 : decode cX8_level 13 = .ok (.ifCond .ne 7, 3) := by decide +kernel
theorem dX8_level_16 : decode cX8_level 16 = .ok (.sipush (-1001), 3) := by decide +kernel
theorem dX8_level_19 : decode cX8_level 19 = .ok (.ireturn, 1) := by decide +kernel
theorem dX8_level_20 : decode cX8_level 20 = .ok (.iconst 0, 1) := by decide +kernel
theorem dX8_level_21 : decode cX8_level 21 = .ok (.istore 5, 2) := by decide +kernel
theorem dX8_level_23 : decode cX8_level 23 = .ok (.iconst 0, 1) := by decide +kernel
theorem dX8_level_24 : decode cX8_level 24 = .ok (.istore 6, 2) := by decide +kernel
theorem dX8_level_26 : decode cX8_level 26 = .ok (.iload 6, 2) := by decide +kernel
theorem dX8_level_28 : decode cX8_level 28 = .ok (.bipush 81, 2) := by decide +kernel
theorem dX8_level_30 : decode cX8_level 30 = .ok (.if_icmp .ge 44, 3) := by decide +kernel
theorem dX8_level_33 : decode cX8_level 33 = .ok (.iload 5, 2) := by decide +kernel
theorem dX8_level_35 : decode cX8_level 35 = .ok (.aload_n 0, 1) := by decide +kernel
theorem dX8_level_36 : decode cX8_level 36 = .ok (.iload_n 1, 1) := by decide +kernel
theorem dX8_level_37 : decode cX8_level 37 = .ok (.iload 6, 2) := by decide +kernel
theorem dX8_level_39 : decode cX8_level 39 = .ok (.bipush 9, 2) := by decide +kernel
theorem dX8_level_41 : decode cX8_level 41 = .ok (.irem, 1) := by decide +kernel
theorem dX8_level_42 : decode cX8_level 42 = .ok (.iload 6, 2) := by decide +kernel
theorem dX8_level_44 : decode cX8_level 44 = .ok (.bipush 9, 2) := by decide +kernel
theorem dX8_level_46 : decode cX8_level 46 = .ok (.idiv, 1) := by decide +kernel
theorem dX8_level_47 : decode cX8_level 47 = .ok (.iload_n 2, 1) := by decide +kernel
theorem dX8_level_48 : decode cX8_level 48 = .ok (.invokevirtual 92, 3) := by decide +kernel
theorem dX8_level_51 : decode cX8_level 51 = .ok (.iload_n 3, 1) := by decide +kernel
theorem dX8_level_52 : decode cX8_level 52 = .ok (.iload 4, 2) := by decide +kernel
theorem dX8_level_54 : decode cX8_level 54 = .ok (.invokestatic 42, 3) := by decide +kernel
theorem dX8_level_57 : decode cX8_level 57 = .ok (.ifCond .eq 7, 3) := by decide +kernel
theorem dX8_level_60 : decode cX8_level 60 = .ok (.iconst 1, 1) := by decide +kernel
theorem dX8_level_61 : decode cX8_level 61 = .ok (.goto 4, 3) := by decide +kernel
theorem dX8_level_64 : decode cX8_level 64 = .ok (.iconst 0, 1) := by decide +kernel
theorem dX8_level_65 : decode cX8_level 65 = .ok (.iadd, 1) := by decide +kernel
theorem dX8_level_66 : decode cX8_level 66 = .ok (.istore 5, 2) := by decide +kernel
theorem dX8_level_68 : decode cX8_level 68 = .ok (.iinc 6 1, 3) := by decide +kernel
theorem dX8_level_71 : decode cX8_level 71 = .ok (.goto (-45), 3) := by decide +kernel
theorem dX8_level_74 : decode cX8_level 74 = .ok (.iload 5, 2) := by decide +kernel
theorem dX8_level_76 : decode cX8_level 76 = .ok (.ireturn, 1) := by decide +kernel
set_option maxRecDepth 20000 in
theorem ggX8_nearest_X8_in : GoodIn wsX8_nearest wsX8_in := goodIn_r _ [4] (by decide +kernel) (by decide +kernel)
set_option maxRecDepth 20000 in
theorem gX8_nearest_X8_in : GoodIn wsX8_nearest (va_wsS RX8 42 yX8_in wsX8_in) := goodIn_app (goodIn_of _ (by decide +kernel)) ggX8_nearest_X8_in
set_option maxRecDepth 20000 in
theorem ggX8_nearest_X8_placeOf : GoodIn wsX8_nearest wsX8_placeOf := goodIn_r _ [8, 9, 10, 11, 3, 12, 13, 14, 15, 16, 17, 18, 19, 20, 21, 22, 23, 24, 25, 26, 27, 28, 29, 30] (by decide +kernel) (by decide +kernel)
set_option maxRecDepth 20000 in
theorem gX8_nearest_X8_placeOf : GoodIn wsX8_nearest (wsV RX8 95 RX8 yX8_placeOf wsX8_placeOf) := goodIn_app (goodIn_of _ (by decide +kernel)) ggX8_nearest_X8_placeOf
theorem dX8_nearest_0 : decode cX8_nearest 0 = .ok (.iload_n 1, 1) := by decide +kernel
theorem dX8_nearest_1 : decode cX8_nearest 1 = .ok (.iconst 0, 1) := by decide +kernel
theorem dX8_nearest_2 : decode cX8_nearest 2 = .ok (.sipush 999, 3) := by decide +kernel
theorem dX8_nearest_5 : decode cX8_nearest 5 = .ok (.invokestatic 42, 3) := by decide +kernel
theorem dX8_nearest_8 : decode cX8_nearest 8 = .ok (.ifCond .eq 23, 3) := by decide +kernel
theorem dX8_nearest_11 : decode cX8_nearest 11 = .ok (.iload_n 2, 1) := by decide +kernel
theorem dX8_nearest_12 : decode cX8_nearest 12 = .ok (.iconst 0, 1) := by decide +kernel
theorem dX8_nearest_13 : decode cX8_nearest 13 = .ok (.sipush 999, 3) := by decide +kernel
theorem dX8_nearest_16 : decode cX8_nearest 16 = .ok (.invokestatic 42, 3) := by decide +kernel
theorem dX8_nearest_19 : decode cX8_nearest 19 = .ok (.ifCond .eq 12, 3) := by decide +kernel
theorem dX8_nearest_22 : decode cX8_nearest 22 = .ok (.iload_n 3, 1) := by decide +kernel
theorem dX8_nearest_23 : decode cX8_nearest 23 = .ok (.iconst 0, 1) := by decide +kernel
theorem dX8_nearest_24 : decode cX8_nearest 24 = .ok (.iconst 3, 1) := by decide +kernel
theorem dX8_nearest_25 : decode cX8_nearest 25 = .ok (.invokestatic 42, 3) := by decide +kernel
theorem dX8_nearest_28 : decode cX8_nearest 28 = .ok (.ifCond .ne 7, 3) := by decide +kernel
theorem dX8_nearest_31 : decode cX8_nearest 31 = .ok (.sipush (-1001), 3) := by decide +kernel
theorem dX8_nearest_34 : decode cX8_nearest 34 = .ok (.ireturn, 1) := by decide +kernel
theorem dX8_nearest_35 : decode cX8_nearest 35 = .ok (.sipush (-1004), 3) := by decide +kernel
theorem dX8_nearest_38 : decode cX8_nearest 38 = .ok (.istore 4, 2) := by decide +kernel
theorem dX8_nearest_40 : decode cX8_nearest 40 = .ok (.iconst 0, 1) := by decide +kernel
theorem dX8_nearest_41 : decode cX8_nearest 41 = .ok (.istore 5, 2) := by decide +kernel
theorem dX8_nearest_43 : decode cX8_nearest 43 = .ok (.iconst 0, 1) := by decide +kernel
theorem dX8_nearest_44 : decode cX8_nearest 44 = .ok (.istore 6, 2) := by decide +kernel
theorem dX8_nearest_46 : decode cX8_nearest 46 = .ok (.iload 6, 2) := by decide +kernel
theorem dX8_nearest_48 : decode cX8_nearest 48 = .ok (.sipush 972, 3) := by decide +kernel
theorem dX8_nearest_51 : decode cX8_nearest 51 = .ok (.if_icmp .ge 123, 3) := by decide +kernel
theorem dX8_nearest_54 : decode cX8_nearest 54 = .ok (.aload_n 0, 1) := by decide +kernel
theorem dX8_nearest_55 : decode cX8_nearest 55 = .ok (.iload 6, 2) := by decide +kernel
theorem dX8_nearest_57 : decode cX8_nearest 57 = .ok (.bipush 81, 2) := by decide +kernel
theorem dX8_nearest_59 : decode cX8_nearest 59 = .ok (.idiv, 1) := by decide +kernel
theorem dX8_nearest_60 : decode cX8_nearest 60 = .ok (.iload 6, 2) := by decide +kernel
theorem dX8_nearest_62 : decode cX8_nearest 62 = .ok (.bipush 9, 2) := by decide +kernel
theorem dX8_nearest_64 : decode cX8_nearest 64 = .ok (.irem, 1) := by decide +kernel
theorem dX8_nearest_65 : decode cX8_nearest 65 = .ok (.iload 6, 2) := by decide +kernel
theorem dX8_nearest_67 : decode cX8_nearest 67 = .ok (.bipush 9, 2) := by decide +kernel
theorem dX8_nearest_69 : decode cX8_nearest 69 = .ok (.idiv, 1) := by decide +kernel
theorem dX8_nearest_70 : decode cX8_nearest 70 = .ok (.bipush 9, 2) := by decide +kernel
theorem dX8_nearest_72 : decode cX8_nearest 72 = .ok (.irem, 1) := by decide +kernel
theorem dX8_nearest_73 : decode cX8_nearest 73 = .ok (.iconst 0, 1) := by decide +kernel
theorem dX8_nearest_74 : decode cX8_nearest 74 = .ok (.invokevirtual 95, 3) := by decide +kernel
theorem dX8_nearest_77 : decode cX8_nearest 77 = .ok (.iload_n 1, 1) := by decide +kernel
theorem dX8_nearest_78 : decode cX8_nearest 78 = .ok (.isub, 1) := by decide +kernel
theorem dX8_nearest_79 : decode cX8_nearest 79 = .ok (.istore 7, 2) := by decide +kernel
theorem dX8_nearest_81 : decode cX8_nearest 81 = .ok (.aload_n 0, 1) := by decide +kernel
theorem dX8_nearest_82 : decode cX8_nearest 82 = .ok (.iload 6, 2) := by decide +kernel
theorem dX8_nearest_84 : decode cX8_nearest 84 = .ok (.bipush 81, 2) := by decide +kernel
theorem dX8_nearest_86 : decode cX8_nearest 86 = .ok (.idiv, 1) := by decide +kernel
theorem dX8_nearest_87 : decode cX8_nearest 87 = .ok (.iload 6, 2) := by decide +kernel
theorem dX8_nearest_89 : decode cX8_nearest 89 = .ok (.bipush 9, 2) := by decide +kernel
theorem dX8_nearest_91 : decode cX8_nearest 91 = .ok (.irem, 1) := by decide +kernel
theorem dX8_nearest_92 : decode cX8_nearest 92 = .ok (.iload 6, 2) := by decide +kernel
theorem dX8_nearest_94 : decode cX8_nearest 94 = .ok (.bipush 9, 2) := by decide +kernel
theorem dX8_nearest_96 : decode cX8_nearest 96 = .ok (.idiv, 1) := by decide +kernel
theorem dX8_nearest_97 : decode cX8_nearest 97 = .ok (.bipush 9, 2) := by decide +kernel
theorem dX8_nearest_99 : decode cX8_nearest 99 = .ok (.irem, 1) := by decide +kernel
theorem dX8_nearest_100 : decode cX8_nearest 100 = .ok (.iconst 1, 1) := by decide +kernel
theorem dX8_nearest_101 : decode cX8_nearest 101 = .ok (.invokevirtual 95, 3) := by decide +kernel
theorem dX8_nearest_104 : decode cX8_nearest 104 = .ok (.iload_n 2, 1) := by decide +kernel
theorem dX8_nearest_105 : decode cX8_nearest 105 = .ok (.isub, 1) := by decide +kernel
theorem dX8_nearest_106 : decode cX8_nearest 106 = .ok (.istore 8, 2) := by decide +kernel
theorem dX8_nearest_108 : decode cX8_nearest 108 = .ok (.iload 7, 2) := by decide +kernel
theorem dX8_nearest_110 : decode cX8_nearest 110 = .ok (.iload 7, 2) := by decide +kernel
theorem dX8_nearest_112 : decode cX8_nearest 112 = .ok (.imul, 1) := by decide +kernel
theorem dX8_nearest_113 : decode cX8_nearest 113 = .ok (.iload 8, 2) := by decide +kernel
theorem dX8_nearest_115 : decode cX8_nearest 115 = .ok (.iload 8, 2) := by decide +kernel
theorem dX8_nearest_117 : decode cX8_nearest 117 = .ok (.imul, 1) := by decide +kernel
theorem dX8_nearest_118 : decode cX8_nearest 118 = .ok (.iadd, 1) := by decide +kernel
theorem dX8_nearest_119 : decode cX8_nearest 119 = .ok (.istore 9, 2) := by decide +kernel
theorem dX8_nearest_121 : decode cX8_nearest 121 = .ok (.iload 4, 2) := by decide +kernel
theorem dX8_nearest_123 : decode cX8_nearest 123 = .ok (.ifCond .lt 10, 3) := by decide +kernel
theorem dX8_nearest_126 : decode cX8_nearest 126 = .ok (.iload 9, 2) := by decide +kernel
theorem dX8_nearest_128 : decode cX8_nearest 128 = .ok (.iload 5, 2) := by decide +kernel
theorem dX8_nearest_130 : decode cX8_nearest 130 = .ok (.if_icmp .ge 7, 3) := by decide +kernel
theorem dX8_nearest_133 : decode cX8_nearest 133 = .ok (.iconst 1, 1) := by decide +kernel
theorem dX8_nearest_134 : decode cX8_nearest 134 = .ok (.goto 4, 3) := by decide +kernel
theorem dX8_nearest_137 : decode cX8_nearest 137 = .ok (.iconst 0, 1) := by decide +kernel
theorem dX8_nearest_138 : decode cX8_nearest 138 = .ok (.istore 10, 2) := by decide +kernel
theorem dX8_nearest_140 : decode cX8_nearest 140 = .ok (.iload 10, 2) := by decide +kernel
theorem dX8_nearest_142 : decode cX8_nearest 142 = .ok (.ifCond .eq 8, 3) := by decide +kernel
theorem dX8_nearest_145 : decode cX8_nearest 145 = .ok (.iload 6, 2) := by decide +kernel
theorem dX8_nearest_147 : decode cX8_nearest 147 = .ok (.goto 5, 3) := by decide +kernel
theorem dX8_nearest_150 : decode cX8_nearest 150 = .ok (.iload 4, 2) := by decide +kernel
theorem dX8_nearest_152 : decode cX8_nearest 152 = .ok (.istore 4, 2) := by decide +kernel
theorem dX8_nearest_154 : decode cX8_nearest 154 = .ok (.iload 10, 2) := by decide +kernel
theorem dX8_nearest_156 : decode cX8_nearest 156 = .ok (.ifCond .eq 8, 3) := by decide +kernel
theorem dX8_nearest_159 : decode cX8_nearest 159 = .ok (.iload 9, 2) := by decide +kernel
theorem dX8_nearest_161 : decode cX8_nearest 161 = .ok (.goto 5, 3) := by decide +kernel
theorem dX8_nearest_164 : decode cX8_nearest 164 = .ok (.iload 5, 2) := by decide +kernel
theorem dX8_nearest_166 : decode cX8_nearest 166 = .ok (.istore 5, 2) := by decide +kernel
theorem dX8_nearest_168 : decode cX8_nearest 168 = .ok (.iinc 6 1, 3) := by decide +kernel
theorem dX8_nearest_171 : decode cX8_nearest 171 = .ok (.goto (-125), 3) := by decide +kernel
theorem dX8_nearest_174 : decode cX8_nearest 174 = .ok (.iload_n 3, 1) := by decide +kernel
theorem dX8_nearest_175 : decode cX8_nearest 175 = .ok (.ifCond .ne 11, 3) := by decide +kernel
theorem dX8_nearest_178 : decode cX8_nearest 178 = .ok (.iload 4, 2) := by decide +kernel
theorem dX8_nearest_180 : decode cX8_nearest 180 = .ok (.bipush 81, 2) := by decide +kernel
theorem dX8_nearest_182 : decode cX8_nearest 182 = .ok (.idiv, 1) := by decide +kernel
theorem dX8_nearest_183 : decode cX8_nearest 183 = .ok (.goto 34, 3) := by decide +kernel
theorem dX8_nearest_186 : decode cX8_nearest 186 = .ok (.iload_n 3, 1) := by decide +kernel
theorem dX8_nearest_187 : decode cX8_nearest 187 = .ok (.iconst 1, 1) := by decide +kernel
theorem dX8_nearest_188 : decode cX8_nearest 188 = .ok (.if_icmp .ne 11, 3) := by decide +kernel
theorem dX8_nearest_191 : decode cX8_nearest 191 = .ok (.iload 4, 2) := by decide +kernel
theorem dX8_nearest_193 : decode cX8_nearest 193 = .ok (.bipush 9, 2) := by decide +kernel
theorem dX8_nearest_195 : decode cX8_nearest 195 = .ok (.irem, 1) := by decide +kernel
theorem dX8_nearest_196 : decode cX8_nearest 196 = .ok (.goto 21, 3) := by decide +kernel
theorem dX8_nearest_199 : decode cX8_nearest 199 = .ok (.iload_n 3, 1) := by decide +kernel
theorem dX8_nearest_200 : decode cX8_nearest 200 = .ok (.iconst 2, 1) := by decide +kernel
theorem dX8_nearest_201 : decode cX8_nearest 201 = .ok (.if_icmp .ne 14, 3) := by decide +kernel
theorem dX8_nearest_204 : decode cX8_nearest 204 = .ok (.iload 4, 2) := by decide +kernel
theorem dX8_nearest_206 : decode cX8_nearest 206 = .ok (.bipush 9, 2) := by decide +kernel
theorem dX8_nearest_208 : decode cX8_nearest 208 = .ok (.idiv, 1) := by decide +kernel
theorem dX8_nearest_209 : decode cX8_nearest 209 = .ok (.bipush 9, 2) := by decide +kernel
theorem dX8_nearest_211 : decode cX8_nearest 211 = .ok (.irem, 1) := by decide +kernel
theorem dX8_nearest_212 : decode cX8_nearest 212 = .ok (.goto 5, 3) := by decide +kernel
theorem dX8_nearest_215 : decode cX8_nearest 215 = .ok (.iload 5, 2) := by decide +kernel
theorem dX8_nearest_217 : decode cX8_nearest 217 = .ok (.ireturn, 1) := by decide +kernel
set_option maxRecDepth 20000 in
theorem ggX8_calm_X8_copies : GoodIn wsX8_calm wsX8_copies := goodIn_r _ [6] (by decide +kernel) (by decide +kernel)
set_option maxRecDepth 20000 in
theorem gX8_calm_X8_copies : GoodIn wsX8_calm (va_wsS RX8 142 yX8_copies wsX8_copies) := goodIn_app (goodIn_of _ (by decide +kernel)) ggX8_calm_X8_copies
set_option maxRecDepth 20000 in
theorem ggX8_calm_X8_round : GoodIn wsX8_calm wsX8_round := goodIn_r _ [10, 11, 1, 12, 13, 14, 5, 15, 16, 17, 18, 19, 20, 21, 22, 23, 24, 25, 26, 27, 28, 29, 30, 31, 32, 33, 34, 35, 36, 37, 38, 39, 40, 41, 42, 43, 44, 45] (by decide +kernel) (by decide +kernel)
set_option maxRecDepth 20000 in
theorem gX8_calm_X8_round : GoodIn wsX8_calm (wsV RX8 81 RX8 yX8_round wsX8_round) := goodIn_app (goodIn_of _ (by decide +kernel)) ggX8_calm_X8_round
theorem dX8_calm_0 : decode cX8_calm 0 = .ok (.aload_n 0, 1) := by decide +kernel
theorem dX8_calm_1 : decode cX8_calm 1 = .ok (.getfield 7, 3) := by decide +kernel
theorem dX8_calm_4 : decode cX8_calm 4 = .ok (.aload_n 0, 1) := by decide +kernel
theorem dX8_calm_5 : decode cX8_calm 5 = .ok (.getfield 19, 3) := by decide +kernel
theorem dX8_calm_8 : decode cX8_calm 8 = .ok (.invokestatic 142, 3) := by decide +kernel
theorem dX8_calm_11 : decode cX8_calm 11 = .ok (.iconst 0, 1) := by decide +kernel
theorem dX8_calm_12 : decode cX8_calm 12 = .ok (.istore_n 1, 1) := by decide +kernel
theorem dX8_calm_13 : decode cX8_calm 13 = .ok (.iload_n 1, 1) := by decide +kernel
theorem dX8_calm_14 : decode cX8_calm 14 = .ok (.bipush 40, 2) := by decide +kernel
theorem dX8_calm_16 : decode cX8_calm 16 = .ok (.if_icmp .gt 16, 3) := by decide +kernel
theorem dX8_calm_19 : decode cX8_calm 19 = .ok (.aload_n 0, 1) := by decide +kernel
theorem dX8_calm_20 : decode cX8_calm 20 = .ok (.invokevirtual 81, 3) := by decide +kernel
theorem dX8_calm_23 : decode cX8_calm 23 = .ok (.ifCond .le 9, 3) := by decide +kernel
theorem dX8_calm_26 : decode cX8_calm 26 = .ok (.iinc 1 1, 3) := by decide +kernel
theorem dX8_calm_29 : decode cX8_calm 29 = .ok (.goto (-16), 3) := by decide +kernel
theorem dX8_calm_32 : decode cX8_calm 32 = .ok (.aload_n 0, 1) := by decide +kernel
theorem dX8_calm_33 : decode cX8_calm 33 = .ok (.getfield 19, 3) := by decide +kernel
theorem dX8_calm_36 : decode cX8_calm 36 = .ok (.aload_n 0, 1) := by decide +kernel
theorem dX8_calm_37 : decode cX8_calm 37 = .ok (.getfield 7, 3) := by decide +kernel
theorem dX8_calm_40 : decode cX8_calm 40 = .ok (.invokestatic 142, 3) := by decide +kernel
theorem dX8_calm_43 : decode cX8_calm 43 = .ok (.iload_n 1, 1) := by decide +kernel
theorem dX8_calm_44 : decode cX8_calm 44 = .ok (.bipush 40, 2) := by decide +kernel
theorem dX8_calm_46 : decode cX8_calm 46 = .ok (.if_icmp .le 9, 3) := by decide +kernel
theorem dX8_calm_49 : decode cX8_calm 49 = .ok (.sipush (-1004), 3) := by decide +kernel
theorem dX8_calm_52 : decode cX8_calm 52 = .ok (.goto 4, 3) := by decide +kernel
theorem dX8_calm_55 : decode cX8_calm 55 = .ok (.iload_n 1, 1) := by decide +kernel
theorem dX8_calm_56 : decode cX8_calm 56 = .ok (.ireturn, 1) := by decide +kernel
set_option maxRecDepth 20000 in
theorem ggX8_keep_X8_copies : GoodIn wsX8_keep wsX8_copies := goodIn_r _ [7] (by decide +kernel) (by decide +kernel)
set_option maxRecDepth 20000 in
theorem gX8_keep_X8_copies : GoodIn wsX8_keep (va_wsS RX8 142 yX8_copies wsX8_copies) := goodIn_app (goodIn_of _ (by decide +kernel)) ggX8_keep_X8_copies
set_option maxRecDepth 20000 in
theorem ggX8_keep_X8_heldCorners : GoodIn wsX8_keep wsX8_heldCorners := goodIn_r _ [11, 1, 12, 13, 14, 15, 16, 17, 18, 19, 20, 21, 22, 23, 24, 25, 26, 27, 28, 29] (by decide +kernel) (by decide +kernel)
set_option maxRecDepth 20000 in
theorem gX8_keep_X8_heldCorners : GoodIn wsX8_keep (wsV RX8 57 RX8 yX8_heldCorners wsX8_heldCorners) := goodIn_app (goodIn_of _ (by decide +kernel)) ggX8_keep_X8_heldCorners
theorem dX8_keep_0 : decode cX8_keep 0 = .ok (.aload_n 0, 1) := by decide +kernel
theorem dX8_keep_1 : decode cX8_keep 1 = .ok (.getfield 7, 3) := by decide +kernel
theorem dX8_keep_4 : decode cX8_keep 4 = .ok (.aload_n 0, 1) := by decide +kernel
theorem dX8_keep_5 : decode cX8_keep 5 = .ok (.getfield 16, 3) := by decide +kernel
theorem dX8_keep_8 : decode cX8_keep 8 = .ok (.invokestatic 142, 3) := by decide +kernel
theorem dX8_keep_11 : decode cX8_keep 11 = .ok (.aload_n 0, 1) := by decide +kernel
theorem dX8_keep_12 : decode cX8_keep 12 = .ok (.iconst 1, 1) := by decide +kernel
theorem dX8_keep_13 : decode cX8_keep 13 = .ok (.putfield 129, 3) := by decide +kernel
theorem dX8_keep_16 : decode cX8_keep 16 = .ok (.aload_n 0, 1) := by decide +kernel
theorem dX8_keep_17 : decode cX8_keep 17 = .ok (.invokevirtual 57, 3) := by decide +kernel
theorem dX8_keep_20 : decode cX8_keep 20 = .ok (.ireturn, 1) := by decide +kernel
set_option maxRecDepth 20000 in
theorem ggX8_restore_X8_changes : GoodIn wsX8_restore wsX8_changes := goodIn_r _ [8, 9, 10, 11, 3, 19, 20, 21, 22, 23, 24, 25, 26, 27, 28, 29, 30, 31, 32, 33, 34, 35, 36] (by decide +kernel) (by decide +kernel)
set_option maxRecDepth 20000 in
theorem gX8_restore_X8_changes : GoodIn wsX8_restore (wsV RX8 50 RX8 yX8_changes wsX8_changes) := goodIn_app (goodIn_of _ (by decide +kernel)) ggX8_restore_X8_changes
set_option maxRecDepth 20000 in
theorem ggX8_restore_X8_copies : GoodIn wsX8_restore wsX8_copies := goodIn_r _ [14] (by decide +kernel) (by decide +kernel)
set_option maxRecDepth 20000 in
theorem gX8_restore_X8_copies : GoodIn wsX8_restore (va_wsS RX8 142 yX8_copies wsX8_copies) := goodIn_app (goodIn_of _ (by decide +kernel)) ggX8_restore_X8_copies
set_option maxRecDepth 20000 in
theorem ggX8_restore_X8_heldCorners : GoodIn wsX8_restore wsX8_heldCorners := goodIn_r _ [18, 3, 19, 20, 21, 22, 23, 24, 25, 26, 27, 28, 29, 30, 31, 32, 33, 34, 35, 36] (by decide +kernel) (by decide +kernel)
set_option maxRecDepth 20000 in
theorem gX8_restore_X8_heldCorners : GoodIn wsX8_restore (wsV RX8 57 RX8 yX8_heldCorners wsX8_heldCorners) := goodIn_app (goodIn_of _ (by decide +kernel)) ggX8_restore_X8_heldCorners
theorem dX8_restore_0 : decode cX8_restore 0 = .ok (.aload_n 0, 1) := by decide +kernel
theorem dX8_restore_1 : decode cX8_restore 1 = .ok (.getfield 129, 3) := by decide +kernel
theorem dX8_restore_4 : decode cX8_restore 4 = .ok (.ifCond .ne 7, 3) := by decide +kernel
theorem dX8_restore_7 : decode cX8_restore 7 = .ok (.sipush (-1002), 3) := by decide +kernel
theorem dX8_restore_10 : decode cX8_restore 10 = .ok (.ireturn, 1) := by decide +kernel
theorem dX8_restore_11 : decode cX8_restore 11 = .ok (.aload_n 0, 1) := by decide +kernel
theorem dX8_restore_12 : decode cX8_restore 12 = .ok (.invokevirtual 50, 3) := by decide +kernel
theorem dX8_restore_15 : decode cX8_restore 15 = .ok (.aload_n 0, 1) := by decide +kernel
theorem dX8_restore_16 : decode cX8_restore 16 = .ok (.getfield 16, 3) := by decide +kernel
theorem dX8_restore_19 : decode cX8_restore 19 = .ok (.aload_n 0, 1) := by decide +kernel
theorem dX8_restore_20 : decode cX8_restore 20 = .ok (.getfield 7, 3) := by decide +kernel
theorem dX8_restore_23 : decode cX8_restore 23 = .ok (.invokestatic 142, 3) := by decide +kernel
theorem dX8_restore_26 : decode cX8_restore 26 = .ok (.aload_n 0, 1) := by decide +kernel
theorem dX8_restore_27 : decode cX8_restore 27 = .ok (.invokevirtual 57, 3) := by decide +kernel
theorem dX8_restore_30 : decode cX8_restore 30 = .ok (.ireturn, 1) := by decide +kernel
theorem dX8_undo_0 : decode cX8_undo 0 = .ok (.aload_n 0, 1) := by decide +kernel
theorem dX8_undo_1 : decode cX8_undo 1 = .ok (.getfield 38, 3) := by decide +kernel
theorem dX8_undo_4 : decode cX8_undo 4 = .ok (.ifCond .ne 7, 3) := by decide +kernel
theorem dX8_undo_7 : decode cX8_undo 7 = .ok (.sipush (-1002), 3) := by decide +kernel
theorem dX8_undo_10 : decode cX8_undo 10 = .ok (.ireturn, 1) := by decide +kernel
theorem dX8_undo_11 : decode cX8_undo 11 = .ok (.aload_n 0, 1) := by decide +kernel
theorem dX8_undo_12 : decode cX8_undo 12 = .ok (.dup, 1) := by decide +kernel
theorem dX8_undo_13 : decode cX8_undo 13 = .ok (.getfield 38, 3) := by decide +kernel
theorem dX8_undo_16 : decode cX8_undo 16 = .ok (.iconst 1, 1) := by decide +kernel
theorem dX8_undo_17 : decode cX8_undo 17 = .ok (.isub, 1) := by decide +kernel
theorem dX8_undo_18 : decode cX8_undo 18 = .ok (.putfield 38, 3) := by decide +kernel
theorem dX8_undo_21 : decode cX8_undo 21 = .ok (.iconst 0, 1) := by decide +kernel
theorem dX8_undo_22 : decode cX8_undo 22 = .ok (.istore_n 1, 1) := by decide +kernel
theorem dX8_undo_23 : decode cX8_undo 23 = .ok (.iload_n 1, 1) := by decide +kernel
theorem dX8_undo_24 : decode cX8_undo 24 = .ok (.sipush 240, 3) := by decide +kernel
theorem dX8_undo_27 : decode cX8_undo 27 = .ok (.if_icmp .ge 30, 3) := by decide +kernel
theorem dX8_undo_30 : decode cX8_undo 30 = .ok (.aload_n 0, 1) := by decide +kernel
theorem dX8_undo_31 : decode cX8_undo 31 = .ok (.getfield 7, 3) := by decide +kernel
theorem dX8_undo_34 : decode cX8_undo 34 = .ok (.iload_n 1, 1) := by decide +kernel
theorem dX8_undo_35 : decode cX8_undo 35 = .ok (.aload_n 0, 1) := by decide +kernel
theorem dX8_undo_36 : decode cX8_undo 36 = .ok (.getfield 13, 3) := by decide +kernel
theorem dX8_undo_39 : decode cX8_undo 39 = .ok (.sipush 240, 3) := by decide +kernel
theorem dX8_undo_42 : decode cX8_undo 42 = .ok (.aload_n 0, 1) := by decide +kernel
theorem dX8_undo_43 : decode cX8_undo 43 = .ok (.getfield 38, 3) := by decide +kernel
theorem dX8_undo_46 : decode cX8_undo 46 = .ok (.imul, 1) := by decide +kernel
theorem dX8_undo_47 : decode cX8_undo 47 = .ok (.iload_n 1, 1) := by decide +kernel
theorem dX8_undo_48 : decode cX8_undo 48 = .ok (.iadd, 1) := by decide +kernel
theorem dX8_undo_49 : decode cX8_undo 49 = .ok (.iaload, 1) := by decide +kernel
theorem dX8_undo_50 : decode cX8_undo 50 = .ok (.iastore, 1) := by decide +kernel
theorem dX8_undo_51 : decode cX8_undo 51 = .ok (.iinc 1 1, 3) := by decide +kernel
theorem dX8_undo_54 : decode cX8_undo 54 = .ok (.goto (-31), 3) := by decide +kernel
theorem dX8_undo_57 : decode cX8_undo 57 = .ok (.aload_n 0, 1) := by decide +kernel
theorem dX8_undo_58 : decode cX8_undo 58 = .ok (.getfield 38, 3) := by decide +kernel
theorem dX8_undo_61 : decode cX8_undo 61 = .ok (.ireturn, 1) := by decide +kernel
set_option maxRecDepth 20000 in
theorem ggX8_type_X8_in : GoodIn wsX8_type wsX8_in := goodIn_r _ [6] (by decide +kernel) (by decide +kernel)
set_option maxRecDepth 20000 in
theorem gX8_type_X8_in : GoodIn wsX8_type (va_wsS RX8 42 yX8_in wsX8_in) := goodIn_app (goodIn_of _ (by decide +kernel)) ggX8_type_X8_in
theorem dX8_type_0 : decode cX8_type 0 = .ok (.iload_n 1, 1) := by decide +kernel
theorem dX8_type_1 : decode cX8_type 1 = .ok (.bipush 32, 2) := by decide +kernel
theorem dX8_type_3 : decode cX8_type 3 = .ok (.bipush 126, 2) := by decide +kernel
theorem dX8_type_5 : decode cX8_type 5 = .ok (.invokestatic 42, 3) := by decide +kernel
theorem dX8_type_8 : decode cX8_type 8 = .ok (.ifCond .ne 7, 3) := by decide +kernel
theorem dX8_type_11 : decode cX8_type 11 = .ok (.sipush (-1001), 3) := by decide +kernel
theorem dX8_type_14 : decode cX8_type 14 = .ok (.ireturn, 1) := by decide +kernel
theorem dX8_type_15 : decode cX8_type 15 = .ok (.aload_n 0, 1) := by decide +kernel
theorem dX8_type_16 : decode cX8_type 16 = .ok (.getfield 126, 3) := by decide +kernel
theorem dX8_type_19 : decode cX8_type 19 = .ok (.bipush 60, 2) := by decide +kernel
theorem dX8_type_21 : decode cX8_type 21 = .ok (.if_icmp .ne 7, 3) := by decide +kernel
theorem dX8_type_24 : decode cX8_type 24 = .ok (.sipush (-1003), 3) := by decide +kernel
theorem dX8_type_27 : decode cX8_type 27 = .ok (.ireturn, 1) := by decide +kernel
theorem dX8_type_28 : decode cX8_type 28 = .ok (.aload_n 0, 1) := by decide +kernel
theorem dX8_type_29 : decode cX8_type 29 = .ok (.getfield 22, 3) := by decide +kernel
theorem dX8_type_32 : decode cX8_type 32 = .ok (.aload_n 0, 1) := by decide +kernel
theorem dX8_type_33 : decode cX8_type 33 = .ok (.getfield 126, 3) := by decide +kernel
theorem dX8_type_36 : decode cX8_type 36 = .ok (.iload_n 1, 1) := by decide +kernel
theorem dX8_type_37 : decode cX8_type 37 = .ok (.iastore, 1) := by decide +kernel
theorem dX8_type_38 : decode cX8_type 38 = .ok (.aload_n 0, 1) := by decide +kernel
theorem dX8_type_39 : decode cX8_type 39 = .ok (.dup, 1) := by decide +kernel
theorem dX8_type_40 : decode cX8_type 40 = .ok (.getfield 126, 3) := by decide +kernel
theorem dX8_type_43 : decode cX8_type 43 = .ok (.iconst 1, 1) := by decide +kernel
theorem dX8_type_44 : decode cX8_type 44 = .ok (.iadd, 1) := by decide +kernel
theorem dX8_type_45 : decode cX8_type 45 = .ok (.putfield 126, 3) := by decide +kernel
theorem dX8_type_48 : decode cX8_type 48 = .ok (.aload_n 0, 1) := by decide +kernel
theorem dX8_type_49 : decode cX8_type 49 = .ok (.getfield 126, 3) := by decide +kernel
theorem dX8_type_52 : decode cX8_type 52 = .ok (.ireturn, 1) := by decide +kernel
theorem dX8_clearText_0 : decode cX8_clearText 0 = .ok (.aload_n 0, 1) := by decide +kernel
theorem dX8_clearText_1 : decode cX8_clearText 1 = .ok (.getfield 126, 3) := by decide +kernel
theorem dX8_clearText_4 : decode cX8_clearText 4 = .ok (.istore_n 1, 1) := by decide +kernel
theorem dX8_clearText_5 : decode cX8_clearText 5 = .ok (.aload_n 0, 1) := by decide +kernel
theorem dX8_clearText_6 : decode cX8_clearText 6 = .ok (.iconst 0, 1) := by decide +kernel
theorem dX8_clearText_7 : decode cX8_clearText 7 = .ok (.putfield 126, 3) := by decide +kernel
theorem dX8_clearText_10 : decode cX8_clearText 10 = .ok (.iload_n 1, 1) := by decide +kernel
theorem dX8_clearText_11 : decode cX8_clearText 11 = .ok (.ireturn, 1) := by decide +kernel
set_option maxRecDepth 20000 in
theorem ggX8_isAt_X8_in : GoodIn wsX8_isAt wsX8_in := goodIn_r _ [7] (by decide +kernel) (by decide +kernel)
set_option maxRecDepth 20000 in
theorem gX8_isAt_X8_in : GoodIn wsX8_isAt (va_wsS RX8 42 yX8_in wsX8_in) := goodIn_app (goodIn_of _ (by decide +kernel)) ggX8_isAt_X8_in
theorem dX8_isAt_0 : decode cX8_isAt 0 = .ok (.aload_n 0, 1) := by decide +kernel
theorem dX8_isAt_1 : decode cX8_isAt 1 = .ok (.getfield 146, 3) := by decide +kernel
theorem dX8_isAt_4 : decode cX8_isAt 4 = .ok (.aload_n 0, 1) := by decide +kernel
theorem dX8_isAt_5 : decode cX8_isAt 5 = .ok (.getfield 126, 3) := by decide +kernel
theorem dX8_isAt_8 : decode cX8_isAt 8 = .ok (.if_icmp .ge 24, 3) := by decide +kernel
theorem dX8_isAt_11 : decode cX8_isAt 11 = .ok (.aload_n 0, 1) := by decide +kernel
theorem dX8_isAt_12 : decode cX8_isAt 12 = .ok (.getfield 22, 3) := by decide +kernel
theorem dX8_isAt_15 : decode cX8_isAt 15 = .ok (.aload_n 0, 1) := by decide +kernel
theorem dX8_isAt_16 : decode cX8_isAt 16 = .ok (.getfield 146, 3) := by decide +kernel
theorem dX8_isAt_19 : decode cX8_isAt 19 = .ok (.iaload, 1) := by decide +kernel
theorem dX8_isAt_20 : decode cX8_isAt 20 = .ok (.iload_n 1, 1) := by decide +kernel
theorem dX8_isAt_21 : decode cX8_isAt 21 = .ok (.iload_n 2, 1) := by decide +kernel
theorem dX8_isAt_22 : decode cX8_isAt 22 = .ok (.invokestatic 42, 3) := by decide +kernel
theorem dX8_isAt_25 : decode cX8_isAt 25 = .ok (.ifCond .eq 7, 3) := by decide +kernel
theorem dX8_isAt_28 : decode cX8_isAt 28 = .ok (.iconst 1, 1) := by decide +kernel
theorem dX8_isAt_29 : decode cX8_isAt 29 = .ok (.goto 4, 3) := by decide +kernel
theorem dX8_isAt_32 : decode cX8_isAt 32 = .ok (.iconst 0, 1) := by decide +kernel
theorem dX8_isAt_33 : decode cX8_isAt 33 = .ok (.ireturn, 1) := by decide +kernel
set_option maxRecDepth 20000 in
theorem ggX8_sign_X8_isAt : GoodIn wsX8_sign wsX8_isAt := goodIn_r _ [6, 1, 7, 8, 9, 10, 5, 11, 12, 13, 14, 15, 16, 17, 18, 19, 20, 21, 22, 23, 24, 25, 26, 27, 28, 29] (by decide +kernel) (by decide +kernel)
set_option maxRecDepth 20000 in
theorem gX8_sign_X8_isAt : GoodIn wsX8_sign (wsV RX8 149 RX8 yX8_isAt wsX8_isAt) := goodIn_app (goodIn_of _ (by decide +kernel)) ggX8_sign_X8_isAt
theorem dX8_sign_0 : decode cX8_sign 0 = .ok (.aload_n 0, 1) := by decide +kernel
theorem dX8_sign_1 : decode cX8_sign 1 = .ok (.iload_n 1, 1) := by decide +kernel
theorem dX8_sign_2 : decode cX8_sign 2 = .ok (.iload_n 1, 1) := by decide +kernel
theorem dX8_sign_3 : decode cX8_sign 3 = .ok (.invokevirtual 149, 3) := by decide +kernel
theorem dX8_sign_6 : decode cX8_sign 6 = .ok (.istore_n 2, 1) := by decide +kernel
theorem dX8_sign_7 : decode cX8_sign 7 = .ok (.aload_n 0, 1) := by decide +kernel
theorem dX8_sign_8 : decode cX8_sign 8 = .ok (.dup, 1) := by decide +kernel
theorem dX8_sign_9 : decode cX8_sign 9 = .ok (.getfield 146, 3) := by decide +kernel
theorem dX8_sign_12 : decode cX8_sign 12 = .ok (.iload_n 2, 1) := by decide +kernel
theorem dX8_sign_13 : decode cX8_sign 13 = .ok (.ifCond .eq 7, 3) := by decide +kernel
theorem dX8_sign_16 : decode cX8_sign 16 = .ok (.iconst 1, 1) := by decide +kernel
theorem dX8_sign_17 : decode cX8_sign 17 = .ok (.goto 4, 3) := by decide +kernel
theorem dX8_sign_20 : decode cX8_sign 20 = .ok (.iconst 0, 1) := by decide +kernel
theorem dX8_sign_21 : decode cX8_sign 21 = .ok (.iadd, 1) := by decide +kernel
theorem dX8_sign_22 : decode cX8_sign 22 = .ok (.putfield 146, 3) := by decide +kernel
theorem dX8_sign_25 : decode cX8_sign 25 = .ok (.iload_n 2, 1) := by decide +kernel
theorem dX8_sign_26 : decode cX8_sign 26 = .ok (.ireturn, 1) := by decide +kernel
set_option maxRecDepth 20000 in
theorem ggX8_digits_X8_isAt : GoodIn wsX8_digits wsX8_isAt := goodIn_r _ [8, 1, 9, 3, 10, 11, 7, 12, 13, 14, 15, 16, 17, 18, 19, 20, 21, 22, 23, 24, 25, 26, 27, 28, 29, 30] (by decide +kernel) (by decide +kernel)
set_option maxRecDepth 20000 in
theorem gX8_digits_X8_isAt : GoodIn wsX8_digits (wsV RX8 149 RX8 yX8_isAt wsX8_isAt) := goodIn_app (goodIn_of _ (by decide +kernel)) ggX8_digits_X8_isAt
theorem dX8_digits_0 : decode cX8_digits 0 = .ok (.aload_n 0, 1) := by decide +kernel
theorem dX8_digits_1 : decode cX8_digits 1 = .ok (.getfield 146, 3) := by decide +kernel
theorem dX8_digits_4 : decode cX8_digits 4 = .ok (.istore_n 3, 1) := by decide +kernel
theorem dX8_digits_5 : decode cX8_digits 5 = .ok (.aload_n 0, 1) := by decide +kernel
theorem dX8_digits_6 : decode cX8_digits 6 = .ok (.getfield 31, 3) := by decide +kernel
theorem dX8_digits_9 : decode cX8_digits 9 = .ok (.iload_n 1, 1) := by decide +kernel
theorem dX8_digits_10 : decode cX8_digits 10 = .ok (.iconst 0, 1) := by decide +kernel
theorem dX8_digits_11 : decode cX8_digits 11 = .ok (.iastore, 1) := by decide +kernel
theorem dX8_digits_12 : decode cX8_digits 12 = .ok (.aload_n 0, 1) := by decide +kernel
theorem dX8_digits_13 : decode cX8_digits 13 = .ok (.bipush 48, 2) := by decide +kernel
theorem dX8_digits_15 : decode cX8_digits 15 = .ok (.bipush 57, 2) := by decide +kernel
theorem dX8_digits_17 : decode cX8_digits 17 = .ok (.invokevirtual 149, 3) := by decide +kernel
theorem dX8_digits_20 : decode cX8_digits 20 = .ok (.ifCond .eq 54, 3) := by decide +kernel
theorem dX8_digits_23 : decode cX8_digits 23 = .ok (.aload_n 0, 1) := by decide +kernel
theorem dX8_digits_24 : decode cX8_digits 24 = .ok (.getfield 146, 3) := by decide +kernel
theorem dX8_digits_27 : decode cX8_digits 27 = .ok (.iload_n 3, 1) := by decide +kernel
theorem dX8_digits_28 : decode cX8_digits 28 = .ok (.isub, 1) := by decide +kernel
theorem dX8_digits_29 : decode cX8_digits 29 = .ok (.iload_n 2, 1) := by decide +kernel
theorem dX8_digits_30 : decode cX8_digits 30 = .ok (.if_icmp .ge 44, 3) := by decide +kernel
theorem dX8_digits_33 : decode cX8_digits 33 = .ok (.aload_n 0, 1) := by decide +kernel
theorem dX8_digits_34 : decode cX8_digits 34 = .ok (.getfield 31, 3) := by decide +kernel
theorem dX8_digits_37 : decode cX8_digits 37 = .ok (.iload_n 1, 1) := by decide +kernel
theorem dX8_digits_38 : decode cX8_digits 38 = .ok (.bipush 10, 2) := by decide +kernel
theorem dX8_digits_40 : decode cX8_digits 40 = .ok (.aload_n 0, 1) := by decide +kernel
theorem dX8_digits_41 : decode cX8_digits 41 = .ok (.getfield 31, 3) := by decide +kernel
theorem dX8_digits_44 : decode cX8_digits 44 = .ok (.iload_n 1, 1) := by decide +kernel
theorem dX8_digits_45 : decode cX8_digits 45 = .ok (.iaload, 1) := by decide +kernel
theorem dX8_digits_46 : decode cX8_digits 46 = .ok (.imul, 1) := by decide +kernel
theorem dX8_digits_47 : decode cX8_digits 47 = .ok (.aload_n 0, 1) := by decide +kernel
theorem dX8_digits_48 : decode cX8_digits 48 = .ok (.getfield 22, 3) := by decide +kernel
theorem dX8_digits_51 : decode cX8_digits 51 = .ok (.aload_n 0, 1) := by decide +kernel
theorem dX8_digits_52 : decode cX8_digits 52 = .ok (.getfield 146, 3) := by decide +kernel
theorem dX8_digits_55 : decode cX8_digits 55 = .ok (.iaload, 1) := by decide +kernel
theorem dX8_digits_56 : decode cX8_digits 56 = .ok (.iadd, 1) := by decide +kernel
theorem dX8_digits_57 : decode cX8_digits 57 = .ok (.bipush 48, 2) := by decide +kernel
theorem dX8_digits_59 : decode cX8_digits 59 = .ok (.isub, 1) := by decide +kernel
theorem dX8_digits_60 : decode cX8_digits 60 = .ok (.iastore, 1) := by decide +kernel
theorem dX8_digits_61 : decode cX8_digits 61 = .ok (.aload_n 0, 1) := by decide +kernel
theorem dX8_digits_62 : decode cX8_digits 62 = .ok (.dup, 1) := by decide +kernel
theorem dX8_digits_63 : decode cX8_digits 63 = .ok (.getfield 146, 3) := by decide +kernel
theorem dX8_digits_66 : decode cX8_digits 66 = .ok (.iconst 1, 1) := by decide +kernel
theorem dX8_digits_67 : decode cX8_digits 67 = .ok (.iadd, 1) := by decide +kernel
theorem dX8_digits_68 : decode cX8_digits 68 = .ok (.putfield 146, 3) := by decide +kernel
theorem dX8_digits_71 : decode cX8_digits 71 = .ok (.goto (-59), 3) := by decide +kernel
theorem dX8_digits_74 : decode cX8_digits 74 = .ok (.aload_n 0, 1) := by decide +kernel
theorem dX8_digits_75 : decode cX8_digits 75 = .ok (.getfield 146, 3) := by decide +kernel
theorem dX8_digits_78 : decode cX8_digits 78 = .ok (.iload_n 3, 1) := by decide +kernel
theorem dX8_digits_79 : decode cX8_digits 79 = .ok (.if_icmp .le 7, 3) := by decide +kernel
theorem dX8_digits_82 : decode cX8_digits 82 = .ok (.iconst 1, 1) := by decide +kernel
theorem dX8_digits_83 : decode cX8_digits 83 = .ok (.goto 4, 3) := by decide +kernel
theorem dX8_digits_86 : decode cX8_digits 86 = .ok (.iconst 0, 1) := by decide +kernel
theorem dX8_digits_87 : decode cX8_digits 87 = .ok (.ireturn, 1) := by decide +kernel
set_option maxRecDepth 20000 in
theorem ggX8_sixteenth_X8_isAt : GoodIn wsX8_sixteenth wsX8_isAt := goodIn_r _ [8, 3, 9, 2, 10, 11, 7, 12, 13, 14, 15, 16, 17, 18, 19, 20, 21, 22, 23, 24, 25, 26, 27, 28, 29, 30] (by decide +kernel) (by decide +kernel)
set_option maxRecDepth 20000 in
theorem gX8_sixteenth_X8_isAt : GoodIn wsX8_sixteenth (wsV RX8 149 RX8 yX8_isAt wsX8_isAt) := goodIn_app (goodIn_of _ (by decide +kernel)) ggX8_sixteenth_X8_isAt
theorem dX8_sixteenth_0 : decode cX8_sixteenth 0 = .ok (.aload_n 0, 1) := by decide +kernel
theorem dX8_sixteenth_1 : decode cX8_sixteenth 1 = .ok (.bipush 48, 2) := by decide +kernel
theorem dX8_sixteenth_3 : decode cX8_sixteenth 3 = .ok (.bipush 57, 2) := by decide +kernel
theorem dX8_sixteenth_5 : decode cX8_sixteenth 5 = .ok (.invokevirtual 149, 3) := by decide +kernel
theorem dX8_sixteenth_8 : decode cX8_sixteenth 8 = .ok (.istore_n 2, 1) := by decide +kernel
theorem dX8_sixteenth_9 : decode cX8_sixteenth 9 = .ok (.iload_n 2, 1) := by decide +kernel
theorem dX8_sixteenth_10 : decode cX8_sixteenth 10 = .ok (.ifCond .ne 16, 3) := by decide +kernel
theorem dX8_sixteenth_13 : decode cX8_sixteenth 13 = .ok (.aload_n 0, 1) := by decide +kernel
theorem dX8_sixteenth_14 : decode cX8_sixteenth 14 = .ok (.bipush 97, 2) := by decide +kernel
theorem dX8_sixteenth_16 : decode cX8_sixteenth 16 = .ok (.bipush 102, 2) := by decide +kernel
theorem dX8_sixteenth_18 : decode cX8_sixteenth 18 = .ok (.invokevirtual 149, 3) := by decide +kernel
theorem dX8_sixteenth_21 : decode cX8_sixteenth 21 = .ok (.ifCond .ne 5, 3) := by decide +kernel
theorem dX8_sixteenth_24 : decode cX8_sixteenth 24 = .ok (.iconst 0, 1) := by decide +kernel
theorem dX8_sixteenth_25 : decode cX8_sixteenth 25 = .ok (.ireturn, 1) := by decide +kernel
theorem dX8_sixteenth_26 : decode cX8_sixteenth 26 = .ok (.aload_n 0, 1) := by decide +kernel
theorem dX8_sixteenth_27 : decode cX8_sixteenth 27 = .ok (.getfield 31, 3) := by decide +kernel
theorem dX8_sixteenth_30 : decode cX8_sixteenth 30 = .ok (.iload_n 1, 1) := by decide +kernel
theorem dX8_sixteenth_31 : decode cX8_sixteenth 31 = .ok (.bipush 16, 2) := by decide +kernel
theorem dX8_sixteenth_33 : decode cX8_sixteenth 33 = .ok (.aload_n 0, 1) := by decide +kernel
theorem dX8_sixteenth_34 : decode cX8_sixteenth 34 = .ok (.getfield 31, 3) := by decide +kernel
theorem dX8_sixteenth_37 : decode cX8_sixteenth 37 = .ok (.iload_n 1, 1) := by decide +kernel
theorem dX8_sixteenth_38 : decode cX8_sixteenth 38 = .ok (.iaload, 1) := by decide +kernel
theorem dX8_sixteenth_39 : decode cX8_sixteenth 39 = .ok (.imul, 1) := by decide +kernel
theorem dX8_sixteenth_40 : decode cX8_sixteenth 40 = .ok (.aload_n 0, 1) := by decide +kernel
theorem dX8_sixteenth_41 : decode cX8_sixteenth 41 = .ok (.getfield 22, 3) := by decide +kernel
theorem dX8_sixteenth_44 : decode cX8_sixteenth 44 = .ok (.aload_n 0, 1) := by decide +kernel
theorem dX8_sixteenth_45 : decode cX8_sixteenth 45 = .ok (.getfield 146, 3) := by decide +kernel
theorem dX8_sixteenth_48 : decode cX8_sixteenth 48 = .ok (.iaload, 1) := by decide +kernel
theorem dX8_sixteenth_49 : decode cX8_sixteenth 49 = .ok (.iadd, 1) := by decide +kernel
theorem dX8_sixteenth_50 : decode cX8_sixteenth 50 = .ok (.iload_n 2, 1) := by decide +kernel
theorem dX8_sixteenth_51 : decode cX8_sixteenth 51 = .ok (.ifCond .eq 8, 3) := by decide +kernel
theorem dX8_sixteenth_54 : decode cX8_sixteenth 54 = .ok (.bipush 48, 2) := by decide +kernel
theorem dX8_sixteenth_56 : decode cX8_sixteenth 56 = .ok (.goto 5, 3) := by decide +kernel
theorem dX8_sixteenth_59 : decode cX8_sixteenth 59 = .ok (.bipush 87, 2) := by decide +kernel
theorem dX8_sixteenth_61 : decode cX8_sixteenth 61 = .ok (.isub, 1) := by decide +kernel
theorem dX8_sixteenth_62 : decode cX8_sixteenth 62 = .ok (.iastore, 1) := by decide +kernel
theorem dX8_sixteenth_63 : decode cX8_sixteenth 63 = .ok (.aload_n 0, 1) := by decide +kernel
theorem dX8_sixteenth_64 : decode cX8_sixteenth 64 = .ok (.dup, 1) := by decide +kernel
theorem dX8_sixteenth_65 : decode cX8_sixteenth 65 = .ok (.getfield 146, 3) := by decide +kernel
theorem dX8_sixteenth_68 : decode cX8_sixteenth 68 = .ok (.iconst 1, 1) := by decide +kernel
theorem dX8_sixteenth_69 : decode cX8_sixteenth 69 = .ok (.iadd, 1) := by decide +kernel
theorem dX8_sixteenth_70 : decode cX8_sixteenth 70 = .ok (.putfield 146, 3) := by decide +kernel
theorem dX8_sixteenth_73 : decode cX8_sixteenth 73 = .ok (.iconst 1, 1) := by decide +kernel
theorem dX8_sixteenth_74 : decode cX8_sixteenth 74 = .ok (.ireturn, 1) := by decide +kernel
set_option maxRecDepth 20000 in
theorem ggX8_colours_X8_sixteenth : GoodIn wsX8_colours wsX8_sixteenth := goodIn_r _ [6, 1, 7, 8, 9, 10, 11, 5, 12, 13, 14, 15, 16, 17, 18, 19, 20, 21, 22, 23, 24, 25, 26, 27, 28, 29, 30, 31, 32, 33, 34] (by decide +kernel) (by decide +kernel)
set_option maxRecDepth 20000 in
theorem gX8_colours_X8_sixteenth : GoodIn wsX8_colours (wsV RX8 152 RX8 yX8_sixteenth wsX8_sixteenth) := goodIn_app (goodIn_of _ (by decide +kernel)) ggX8_colours_X8_sixteenth
theorem dX8_colours_0 : decode cX8_colours 0 = .ok (.iconst 1, 1) := by decide +kernel
theorem dX8_colours_1 : decode cX8_colours 1 = .ok (.istore_n 1, 1) := by decide +kernel
theorem dX8_colours_2 : decode cX8_colours 2 = .ok (.iconst 2, 1) := by decide +kernel
theorem dX8_colours_3 : decode cX8_colours 3 = .ok (.istore_n 2, 1) := by decide +kernel
theorem dX8_colours_4 : decode cX8_colours 4 = .ok (.iload_n 2, 1) := by decide +kernel
theorem dX8_colours_5 : decode cX8_colours 5 = .ok (.iconst 5, 1) := by decide +kernel
theorem dX8_colours_6 : decode cX8_colours 6 = .ok (.if_icmp .ge 42, 3) := by decide +kernel
theorem dX8_colours_9 : decode cX8_colours 9 = .ok (.iload_n 1, 1) := by decide +kernel
theorem dX8_colours_10 : decode cX8_colours 10 = .ok (.ifCond .eq 38, 3) := by decide +kernel
theorem dX8_colours_13 : decode cX8_colours 13 = .ok (.aload_n 0, 1) := by decide +kernel
theorem dX8_colours_14 : decode cX8_colours 14 = .ok (.getfield 31, 3) := by decide +kernel
theorem dX8_colours_17 : decode cX8_colours 17 = .ok (.iload_n 2, 1) := by decide +kernel
theorem dX8_colours_18 : decode cX8_colours 18 = .ok (.iconst 0, 1) := by decide +kernel
theorem dX8_colours_19 : decode cX8_colours 19 = .ok (.iastore, 1) := by decide +kernel
theorem dX8_colours_20 : decode cX8_colours 20 = .ok (.aload_n 0, 1) := by decide +kernel
theorem dX8_colours_21 : decode cX8_colours 21 = .ok (.iload_n 2, 1) := by decide +kernel
theorem dX8_colours_22 : decode cX8_colours 22 = .ok (.invokevirtual 152, 3) := by decide +kernel
theorem dX8_colours_25 : decode cX8_colours 25 = .ok (.ifCond .eq 15, 3) := by decide +kernel
theorem dX8_colours_28 : decode cX8_colours 28 = .ok (.aload_n 0, 1) := by decide +kernel
theorem dX8_colours_29 : decode cX8_colours 29 = .ok (.iload_n 2, 1) := by decide +kernel
theorem dX8_colours_30 : decode cX8_colours 30 = .ok (.invokevirtual 152, 3) := by decide +kernel
theorem dX8_colours_33 : decode cX8_colours 33 = .ok (.ifCond .eq 7, 3) := by decide +kernel
theorem dX8_colours_36 : decode cX8_colours 36 = .ok (.iconst 1, 1) := by decide +kernel
theorem dX8_colours_37 : decode cX8_colours 37 = .ok (.goto 4, 3) := by decide +kernel
theorem dX8_colours_40 : decode cX8_colours 40 = .ok (.iconst 0, 1) := by decide +kernel
theorem dX8_colours_41 : decode cX8_colours 41 = .ok (.istore_n 1, 1) := by decide +kernel
theorem dX8_colours_42 : decode cX8_colours 42 = .ok (.iinc 2 1, 3) := by decide +kernel
theorem dX8_colours_45 : decode cX8_colours 45 = .ok (.goto (-41), 3) := by decide +kernel
theorem dX8_colours_48 : decode cX8_colours 48 = .ok (.iload_n 1, 1) := by decide +kernel
theorem dX8_colours_49 : decode cX8_colours 49 = .ok (.ireturn, 1) := by decide +kernel
set_option maxRecDepth 20000 in
theorem ggX8_reads_X8_isAt : GoodIn wsX8_reads wsX8_isAt := goodIn_r _ [8, 2, 9, 1, 10, 11, 7, 12, 30, 31, 32, 33, 34, 35, 36, 37, 38, 39, 40, 41, 42, 43, 44, 45, 46, 47] (by decide +kernel) (by decide +kernel)
set_option maxRecDepth 20000 in
theorem gX8_reads_X8_isAt : GoodIn wsX8_reads (wsV RX8 149 RX8 yX8_isAt wsX8_isAt) := goodIn_app (goodIn_of _ (by decide +kernel)) ggX8_reads_X8_isAt
set_option maxRecDepth 20000 in
theorem ggX8_reads_X8_digits : GoodIn wsX8_reads wsX8_digits := goodIn_r _ [16, 2, 17, 1, 4, 5, 6, 7, 8, 9, 10, 11, 12, 30, 31, 32, 33, 34, 35, 36, 37, 38, 39, 40, 41, 42, 43, 44, 45, 46, 47] (by decide +kernel) (by decide +kernel)
set_option maxRecDepth 20000 in
theorem gX8_reads_X8_digits : GoodIn wsX8_reads (wsV RX8 158 RX8 yX8_digits wsX8_digits) := goodIn_app (goodIn_of _ (by decide +kernel)) ggX8_reads_X8_digits
set_option maxRecDepth 20000 in
theorem ggX8_reads_X8_sign : GoodIn wsX8_reads wsX8_sign := goodIn_r _ [21, 2, 4, 5, 6, 7, 8, 9, 1, 10, 11, 12, 30, 31, 32, 33, 34, 35, 36, 37, 38, 39, 40, 41, 42, 43, 44, 45, 46, 47] (by decide +kernel) (by decide +kernel)
set_option maxRecDepth 20000 in
theorem gX8_reads_X8_sign : GoodIn wsX8_reads (wsV RX8 161 RX8 yX8_sign wsX8_sign) := goodIn_app (goodIn_of _ (by decide +kernel)) ggX8_reads_X8_sign
set_option maxRecDepth 20000 in
theorem ggX8_reads_X8_colours : GoodIn wsX8_reads wsX8_colours := goodIn_r _ [25, 17, 26, 27, 28, 7, 29, 1, 2, 4, 5, 6, 8, 9, 10, 11, 12, 30, 31, 32, 33, 34, 35, 36, 37, 38, 39, 40, 41, 42, 43, 44, 45, 46, 47] (by decide +kernel) (by decide +kernel)
set_option maxRecDepth 20000 in
theorem gX8_reads_X8_colours : GoodIn wsX8_reads (wsV RX8 164 RX8 yX8_colours wsX8_colours) := goodIn_app (goodIn_of _ (by decide +kernel)) ggX8_reads_X8_colours
theorem dX8_reads_0 : decode cX8_reads 0 = .ok (.aload_n 0, 1) := by decide +kernel
theorem dX8_reads_1 : decode cX8_reads 1 = .ok (.aload_n 0, 1) := by decide +kernel
theorem dX8_reads_2 : decode cX8_reads 2 = .ok (.bipush 33, 2) := by decide +kernel
theorem dX8_reads_4 : decode cX8_reads 4 = .ok (.bipush 126, 2) := by decide +kernel
theorem dX8_reads_6 : decode cX8_reads 6 = .ok (.invokevirtual 149, 3) := by decide +kernel
theorem dX8_reads_9 : decode cX8_reads 9 = .ok (.ifCond .eq 15, 3) := by decide +kernel
theorem dX8_reads_12 : decode cX8_reads 12 = .ok (.aload_n 0, 1) := by decide +kernel
theorem dX8_reads_13 : decode cX8_reads 13 = .ok (.getfield 22, 3) := by decide +kernel
theorem dX8_reads_16 : decode cX8_reads 16 = .ok (.aload_n 0, 1) := by decide +kernel
theorem dX8_reads_17 : decode cX8_reads 17 = .ok (.getfield 146, 3) := by decide +kernel
theorem dX8_reads_20 : decode cX8_reads 20 = .ok (.iaload, 1) := by decide +kernel
theorem dX8_reads_21 : decode cX8_reads 21 = .ok (.goto 4, 3) := by decide +kernel
theorem dX8_reads_24 : decode cX8_reads 24 = .ok (.iconst 0, 1) := by decide +kernel
theorem dX8_reads_25 : decode cX8_reads 25 = .ok (.putfield 155, 3) := by decide +kernel
theorem dX8_reads_28 : decode cX8_reads 28 = .ok (.aload_n 0, 1) := by decide +kernel
theorem dX8_reads_29 : decode cX8_reads 29 = .ok (.getfield 155, 3) := by decide +kernel
theorem dX8_reads_32 : decode cX8_reads 32 = .ok (.bipush 99, 2) := by decide +kernel
theorem dX8_reads_34 : decode cX8_reads 34 = .ok (.if_icmp .eq 23, 3) := by decide +kernel
theorem dX8_reads_37 : decode cX8_reads 37 = .ok (.aload_n 0, 1) := by decide +kernel
theorem dX8_reads_38 : decode cX8_reads 38 = .ok (.getfield 155, 3) := by decide +kernel
theorem dX8_reads_41 : decode cX8_reads 41 = .ok (.bipush 102, 2) := by decide +kernel
theorem dX8_reads_43 : decode cX8_reads 43 = .ok (.if_icmp .eq 14, 3) := by decide +kernel
theorem dX8_reads_46 : decode cX8_reads 46 = .ok (.aload_n 0, 1) := by decide +kernel
theorem dX8_reads_47 : decode cX8_reads 47 = .ok (.getfield 155, 3) := by decide +kernel
theorem dX8_reads_50 : decode cX8_reads 50 = .ok (.bipush 109, 2) := by decide +kernel
theorem dX8_reads_52 : decode cX8_reads 52 = .ok (.if_icmp .eq 5, 3) := by decide +kernel
theorem dX8_reads_55 : decode cX8_reads 55 = .ok (.iconst 0, 1) := by decide +kernel
theorem dX8_reads_56 : decode cX8_reads 56 = .ok (.ireturn, 1) := by decide +kernel
theorem dX8_reads_57 : decode cX8_reads 57 = .ok (.aload_n 0, 1) := by decide +kernel
theorem dX8_reads_58 : decode cX8_reads 58 = .ok (.dup, 1) := by decide +kernel
theorem dX8_reads_59 : decode cX8_reads 59 = .ok (.getfield 146, 3) := by decide +kernel
theorem dX8_reads_62 : decode cX8_reads 62 = .ok (.iconst 1, 1) := by decide +kernel
theorem dX8_reads_63 : decode cX8_reads 63 = .ok (.iadd, 1) := by decide +kernel
theorem dX8_reads_64 : decode cX8_reads 64 = .ok (.putfield 146, 3) := by decide +kernel
theorem dX8_reads_67 : decode cX8_reads 67 = .ok (.aload_n 0, 1) := by decide +kernel
theorem dX8_reads_68 : decode cX8_reads 68 = .ok (.iconst 0, 1) := by decide +kernel
theorem dX8_reads_69 : decode cX8_reads 69 = .ok (.iconst 1, 1) := by decide +kernel
theorem dX8_reads_70 : decode cX8_reads 70 = .ok (.invokevirtual 158, 3) := by decide +kernel
theorem dX8_reads_73 : decode cX8_reads 73 = .ok (.ifCond .eq 12, 3) := by decide +kernel
theorem dX8_reads_76 : decode cX8_reads 76 = .ok (.aload_n 0, 1) := by decide +kernel
theorem dX8_reads_77 : decode cX8_reads 77 = .ok (.iconst 1, 1) := by decide +kernel
theorem dX8_reads_78 : decode cX8_reads 78 = .ok (.iconst 1, 1) := by decide +kernel
