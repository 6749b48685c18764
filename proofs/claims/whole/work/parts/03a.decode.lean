theorem inJ9 : ∀ w ∈ wsJ90, w ∈ lw_tbl := by decide +kernel
theorem inJ10 : ∀ w ∈ wsJ100, w ∈ lw_tbl := by decide +kernel
theorem dX0_init_0 : decode cX0_init 0 = .ok (.aload_n 0, 1) := by decide +kernel
theorem dX0_init_1 : decode cX0_init 1 = .ok (.invokespecial 3, 3) := by decide +kernel
theorem dX0_init_4 : decode cX0_init 4 = .ok (.aload_n 0, 1) := by decide +kernel
theorem dX0_init_5 : decode cX0_init 5 = .ok (.iconst 4, 1) := by decide +kernel
theorem dX0_init_6 : decode cX0_init 6 = .ok (.newarray .int, 2) := by decide +kernel
theorem dX0_init_8 : decode cX0_init 8 = .ok (.putfield 9, 3) := by decide +kernel
theorem dX0_init_11 : decode cX0_init 11 = .ok (.aload_n 0, 1) := by decide +kernel
theorem dX0_init_12 : decode cX0_init 12 = .ok (.iconst 4, 1) := by decide +kernel
theorem dX0_init_13 : decode cX0_init 13 = .ok (.newarray .int, 2) := by decide +kernel
theorem dX0_init_15 : decode cX0_init 15 = .ok (.putfield 15, 3) := by decide +kernel
theorem dX0_init_18 : decode cX0_init 18 = .ok (.aload_n 0, 1) := by decide +kernel
theorem dX0_init_19 : decode cX0_init 19 = .ok (.iconst 4, 1) := by decide +kernel
theorem dX0_init_20 : decode cX0_init 20 = .ok (.newarray .int, 2) := by decide +kernel
theorem dX0_init_22 : decode cX0_init 22 = .ok (.putfield 18, 3) := by decide +kernel
theorem dX0_init_25 : decode cX0_init 25 = .ok (.return_, 1) := by decide +kernel
set_option maxRecDepth 20000 in
theorem ggX0_load_X7_cornerOfPatch : GoodIn wsX0_load wsX7_cornerOfPatch := goodIn_r _ [6, 7, 8, 5, 9] (by decide +kernel) (by decide +kernel)
set_option maxRecDepth 20000 in
theorem gX0_load_X7_cornerOfPatch_n21 : GoodIn wsX0_load (wsX7_cornerOfPatch) := ggX0_load_X7_cornerOfPatch
set_option maxRecDepth 20000 in
theorem ggX0_load_X3_partOf : GoodIn wsX0_load wsX3_partOf := goodIn_r _ [14, 15, 35, 36, 37, 38, 39] (by decide +kernel) (by decide +kernel)
set_option maxRecDepth 20000 in
theorem gX0_load_X3_partOf : GoodIn wsX0_load (wsV RX0 25 RX3 yX3_partOf wsX3_partOf) := goodIn_app (goodIn_of _ (by decide +kernel)) ggX0_load_X3_partOf
set_option maxRecDepth 20000 in
theorem ggX0_load_X3_slopeOf : GoodIn wsX0_load wsX3_slopeOf := goodIn_r _ [19, 20, 21, 5, 22, 23, 24, 25, 13, 26, 27, 11, 12, 14, 15, 28, 29, 30, 31, 35, 36, 37, 38, 39] (by decide +kernel) (by decide +kernel)
set_option maxRecDepth 20000 in
theorem gX0_load_X3_slopeOf : GoodIn wsX0_load (wsV RX0 30 RX3 yX3_slopeOf wsX3_slopeOf) := goodIn_app (goodIn_of _ (by decide +kernel)) ggX0_load_X3_slopeOf
theorem dX0_load_0 : decode cX0_load 0 = .ok (.iconst 0, 1) := by decide +kernel
theorem dX0_load_1 : decode cX0_load 1 = .ok (.istore 4, 2) := by decide +kernel
theorem dX0_load_3 : decode cX0_load 3 = .ok (.iload 4, 2) := by decide +kernel
theorem dX0_load_5 : decode cX0_load 5 = .ok (.iconst 4, 1) := by decide +kernel
theorem dX0_load_6 : decode cX0_load 6 = .ok (.if_icmp .ge 61, 3) := by decide +kernel
theorem dX0_load_9 : decode cX0_load 9 = .ok (.iload_n 2, 1) := by decide +kernel
theorem dX0_load_10 : decode cX0_load 10 = .ok (.iload 4, 2) := by decide +kernel
theorem dX0_load_12 : decode cX0_load 12 = .ok (.invokestatic 21, 3) := by decide +kernel
theorem dX0_load_15 : decode cX0_load 15 = .ok (.istore 5, 2) := by decide +kernel
theorem dX0_load_17 : decode cX0_load 17 = .ok (.aload_n 0, 1) := by decide +kernel
theorem dX0_load_18 : decode cX0_load 18 = .ok (.getfield 9, 3) := by decide +kernel
theorem dX0_load_21 : decode cX0_load 21 = .ok (.iload 4, 2) := by decide +kernel
theorem dX0_load_23 : decode cX0_load 23 = .ok (.aload_n 1, 1) := by decide +kernel
theorem dX0_load_24 : decode cX0_load 24 = .ok (.iload 5, 2) := by decide +kernel
theorem dX0_load_26 : decode cX0_load 26 = .ok (.iload_n 3, 1) := by decide +kernel
theorem dX0_load_27 : decode cX0_load 27 = .ok (.invokevirtual 25, 3) := by decide +kernel
theorem dX0_load_30 : decode cX0_load 30 = .ok (.iastore, 1) := by decide +kernel
theorem dX0_load_31 : decode cX0_load 31 = .ok (.aload_n 0, 1) := by decide +kernel
theorem dX0_load_32 : decode cX0_load 32 = .ok (.getfield 15, 3) := by decide +kernel
theorem dX0_load_35 : decode cX0_load 35 = .ok (.iload 4, 2) := by decide +kernel
theorem dX0_load_37 : decode cX0_load 37 = .ok (.aload_n 1, 1) := by decide +kernel
theorem dX0_load_38 : decode cX0_load 38 = .ok (.iload 5, 2) := by decide +kernel
theorem dX0_load_40 : decode cX0_load 40 = .ok (.iconst 0, 1) := by decide +kernel
theorem dX0_load_41 : decode cX0_load 41 = .ok (.iload_n 3, 1) := by decide +kernel
theorem dX0_load_42 : decode cX0_load 42 = .ok (.invokevirtual 30, 3) := by decide +kernel
theorem dX0_load_45 : decode cX0_load 45 = .ok (.iastore, 1) := by decide +kernel
theorem dX0_load_46 : decode cX0_load 46 = .ok (.aload_n 0, 1) := by decide +kernel
theorem dX0_load_47 : decode cX0_load 47 = .ok (.getfield 18, 3) := by decide +kernel
theorem dX0_load_50 : decode cX0_load 50 = .ok (.iload 4, 2) := by decide +kernel
theorem dX0_load_52 : decode cX0_load 52 = .ok (.aload_n 1, 1) := by decide +kernel
theorem dX0_load_53 : decode cX0_load 53 = .ok (.iload 5, 2) := by decide +kernel
theorem dX0_load_55 : decode cX0_load 55 = .ok (.iconst 1, 1) := by decide +kernel
theorem dX0_load_56 : decode cX0_load 56 = .ok (.iload_n 3, 1) := by decide +kernel
theorem dX0_load_57 : decode cX0_load 57 = .ok (.invokevirtual 30, 3) := by decide +kernel
theorem dX0_load_60 : decode cX0_load 60 = .ok (.iastore, 1) := by decide +kernel
theorem dX0_load_61 : decode cX0_load 61 = .ok (.iinc 4 1, 3) := by decide +kernel
theorem dX0_load_64 : decode cX0_load 64 = .ok (.goto (-61), 3) := by decide +kernel
theorem dX0_load_67 : decode cX0_load 67 = .ok (.return_, 1) := by decide +kernel
set_option maxRecDepth 20000 in
theorem ggX0_partAt_X0_partWeight : GoodIn wsX0_partAt wsX0_partWeight := goodIn_r _ [15] (by decide +kernel) (by decide +kernel)
set_option maxRecDepth 20000 in
theorem gX0_partAt_X0_partWeight : GoodIn wsX0_partAt (va_wsS RX0 34 yX0_partWeight wsX0_partWeight) := goodIn_app (goodIn_of _ (by decide +kernel)) ggX0_partAt_X0_partWeight
set_option maxRecDepth 20000 in
theorem ggX0_partAt_X0_slopeWeight : GoodIn wsX0_partAt wsX0_slopeWeight := goodIn_r _ [18] (by decide +kernel) (by decide +kernel)
set_option maxRecDepth 20000 in
theorem gX0_partAt_X0_slopeWeight : GoodIn wsX0_partAt (va_wsS RX0 37 yX0_slopeWeight wsX0_slopeWeight) := goodIn_app (goodIn_of _ (by decide +kernel)) ggX0_partAt_X0_slopeWeight
set_option maxRecDepth 20000 in
theorem ggX0_partAt_J9_floorDiv_7cf53 : GoodIn wsX0_partAt wsJ9_floorDiv_7cf53 := goodIn_r _ [22] (by decide +kernel) (by decide +kernel)
set_option maxRecDepth 20000 in
theorem gX0_partAt_J9_floorDiv_7cf53 : GoodIn wsX0_partAt (va_wsS RX0 41 yJ9_floorDiv_7cf53 wsJ9_floorDiv_7cf53) := goodIn_app (goodIn_of _ (by decide +kernel)) ggX0_partAt_J9_floorDiv_7cf53
theorem dX0_partAt_0 : decode cX0_partAt 0 = .ok (.iconst 0, 1) := by decide +kernel
theorem dX0_partAt_1 : decode cX0_partAt 1 = .ok (.istore_n 3, 1) := by decide +kernel
theorem dX0_partAt_2 : decode cX0_partAt 2 = .ok (.iconst 0, 1) := by decide +kernel
theorem dX0_partAt_3 : decode cX0_partAt 3 = .ok (.istore 4, 2) := by decide +kernel
theorem dX0_partAt_5 : decode cX0_partAt 5 = .ok (.iload 4, 2) := by decide +kernel
theorem dX0_partAt_7 : decode cX0_partAt 7 = .ok (.iconst 4, 1) := by decide +kernel
theorem dX0_partAt_8 : decode cX0_partAt 8 = .ok (.if_icmp .ge 93, 3) := by decide +kernel
theorem dX0_partAt_11 : decode cX0_partAt 11 = .ok (.iload_n 1, 1) := by decide +kernel
theorem dX0_partAt_12 : decode cX0_partAt 12 = .ok (.iload 4, 2) := by decide +kernel
theorem dX0_partAt_14 : decode cX0_partAt 14 = .ok (.iconst 2, 1) := by decide +kernel
theorem dX0_partAt_15 : decode cX0_partAt 15 = .ok (.irem, 1) := by decide +kernel
theorem dX0_partAt_16 : decode cX0_partAt 16 = .ok (.invokestatic 34, 3) := by decide +kernel
theorem dX0_partAt_19 : decode cX0_partAt 19 = .ok (.istore 5, 2) := by decide +kernel
theorem dX0_partAt_21 : decode cX0_partAt 21 = .ok (.iload_n 2, 1) := by decide +kernel
theorem dX0_partAt_22 : decode cX0_partAt 22 = .ok (.iload 4, 2) := by decide +kernel
theorem dX0_partAt_24 : decode cX0_partAt 24 = .ok (.iconst 2, 1) := by decide +kernel
theorem dX0_partAt_25 : decode cX0_partAt 25 = .ok (.idiv, 1) := by decide +kernel
theorem dX0_partAt_26 : decode cX0_partAt 26 = .ok (.invokestatic 34, 3) := by decide +kernel
theorem dX0_partAt_29 : decode cX0_partAt 29 = .ok (.istore 6, 2) := by decide +kernel
theorem dX0_partAt_31 : decode cX0_partAt 31 = .ok (.iload_n 1, 1) := by decide +kernel
theorem dX0_partAt_32 : decode cX0_partAt 32 = .ok (.iload 4, 2) := by decide +kernel
theorem dX0_partAt_34 : decode cX0_partAt 34 = .ok (.iconst 2, 1) := by decide +kernel
theorem dX0_partAt_35 : decode cX0_partAt 35 = .ok (.irem, 1) := by decide +kernel
theorem dX0_partAt_36 : decode cX0_partAt 36 = .ok (.invokestatic 37, 3) := by decide +kernel
theorem dX0_partAt_39 : decode cX0_partAt 39 = .ok (.istore 7, 2) := by decide +kernel
theorem dX0_partAt_41 : decode cX0_partAt 41 = .ok (.iload_n 2, 1) := by decide +kernel
theorem dX0_partAt_42 : decode cX0_partAt 42 = .ok (.iload 4, 2) := by decide +kernel
theorem dX0_partAt_44 : decode cX0_partAt 44 = .ok (.iconst 2, 1) := by decide +kernel
theorem dX0_partAt_45 : decode cX0_partAt 45 = .ok (.idiv, 1) := by decide +kernel
theorem dX0_partAt_46 : decode cX0_partAt 46 = .ok (.invokestatic 37, 3) := by decide +kernel
theorem dX0_partAt_49 : decode cX0_partAt 49 = .ok (.istore 8, 2) := by decide +kernel
theorem dX0_partAt_51 : decode cX0_partAt 51 = .ok (.iload_n 3, 1) := by decide +kernel
theorem dX0_partAt_52 : decode cX0_partAt 52 = .ok (.aload_n 0, 1) := by decide +kernel
theorem dX0_partAt_53 : decode cX0_partAt 53 = .ok (.getfield 9, 3) := by decide +kernel
theorem dX0_partAt_56 : decode cX0_partAt 56 = .ok (.iload 4, 2) := by decide +kernel
theorem dX0_partAt_58 : decode cX0_partAt 58 = .ok (.iaload, 1) := by decide +kernel
theorem dX0_partAt_59 : decode cX0_partAt 59 = .ok (.iload 5, 2) := by decide +kernel
theorem dX0_partAt_61 : decode cX0_partAt 61 = .ok (.imul, 1) := by decide +kernel
theorem dX0_partAt_62 : decode cX0_partAt 62 = .ok (.iload 6, 2) := by decide +kernel
theorem dX0_partAt_64 : decode cX0_partAt 64 = .ok (.imul, 1) := by decide +kernel
theorem dX0_partAt_65 : decode cX0_partAt 65 = .ok (.aload_n 0, 1) := by decide +kernel
theorem dX0_partAt_66 : decode cX0_partAt 66 = .ok (.getfield 15, 3) := by decide +kernel
theorem dX0_partAt_69 : decode cX0_partAt 69 = .ok (.iload 4, 2) := by decide +kernel
theorem dX0_partAt_71 : decode cX0_partAt 71 = .ok (.iaload, 1) := by decide +kernel
theorem dX0_partAt_72 : decode cX0_partAt 72 = .ok (.iload 7, 2) := by decide +kernel
theorem dX0_partAt_74 : decode cX0_partAt 74 = .ok (.imul, 1) := by decide +kernel
theorem dX0_partAt_75 : decode cX0_partAt 75 = .ok (.iload 6, 2) := by decide +kernel
theorem dX0_partAt_77 : decode cX0_partAt 77 = .ok (.imul, 1) := by decide +kernel
theorem dX0_partAt_78 : decode cX0_partAt 78 = .ok (.iadd, 1) := by decide +kernel
theorem dX0_partAt_79 : decode cX0_partAt 79 = .ok (.aload_n 0, 1) := by decide +kernel
theorem dX0_partAt_80 : decode cX0_partAt 80 = .ok (.getfield 18, 3) := by decide +kernel
theorem dX0_partAt_83 : decode cX0_partAt 83 = .ok (.iload 4, 2) := by decide +kernel
theorem dX0_partAt_85 : decode cX0_partAt 85 = .ok (.iaload, 1) := by decide +kernel
theorem dX0_partAt_86 : decode cX0_partAt 86 = .ok (.iload 5, 2) := by decide +kernel
theorem dX0_partAt_88 : decode cX0_partAt 88 = .ok (.imul, 1) := by decide +kernel
theorem dX0_partAt_89 : decode cX0_partAt 89 = .ok (.iload 8, 2) := by decide +kernel
theorem dX0_partAt_91 : decode cX0_partAt 91 = .ok (.imul, 1) := by decide +kernel
theorem dX0_partAt_92 : decode cX0_partAt 92 = .ok (.iadd, 1) := by decide +kernel
theorem dX0_partAt_93 : decode cX0_partAt 93 = .ok (.iadd, 1) := by decide +kernel
theorem dX0_partAt_94 : decode cX0_partAt 94 = .ok (.istore_n 3, 1) := by decide +kernel
theorem dX0_partAt_95 : decode cX0_partAt 95 = .ok (.iinc 4 1, 3) := by decide +kernel
theorem dX0_partAt_98 : decode cX0_partAt 98 = .ok (.goto (-93), 3) := by decide +kernel
theorem dX0_partAt_101 : decode cX0_partAt 101 = .ok (.iconst 0, 1) := by decide +kernel
theorem dX0_partAt_102 : decode cX0_partAt 102 = .ok (.sipush 255, 3) := by decide +kernel
theorem dX0_partAt_105 : decode cX0_partAt 105 = .ok (.iload_n 3, 1) := by decide +kernel
theorem dX0_partAt_106 : decode cX0_partAt 106 = .ok (.ldc 40, 2) := by decide +kernel
theorem dX0_partAt_108 : decode cX0_partAt 108 = .ok (.invokestatic 41, 3) := by decide +kernel
theorem dX0_partAt_111 : decode cX0_partAt 111 = .ok (.invokestatic 46, 3) := by decide +kernel
theorem dX0_partAt_114 : decode cX0_partAt 114 = .ok (.invokestatic 49, 3) := by decide +kernel
theorem dX0_partAt_117 : decode cX0_partAt 117 = .ok (.ireturn, 1) := by decide +kernel
set_option maxRecDepth 20000 in
theorem ggX0_partInside_X0_partAt : GoodIn wsX0_partInside wsX0_partAt := goodIn_r _ [5, 6, 7, 8, 9, 10, 11, 12, 13, 14, 15, 16, 17, 18, 4, 19, 20, 21, 22, 23, 24, 25, 26, 27, 28, 29] (by decide +kernel) (by decide +kernel)
set_option maxRecDepth 20000 in
theorem gX0_partInside_X0_partAt : GoodIn wsX0_partInside (wsV RX0 52 RX0 yX0_partAt wsX0_partAt) := goodIn_app (goodIn_of _ (by decide +kernel)) ggX0_partInside_X0_partAt
theorem dX0_partInside_0 : decode cX0_partInside 0 = .ok (.iload_n 1, 1) := by decide +kernel
theorem dX0_partInside_1 : decode cX0_partInside 1 = .ok (.ifCond .ne 12, 3) := by decide +kernel
theorem dX0_partInside_4 : decode cX0_partInside 4 = .ok (.aload_n 0, 1) := by decide +kernel
theorem dX0_partInside_5 : decode cX0_partInside 5 = .ok (.iload_n 2, 1) := by decide +kernel
theorem dX0_partInside_6 : decode cX0_partInside 6 = .ok (.iload_n 3, 1) := by decide +kernel
theorem dX0_partInside_7 : decode cX0_partInside 7 = .ok (.invokevirtual 52, 3) := by decide +kernel
theorem dX0_partInside_10 : decode cX0_partInside 10 = .ok (.goto 9, 3) := by decide +kernel
theorem dX0_partInside_13 : decode cX0_partInside 13 = .ok (.aload_n 0, 1) := by decide +kernel
theorem dX0_partInside_14 : decode cX0_partInside 14 = .ok (.iload_n 3, 1) := by decide +kernel
theorem dX0_partInside_15 : decode cX0_partInside 15 = .ok (.iload_n 2, 1) := by decide +kernel
theorem dX0_partInside_16 : decode cX0_partInside 16 = .ok (.invokevirtual 52, 3) := by decide +kernel
theorem dX0_partInside_19 : decode cX0_partInside 19 = .ok (.ireturn, 1) := by decide +kernel
theorem dX0_partWeight_0 : decode cX0_partWeight 0 = .ok (.iload_n 1, 1) := by decide +kernel
theorem dX0_partWeight_1 : decode cX0_partWeight 1 = .ok (.ifCond .ne 24, 3) := by decide +kernel
theorem dX0_partWeight_4 : decode cX0_partWeight 4 = .ok (.iconst 2, 1) := by decide +kernel
theorem dX0_partWeight_5 : decode cX0_partWeight 5 = .ok (.iload_n 0, 1) := by decide +kernel
theorem dX0_partWeight_6 : decode cX0_partWeight 6 = .ok (.imul, 1) := by decide +kernel
theorem dX0_partWeight_7 : decode cX0_partWeight 7 = .ok (.iload_n 0, 1) := by decide +kernel
theorem dX0_partWeight_8 : decode cX0_partWeight 8 = .ok (.imul, 1) := by decide +kernel
theorem dX0_partWeight_9 : decode cX0_partWeight 9 = .ok (.iload_n 0, 1) := by decide +kernel
theorem dX0_partWeight_10 : decode cX0_partWeight 10 = .ok (.imul, 1) := by decide +kernel
theorem dX0_partWeight_11 : decode cX0_partWeight 11 = .ok (.bipush 24, 2) := by decide +kernel
theorem dX0_partWeight_13 : decode cX0_partWeight 13 = .ok (.iload_n 0, 1) := by decide +kernel
theorem dX0_partWeight_14 : decode cX0_partWeight 14 = .ok (.imul, 1) := by decide +kernel
theorem dX0_partWeight_15 : decode cX0_partWeight 15 = .ok (.iload_n 0, 1) := by decide +kernel
theorem dX0_partWeight_16 : decode cX0_partWeight 16 = .ok (.imul, 1) := by decide +kernel
theorem dX0_partWeight_17 : decode cX0_partWeight 17 = .ok (.isub, 1) := by decide +kernel
theorem dX0_partWeight_18 : decode cX0_partWeight 18 = .ok (.sipush 512, 3) := by decide +kernel
theorem dX0_partWeight_21 : decode cX0_partWeight 21 = .ok (.iadd, 1) := by decide +kernel
theorem dX0_partWeight_22 : decode cX0_partWeight 22 = .ok (.goto 17, 3) := by decide +kernel
theorem dX0_partWeight_25 : decode cX0_partWeight 25 = .ok (.bipush 24, 2) := by decide +kernel
theorem dX0_partWeight_27 : decode cX0_partWeight 27 = .ok (.iload_n 0, 1) := by decide +kernel
theorem dX0_partWeight_28 : decode cX0_partWeight 28 = .ok (.imul, 1) := by decide +kernel
theorem dX0_partWeight_29 : decode cX0_partWeight 29 = .ok (.iload_n 0, 1) := by decide +kernel
theorem dX0_partWeight_30 : decode cX0_partWeight 30 = .ok (.imul, 1) := by decide +kernel
theorem dX0_partWeight_31 : decode cX0_partWeight 31 = .ok (.iconst 2, 1) := by decide +kernel
theorem dX0_partWeight_32 : decode cX0_partWeight 32 = .ok (.iload_n 0, 1) := by decide +kernel
theorem dX0_partWeight_33 : decode cX0_partWeight 33 = .ok (.imul, 1) := by decide +kernel
theorem dX0_partWeight_34 : decode cX0_partWeight 34 = .ok (.iload_n 0, 1) := by decide +kernel
theorem dX0_partWeight_35 : decode cX0_partWeight 35 = .ok (.imul, 1) := by decide +kernel
theorem dX0_partWeight_36 : decode cX0_partWeight 36 = .ok (.iload_n 0, 1) := by decide +kernel
theorem dX0_partWeight_37 : decode cX0_partWeight 37 = .ok (.imul, 1) := by decide +kernel
theorem dX0_partWeight_38 : decode cX0_partWeight 38 = .ok (.isub, 1) := by decide +kernel
theorem dX0_partWeight_39 : decode cX0_partWeight 39 = .ok (.ireturn, 1) := by decide +kernel
theorem dX0_slopeWeight_0 : decode cX0_slopeWeight 0 = .ok (.iload_n 1, 1) := by decide +kernel
theorem dX0_slopeWeight_1 : decode cX0_slopeWeight 1 = .ok (.ifCond .ne 23, 3) := by decide +kernel
theorem dX0_slopeWeight_4 : decode cX0_slopeWeight 4 = .ok (.iload_n 0, 1) := by decide +kernel
theorem dX0_slopeWeight_5 : decode cX0_slopeWeight 5 = .ok (.iload_n 0, 1) := by decide +kernel
theorem dX0_slopeWeight_6 : decode cX0_slopeWeight 6 = .ok (.imul, 1) := by decide +kernel
theorem dX0_slopeWeight_7 : decode cX0_slopeWeight 7 = .ok (.iload_n 0, 1) := by decide +kernel
theorem dX0_slopeWeight_8 : decode cX0_slopeWeight 8 = .ok (.imul, 1) := by decide +kernel
theorem dX0_slopeWeight_9 : decode cX0_slopeWeight 9 = .ok (.bipush 16, 2) := by decide +kernel
theorem dX0_slopeWeight_11 : decode cX0_slopeWeight 11 = .ok (.iload_n 0, 1) := by decide +kernel
theorem dX0_slopeWeight_12 : decode cX0_slopeWeight 12 = .ok (.imul, 1) := by decide +kernel
theorem dX0_slopeWeight_13 : decode cX0_slopeWeight 13 = .ok (.iload_n 0, 1) := by decide +kernel
theorem dX0_slopeWeight_14 : decode cX0_slopeWeight 14 = .ok (.imul, 1) := by decide +kernel
theorem dX0_slopeWeight_15 : decode cX0_slopeWeight 15 = .ok (.isub, 1) := by decide +kernel
theorem dX0_slopeWeight_16 : decode cX0_slopeWeight 16 = .ok (.bipush 64, 2) := by decide +kernel
theorem dX0_slopeWeight_18 : decode cX0_slopeWeight 18 = .ok (.iload_n 0, 1) := by decide +kernel
theorem dX0_slopeWeight_19 : decode cX0_slopeWeight 19 = .ok (.imul, 1) := by decide +kernel
theorem dX0_slopeWeight_20 : decode cX0_slopeWeight 20 = .ok (.iadd, 1) := by decide +kernel
theorem dX0_slopeWeight_21 : decode cX0_slopeWeight 21 = .ok (.goto 15, 3) := by decide +kernel
theorem dX0_slopeWeight_24 : decode cX0_slopeWeight 24 = .ok (.iload_n 0, 1) := by decide +kernel
theorem dX0_slopeWeight_25 : decode cX0_slopeWeight 25 = .ok (.iload_n 0, 1) := by decide +kernel
theorem dX0_slopeWeight_26 : decode cX0_slopeWeight 26 = .ok (.imul, 1) := by decide +kernel
theorem dX0_slopeWeight_27 : decode cX0_slopeWeight 27 = .ok (.iload_n 0, 1) := by decide +kernel
theorem dX0_slopeWeight_28 : decode cX0_slopeWeight 28 = .ok (.imul, 1) := by decide +kernel
theorem dX0_slopeWeight_29 : decode cX0_slopeWeight 29 = .ok (.bipush 8, 2) := by decide +kernel
theorem dX0_slopeWeight_31 : decode cX0_slopeWeight 31 = .ok (.iload_n 0, 1) := by decide +kernel
theorem dX0_slopeWeight_32 : decode cX0_slopeWeight 32 = .ok (.imul, 1) := by decide +kernel
theorem dX0_slopeWeight_33 : decode cX0_slopeWeight 33 = .ok (.iload_n 0, 1) := by decide +kernel
theorem dX0_slopeWeight_34 : decode cX0_slopeWeight 34 = .ok (.imul, 1) := by decide +kernel
theorem dX0_slopeWeight_35 : decode cX0_slopeWeight 35 = .ok (.isub, 1) := by decide +kernel
theorem dX0_slopeWeight_36 : decode cX0_slopeWeight 36 = .ok (.ireturn, 1) := by decide +kernel
theorem dX1_init_0 : decode cX1_init 0 = .ok (.aload_n 0, 1) := by decide +kernel
theorem dX1_init_1 : decode cX1_init 1 = .ok (.invokespecial 3, 3) := by decide +kernel
theorem dX1_init_4 : decode cX1_init 4 = .ok (.return_, 1) := by decide +kernel
set_option maxRecDepth 20000 in
theorem ggX1_readFrom_X6_signAt : GoodIn wsX1_readFrom wsX6_signAt := goodIn_r _ [9, 10, 11, 49, 50] (by decide +kernel) (by decide +kernel)
set_option maxRecDepth 20000 in
theorem gX1_readFrom_X6_signAt : GoodIn wsX1_readFrom (wsV RX1 9 RX6 yX6_signAt wsX6_signAt) := goodIn_app (goodIn_of _ (by decide +kernel)) ggX1_readFrom_X6_signAt
set_option maxRecDepth 20000 in
theorem ggX1_readFrom_X1_digitOf : GoodIn wsX1_readFrom wsX1_digitOf := goodIn_r _ [15] (by decide +kernel) (by decide +kernel)
set_option maxRecDepth 20000 in
theorem gX1_readFrom_X1_digitOf : GoodIn wsX1_readFrom (va_wsS RX1 21 yX1_digitOf wsX1_digitOf) := goodIn_app (goodIn_of _ (by decide +kernel)) ggX1_readFrom_X1_digitOf
set_option maxRecDepth 20000 in
theorem ggX1_readFrom_X1_takeSign : GoodIn wsX1_readFrom wsX1_takeSign := goodIn_r _ [19, 4, 5, 6, 7, 8, 9, 10, 11, 42, 43, 44, 45, 46, 47, 48, 49, 50] (by decide +kernel) (by decide +kernel)
set_option maxRecDepth 20000 in
theorem gX1_readFrom_X1_takeSign : GoodIn wsX1_readFrom (wsV RX1 35 RX1 yX1_takeSign wsX1_takeSign) := goodIn_app (goodIn_of _ (by decide +kernel)) ggX1_readFrom_X1_takeSign
set_option maxRecDepth 20000 in
theorem ggX1_readFrom_X1_takeColour : GoodIn wsX1_readFrom wsX1_takeColour := goodIn_r _ [23, 24, 25, 26, 27, 28, 29, 14, 30, 4, 5, 6, 7, 8, 9, 10, 11, 31, 32, 33, 12, 13, 15, 42, 43, 44, 45, 46, 47, 48, 49, 50] (by decide +kernel) (by decide +kernel)
set_option maxRecDepth 20000 in
theorem gX1_readFrom_X1_takeColour : GoodIn wsX1_readFrom (wsV RX1 39 RX1 yX1_takeColour wsX1_takeColour) := goodIn_app (goodIn_of _ (by decide +kernel)) ggX1_readFrom_X1_takeColour
set_option maxRecDepth 20000 in
theorem ggX1_readFrom_X1_takePlace : GoodIn wsX1_readFrom wsX1_takePlace := goodIn_r _ [37, 24, 25, 38, 39, 40, 14, 41, 4, 5, 6, 7, 8, 9, 10, 11, 12, 13, 15, 16, 17, 18, 19, 42, 43, 44, 45, 46, 47, 48, 49, 50] (by decide +kernel) (by decide +kernel)
set_option maxRecDepth 20000 in
theorem gX1_readFrom_X1_takePlace : GoodIn wsX1_readFrom (wsV RX1 43 RX1 yX1_takePlace wsX1_takePlace) := goodIn_app (goodIn_of _ (by decide +kernel)) ggX1_readFrom_X1_takePlace
theorem dX1_readFrom_0 : decode cX1_readFrom 0 = .ok (.aload_n 0, 1) := by decide +kernel
theorem dX1_readFrom_1 : decode cX1_readFrom 1 = .ok (.aload_n 1, 1) := by decide +kernel
theorem dX1_readFrom_2 : decode cX1_readFrom 2 = .ok (.iload_n 2, 1) := by decide +kernel
theorem dX1_readFrom_3 : decode cX1_readFrom 3 = .ok (.invokevirtual 9, 3) := by decide +kernel
theorem dX1_readFrom_6 : decode cX1_readFrom 6 = .ok (.putfield 15, 3) := by decide +kernel
theorem dX1_readFrom_9 : decode cX1_readFrom 9 = .ok (.aload_n 0, 1) := by decide +kernel
theorem dX1_readFrom_10 : decode cX1_readFrom 10 = .ok (.aload_n 1, 1) := by decide +kernel
theorem dX1_readFrom_11 : decode cX1_readFrom 11 = .ok (.iload_n 2, 1) := by decide +kernel
theorem dX1_readFrom_12 : decode cX1_readFrom 12 = .ok (.iconst 1, 1) := by decide +kernel
theorem dX1_readFrom_13 : decode cX1_readFrom 13 = .ok (.iadd, 1) := by decide +kernel
theorem dX1_readFrom_14 : decode cX1_readFrom 14 = .ok (.invokevirtual 9, 3) := by decide +kernel
theorem dX1_readFrom_17 : decode cX1_readFrom 17 = .ok (.invokestatic 21, 3) := by decide +kernel
theorem dX1_readFrom_20 : decode cX1_readFrom 20 = .ok (.putfield 25, 3) := by decide +kernel
theorem dX1_readFrom_23 : decode cX1_readFrom 23 = .ok (.aload_n 0, 1) := by decide +kernel
theorem dX1_readFrom_24 : decode cX1_readFrom 24 = .ok (.aload_n 1, 1) := by decide +kernel
theorem dX1_readFrom_25 : decode cX1_readFrom 25 = .ok (.iload_n 2, 1) := by decide +kernel
theorem dX1_readFrom_26 : decode cX1_readFrom 26 = .ok (.iconst 2, 1) := by decide +kernel
theorem dX1_readFrom_27 : decode cX1_readFrom 27 = .ok (.iadd, 1) := by decide +kernel
theorem dX1_readFrom_28 : decode cX1_readFrom 28 = .ok (.invokevirtual 9, 3) := by decide +kernel
theorem dX1_readFrom_31 : decode cX1_readFrom 31 = .ok (.invokestatic 21, 3) := by decide +kernel
theorem dX1_readFrom_34 : decode cX1_readFrom 34 = .ok (.putfield 29, 3) := by decide +kernel
theorem dX1_readFrom_37 : decode cX1_readFrom 37 = .ok (.aload_n 0, 1) := by decide +kernel
theorem dX1_readFrom_38 : decode cX1_readFrom 38 = .ok (.iload_n 2, 1) := by decide +kernel
theorem dX1_readFrom_39 : decode cX1_readFrom 39 = .ok (.iconst 3, 1) := by decide +kernel
theorem dX1_readFrom_40 : decode cX1_readFrom 40 = .ok (.iadd, 1) := by decide +kernel
theorem dX1_readFrom_41 : decode cX1_readFrom 41 = .ok (.putfield 32, 3) := by decide +kernel
theorem dX1_readFrom_44 : decode cX1_readFrom 44 = .ok (.aload_n 0, 1) := by decide +kernel
theorem dX1_readFrom_45 : decode cX1_readFrom 45 = .ok (.getfield 25, 3) := by decide +kernel
theorem dX1_readFrom_48 : decode cX1_readFrom 48 = .ok (.ifCond .lt 10, 3) := by decide +kernel
theorem dX1_readFrom_51 : decode cX1_readFrom 51 = .ok (.aload_n 0, 1) := by decide +kernel
theorem dX1_readFrom_52 : decode cX1_readFrom 52 = .ok (.getfield 29, 3) := by decide +kernel
theorem dX1_readFrom_55 : decode cX1_readFrom 55 = .ok (.ifCond .ge 5, 3) := by decide +kernel
theorem dX1_readFrom_58 : decode cX1_readFrom 58 = .ok (.iconst 0, 1) := by decide +kernel
theorem dX1_readFrom_59 : decode cX1_readFrom 59 = .ok (.ireturn, 1) := by decide +kernel
theorem dX1_readFrom_60 : decode cX1_readFrom 60 = .ok (.aload_n 0, 1) := by decide +kernel
theorem dX1_readFrom_61 : decode cX1_readFrom 61 = .ok (.getfield 15, 3) := by decide +kernel
theorem dX1_readFrom_64 : decode cX1_readFrom 64 = .ok (.bipush 102, 2) := by decide +kernel
theorem dX1_readFrom_66 : decode cX1_readFrom 66 = .ok (.if_icmp .ne 7, 3) := by decide +kernel
theorem dX1_readFrom_69 : decode cX1_readFrom 69 = .ok (.iconst 1, 1) := by decide +kernel
theorem dX1_readFrom_70 : decode cX1_readFrom 70 = .ok (.goto 4, 3) := by decide +kernel
theorem dX1_readFrom_73 : decode cX1_readFrom 73 = .ok (.iconst 0, 1) := by decide +kernel
theorem dX1_readFrom_74 : decode cX1_readFrom 74 = .ok (.istore_n 3, 1) := by decide +kernel
theorem dX1_readFrom_75 : decode cX1_readFrom 75 = .ok (.aload_n 0, 1) := by decide +kernel
theorem dX1_readFrom_76 : decode cX1_readFrom 76 = .ok (.getfield 15, 3) := by decide +kernel
theorem dX1_readFrom_79 : decode cX1_readFrom 79 = .ok (.bipush 99, 2) := by decide +kernel
theorem dX1_readFrom_81 : decode cX1_readFrom 81 = .ok (.if_icmp .ne 30, 3) := by decide +kernel
theorem dX1_readFrom_84 : decode cX1_readFrom 84 = .ok (.aload_n 0, 1) := by decide +kernel
theorem dX1_readFrom_85 : decode cX1_readFrom 85 = .ok (.aload_n 1, 1) := by decide +kernel
theorem dX1_readFrom_86 : decode cX1_readFrom 86 = .ok (.bipush 58, 2) := by decide +kernel
theorem dX1_readFrom_88 : decode cX1_readFrom 88 = .ok (.invokevirtual 35, 3) := by decide +kernel
theorem dX1_readFrom_91 : decode cX1_readFrom 91 = .ok (.ifCond .eq 15, 3) := by decide +kernel
theorem dX1_readFrom_94 : decode cX1_readFrom 94 = .ok (.aload_n 0, 1) := by decide +kernel
theorem dX1_readFrom_95 : decode cX1_readFrom 95 = .ok (.aload_n 1, 1) := by decide +kernel
theorem dX1_readFrom_96 : decode cX1_readFrom 96 = .ok (.invokevirtual 39, 3) := by decide +kernel
theorem dX1_readFrom_99 : decode cX1_readFrom 99 = .ok (.ifCond .eq 7, 3) := by decide +kernel
theorem dX1_readFrom_102 : decode cX1_readFrom 102 = .ok (.iconst 1, 1) := by decide +kernel
theorem dX1_readFrom_103 : decode cX1_readFrom 103 = .ok (.goto 4, 3) := by decide +kernel
theorem dX1_readFrom_106 : decode cX1_readFrom 106 = .ok (.iconst 0, 1) := by decide +kernel
theorem dX1_readFrom_107 : decode cX1_readFrom 107 = .ok (.istore_n 3, 1) := by decide +kernel
theorem dX1_readFrom_108 : decode cX1_readFrom 108 = .ok (.goto 36, 3) := by decide +kernel
theorem dX1_readFrom_111 : decode cX1_readFrom 111 = .ok (.aload_n 0, 1) := by decide +kernel
theorem dX1_readFrom_112 : decode cX1_readFrom 112 = .ok (.getfield 15, 3) := by decide +kernel
theorem dX1_readFrom_115 : decode cX1_readFrom 115 = .ok (.bipush 109, 2) := by decide +kernel
theorem dX1_readFrom_117 : decode cX1_readFrom 117 = .ok (.if_icmp .ne 27, 3) := by decide +kernel
theorem dX1_readFrom_120 : decode cX1_readFrom 120 = .ok (.aload_n 0, 1) := by decide +kernel
theorem dX1_readFrom_121 : decode cX1_readFrom 121 = .ok (.aload_n 1, 1) := by decide +kernel
theorem dX1_readFrom_122 : decode cX1_readFrom 122 = .ok (.bipush 58, 2) := by decide +kernel
theorem dX1_readFrom_124 : decode cX1_readFrom 124 = .ok (.invokevirtual 35, 3) := by decide +kernel
theorem dX1_readFrom_127 : decode cX1_readFrom 127 = .ok (.ifCond .eq 15, 3) := by decide +kernel
theorem dX1_readFrom_130 : decode cX1_readFrom 130 = .ok (.aload_n 0, 1) := by decide +kernel
theorem dX1_readFrom_131 : decode cX1_readFrom 131 = .ok (.aload_n 1, 1) := by decide +kernel
theorem dX1_readFrom_132 : decode cX1_readFrom 132 = .ok (.invokevirtual 43, 3) := by decide +kernel
theorem dX1_readFrom_135 : decode cX1_readFrom 135 = .ok (.ifCond .eq 7, 3) := by decide +kernel
theorem dX1_readFrom_138 : decode cX1_readFrom 138 = .ok (.iconst 1, 1) := by decide +kernel
theorem dX1_readFrom_139 : decode cX1_readFrom 139 = .ok (.goto 4, 3) := by decide +kernel
theorem dX1_readFrom_142 : decode cX1_readFrom 142 = .ok (.iconst 0, 1) := by decide +kernel
theorem dX1_readFrom_143 : decode cX1_readFrom 143 = .ok (.istore_n 3, 1) := by decide +kernel
theorem dX1_readFrom_144 : decode cX1_readFrom 144 = .ok (.iload_n 3, 1) := by decide +kernel
theorem dX1_readFrom_145 : decode cX1_readFrom 145 = .ok (.ifCond .eq 17, 3) := by decide +kernel
theorem dX1_readFrom_148 : decode cX1_readFrom 148 = .ok (.aload_n 0, 1) := by decide +kernel
theorem dX1_readFrom_149 : decode cX1_readFrom 149 = .ok (.aload_n 1, 1) := by decide +kernel
theorem dX1_readFrom_150 : decode cX1_readFrom 150 = .ok (.bipush 59, 2) := by decide +kernel
theorem dX1_readFrom_152 : decode cX1_readFrom 152 = .ok (.invokevirtual 35, 3) := by decide +kernel
theorem dX1_readFrom_155 : decode cX1_readFrom 155 = .ok (.ifCond .eq 7, 3) := by decide +kernel
theorem dX1_readFrom_158 : decode cX1_readFrom 158 = .ok (.iconst 1, 1) := by decide +kernel
theorem dX1_readFrom_159 : decode cX1_readFrom 159 = .ok (.goto 4, 3) := by decide +kernel
theorem dX1_readFrom_162 : decode cX1_readFrom 162 = .ok (.iconst 0, 1) := by decide +kernel
theorem dX1_readFrom_163 : decode cX1_readFrom 163 = .ok (.ireturn, 1) := by decide +kernel
set_option maxRecDepth 20000 in
theorem ggX1_takeSign_X6_signAt : GoodIn wsX1_takeSign wsX6_signAt := goodIn_r _ [6, 7, 8, 16, 17] (by decide +kernel) (by decide +kernel)
set_option maxRecDepth 20000 in
theorem gX1_takeSign_X6_signAt : GoodIn wsX1_takeSign (wsV RX1 9 RX6 yX6_signAt wsX6_signAt) := goodIn_app (goodIn_of _ (by decide +kernel)) ggX1_takeSign_X6_signAt
theorem dX1_takeSign_0 : decode cX1_takeSign 0 = .ok (.aload_n 1, 1) := by decide +kernel
theorem dX1_takeSign_1 : decode cX1_takeSign 1 = .ok (.aload_n 0, 1) := by decide +kernel
theorem dX1_takeSign_2 : decode cX1_takeSign 2 = .ok (.getfield 32, 3) := by decide +kernel
theorem dX1_takeSign_5 : decode cX1_takeSign 5 = .ok (.invokevirtual 9, 3) := by decide +kernel
theorem dX1_takeSign_8 : decode cX1_takeSign 8 = .ok (.iload_n 2, 1) := by decide +kernel
theorem dX1_takeSign_9 : decode cX1_takeSign 9 = .ok (.if_icmp .ne 7, 3) := by decide +kernel
theorem dX1_takeSign_12 : decode cX1_takeSign 12 = .ok (.iconst 1, 1) := by decide +kernel
theorem dX1_takeSign_13 : decode cX1_takeSign 13 = .ok (.goto 4, 3) := by decide +kernel
theorem dX1_takeSign_16 : decode cX1_takeSign 16 = .ok (.iconst 0, 1) := by decide +kernel
theorem dX1_takeSign_17 : decode cX1_takeSign 17 = .ok (.istore_n 3, 1) := by decide +kernel
theorem dX1_takeSign_18 : decode cX1_takeSign 18 = .ok (.aload_n 0, 1) := by decide +kernel
theorem dX1_takeSign_19 : decode cX1_takeSign 19 = .ok (.dup, 1) := by decide +kernel
theorem dX1_takeSign_20 : decode cX1_takeSign 20 = .ok (.getfield 32, 3) := by decide +kernel
theorem dX1_takeSign_23 : decode cX1_takeSign 23 = .ok (.iconst 1, 1) := by decide +kernel
theorem dX1_takeSign_24 : decode cX1_takeSign 24 = .ok (.iadd, 1) := by decide +kernel
theorem dX1_takeSign_25 : decode cX1_takeSign 25 = .ok (.putfield 32, 3) := by decide +kernel
theorem dX1_takeSign_28 : decode cX1_takeSign 28 = .ok (.iload_n 3, 1) := by decide +kernel
theorem dX1_takeSign_29 : decode cX1_takeSign 29 = .ok (.ireturn, 1) := by decide +kernel
set_option maxRecDepth 20000 in
theorem ggX1_takeColour_X1_takePart : GoodIn wsX1_takeColour wsX1_takePart := goodIn_r _ [8, 9, 10, 11, 12, 13, 14, 15, 16, 17, 18, 7, 19, 20, 21, 22, 23, 24, 25, 26, 27, 28, 29, 30, 31] (by decide +kernel) (by decide +kernel)
set_option maxRecDepth 20000 in
theorem gX1_takeColour_X1_takePart : GoodIn wsX1_takeColour (wsV RX1 46 RX1 yX1_takePart wsX1_takePart) := goodIn_app (goodIn_of _ (by decide +kernel)) ggX1_takeColour_X1_takePart
theorem dX1_takeColour_0 : decode cX1_takeColour 0 = .ok (.aload_n 0, 1) := by decide +kernel
theorem dX1_takeColour_1 : decode cX1_takeColour 1 = .ok (.aload_n 0, 1) := by decide +kernel
theorem dX1_takeColour_2 : decode cX1_takeColour 2 = .ok (.aload_n 1, 1) := by decide +kernel
theorem dX1_takeColour_3 : decode cX1_takeColour 3 = .ok (.invokevirtual 46, 3) := by decide +kernel
theorem dX1_takeColour_6 : decode cX1_takeColour 6 = .ok (.putfield 50, 3) := by decide +kernel
theorem dX1_takeColour_9 : decode cX1_takeColour 9 = .ok (.aload_n 0, 1) := by decide +kernel
theorem dX1_takeColour_10 : decode cX1_takeColour 10 = .ok (.aload_n 0, 1) := by decide +kernel
theorem dX1_takeColour_11 : decode cX1_takeColour 11 = .ok (.aload_n 1, 1) := by decide +kernel
theorem dX1_takeColour_12 : decode cX1_takeColour 12 = .ok (.invokevirtual 46, 3) := by decide +kernel
theorem dX1_takeColour_15 : decode cX1_takeColour 15 = .ok (.putfield 53, 3) := by decide +kernel
theorem dX1_takeColour_18 : decode cX1_takeColour 18 = .ok (.aload_n 0, 1) := by decide +kernel
theorem dX1_takeColour_19 : decode cX1_takeColour 19 = .ok (.aload_n 0, 1) := by decide +kernel
theorem dX1_takeColour_20 : decode cX1_takeColour 20 = .ok (.aload_n 1, 1) := by decide +kernel
theorem dX1_takeColour_21 : decode cX1_takeColour 21 = .ok (.invokevirtual 46, 3) := by decide +kernel
theorem dX1_takeColour_24 : decode cX1_takeColour 24 = .ok (.putfield 56, 3) := by decide +kernel
theorem dX1_takeColour_27 : decode cX1_takeColour 27 = .ok (.aload_n 0, 1) := by decide +kernel
theorem dX1_takeColour_28 : decode cX1_takeColour 28 = .ok (.getfield 50, 3) := by decide +kernel
theorem dX1_takeColour_31 : decode cX1_takeColour 31 = .ok (.ifCond .lt 21, 3) := by decide +kernel
theorem dX1_takeColour_34 : decode cX1_takeColour 34 = .ok (.aload_n 0, 1) := by decide +kernel
theorem dX1_takeColour_35 : decode cX1_takeColour 35 = .ok (.getfield 53, 3) := by decide +kernel
theorem dX1_takeColour_38 : decode cX1_takeColour 38 = .ok (.ifCond .lt 14, 3) := by decide +kernel
theorem dX1_takeColour_41 : decode cX1_takeColour 41 = .ok (.aload_n 0, 1) := by decide +kernel
theorem dX1_takeColour_42 : decode cX1_takeColour 42 = .ok (.getfield 56, 3) := by decide +kernel
theorem dX1_takeColour_45 : decode cX1_takeColour 45 = .ok (.ifCond .lt 7, 3) := by decide +kernel
theorem dX1_takeColour_48 : decode cX1_takeColour 48 = .ok (.iconst 1, 1) := by decide +kernel
theorem dX1_takeColour_49 : decode cX1_takeColour 49 = .ok (.goto 4, 3) := by decide +kernel
theorem dX1_takeColour_52 : decode cX1_takeColour 52 = .ok (.iconst 0, 1) := by decide +kernel
theorem dX1_takeColour_53 : decode cX1_takeColour 53 = .ok (.ireturn, 1) := by decide +kernel
set_option maxRecDepth 20000 in
theorem ggX1_takePart_X6_signAt : GoodIn wsX1_takePart wsX6_signAt := goodIn_r _ [6, 7, 8, 23, 24] (by decide +kernel) (by decide +kernel)
set_option maxRecDepth 20000 in
theorem gX1_takePart_X6_signAt : GoodIn wsX1_takePart (wsV RX1 9 RX6 yX6_signAt wsX6_signAt) := goodIn_app (goodIn_of _ (by decide +kernel)) ggX1_takePart_X6_signAt
set_option maxRecDepth 20000 in
theorem ggX1_takePart_X1_sixteenOf : GoodIn wsX1_takePart wsX1_sixteenOf := goodIn_r _ [12, 13, 14, 11, 15] (by decide +kernel) (by decide +kernel)
set_option maxRecDepth 20000 in
theorem gX1_takePart_X1_sixteenOf : GoodIn wsX1_takePart (va_wsS RX1 59 yX1_sixteenOf wsX1_sixteenOf) := goodIn_app (goodIn_of _ (by decide +kernel)) ggX1_takePart_X1_sixteenOf
theorem dX1_takePart_0 : decode cX1_takePart 0 = .ok (.aload_n 1, 1) := by decide +kernel
theorem dX1_takePart_1 : decode cX1_takePart 1 = .ok (.aload_n 0, 1) := by decide +kernel
theorem dX1_takePart_2 : decode cX1_takePart 2 = .ok (.getfield 32, 3) := by decide +kernel
theorem dX1_takePart_5 : decode cX1_takePart 5 = .ok (.invokevirtual 9, 3) := by decide +kernel
theorem dX1_takePart_8 : decode cX1_takePart 8 = .ok (.invokestatic 59, 3) := by decide +kernel
theorem dX1_takePart_11 : decode cX1_takePart 11 = .ok (.istore_n 2, 1) := by decide +kernel
theorem dX1_takePart_12 : decode cX1_takePart 12 = .ok (.aload_n 1, 1) := by decide +kernel
theorem dX1_takePart_13 : decode cX1_takePart 13 = .ok (.aload_n 0, 1) := by decide +kernel
theorem dX1_takePart_14 : decode cX1_takePart 14 = .ok (.getfield 32, 3) := by decide +kernel
theorem dX1_takePart_17 : decode cX1_takePart 17 = .ok (.iconst 1, 1) := by decide +kernel
theorem dX1_takePart_18 : decode cX1_takePart 18 = .ok (.iadd, 1) := by decide +kernel
theorem dX1_takePart_19 : decode cX1_takePart 19 = .ok (.invokevirtual 9, 3) := by decide +kernel
theorem dX1_takePart_22 : decode cX1_takePart 22 = .ok (.invokestatic 59, 3) := by decide +kernel
theorem dX1_takePart_25 : decode cX1_takePart 25 = .ok (.istore_n 3, 1) := by decide +kernel
theorem dX1_takePart_26 : decode cX1_takePart 26 = .ok (.aload_n 0, 1) := by decide +kernel
theorem dX1_takePart_27 : decode cX1_takePart 27 = .ok (.dup, 1) := by decide +kernel
theorem dX1_takePart_28 : decode cX1_takePart 28 = .ok (.getfield 32, 3) := by decide +kernel
theorem dX1_takePart_31 : decode cX1_takePart 31 = .ok (.iconst 2, 1) := by decide +kernel
theorem dX1_takePart_32 : decode cX1_takePart 32 = .ok (.iadd, 1) := by decide +kernel
theorem dX1_takePart_33 : decode cX1_takePart 33 = .ok (.putfield 32, 3) := by decide +kernel
theorem dX1_takePart_36 : decode cX1_takePart 36 = .ok (.iload_n 2, 1) := by decide +kernel
theorem dX1_takePart_37 : decode cX1_takePart 37 = .ok (.ifCond .lt 16, 3) := by decide +kernel
theorem dX1_takePart_40 : decode cX1_takePart 40 = .ok (.iload_n 3, 1) := by decide +kernel
theorem dX1_takePart_41 : decode cX1_takePart 41 = .ok (.ifCond .lt 12, 3) := by decide +kernel
theorem dX1_takePart_44 : decode cX1_takePart 44 = .ok (.iload_n 2, 1) := by decide +kernel
theorem dX1_takePart_45 : decode cX1_takePart 45 = .ok (.bipush 16, 2) := by decide +kernel
theorem dX1_takePart_47 : decode cX1_takePart 47 = .ok (.imul, 1) := by decide +kernel
theorem dX1_takePart_48 : decode cX1_takePart 48 = .ok (.iload_n 3, 1) := by decide +kernel
theorem dX1_takePart_49 : decode cX1_takePart 49 = .ok (.iadd, 1) := by decide +kernel
theorem dX1_takePart_50 : decode cX1_takePart 50 = .ok (.goto 4, 3) := by decide +kernel
theorem dX1_takePart_53 : decode cX1_takePart 53 = .ok (.iconst (-1), 1) := by decide +kernel
theorem dX1_takePart_54 : decode cX1_takePart 54 = .ok (.ireturn, 1) := by decide +kernel
set_option maxRecDepth 20000 in
theorem ggX1_takePlace_X1_takeNumber : GoodIn wsX1_takePlace wsX1_takeNumber := goodIn_r _ [7, 8, 9, 10, 11, 12, 13, 14, 15, 16, 17, 6, 18, 23, 24, 25, 26, 27, 28, 29, 30, 31] (by decide +kernel) (by decide +kernel)
set_option maxRecDepth 20000 in
theorem gX1_takePlace_X1_takeNumber : GoodIn wsX1_takePlace (wsV RX1 62 RX1 yX1_takeNumber wsX1_takeNumber) := goodIn_app (goodIn_of _ (by decide +kernel)) ggX1_takePlace_X1_takeNumber
set_option maxRecDepth 20000 in
theorem ggX1_takePlace_X1_takeSign : GoodIn wsX1_takePlace wsX1_takeSign := goodIn_r _ [22, 8, 9, 10, 11, 12, 13, 14, 15, 23, 24, 25, 26, 27, 28, 29, 30, 31] (by decide +kernel) (by decide +kernel)
set_option maxRecDepth 20000 in
theorem gX1_takePlace_X1_takeSign : GoodIn wsX1_takePlace (wsV RX1 35 RX1 yX1_takeSign wsX1_takeSign) := goodIn_app (goodIn_of _ (by decide +kernel)) ggX1_takePlace_X1_takeSign
theorem dX1_takePlace_0 : decode cX1_takePlace 0 = .ok (.aload_n 0, 1) := by decide +kernel
theorem dX1_takePlace_1 : decode cX1_takePlace 1 = .ok (.aload_n 0, 1) := by decide +kernel
theorem dX1_takePlace_2 : decode cX1_takePlace 2 = .ok (.aload_n 1, 1) := by decide +kernel
theorem dX1_takePlace_3 : decode cX1_takePlace 3 = .ok (.invokevirtual 62, 3) := by decide +kernel
theorem dX1_takePlace_6 : decode cX1_takePlace 6 = .ok (.putfield 50, 3) := by decide +kernel
theorem dX1_takePlace_9 : decode cX1_takePlace 9 = .ok (.aload_n 0, 1) := by decide +kernel
theorem dX1_takePlace_10 : decode cX1_takePlace 10 = .ok (.getfield 50, 3) := by decide +kernel
theorem dX1_takePlace_13 : decode cX1_takePlace 13 = .ok (.ifCond .lt 13, 3) := by decide +kernel
theorem dX1_takePlace_16 : decode cX1_takePlace 16 = .ok (.aload_n 0, 1) := by decide +kernel
theorem dX1_takePlace_17 : decode cX1_takePlace 17 = .ok (.aload_n 1, 1) := by decide +kernel
theorem dX1_takePlace_18 : decode cX1_takePlace 18 = .ok (.bipush 44, 2) := by decide +kernel
theorem dX1_takePlace_20 : decode cX1_takePlace 20 = .ok (.invokevirtual 35, 3) := by decide +kernel
theorem dX1_takePlace_23 : decode cX1_takePlace 23 = .ok (.ifCond .ne 5, 3) := by decide +kernel
theorem dX1_takePlace_26 : decode cX1_takePlace 26 = .ok (.iconst 0, 1) := by decide +kernel
theorem dX1_takePlace_27 : decode cX1_takePlace 27 = .ok (.ireturn, 1) := by decide +kernel
theorem dX1_takePlace_28 : decode cX1_takePlace 28 = .ok (.aload_n 0, 1) := by decide +kernel
theorem dX1_takePlace_29 : decode cX1_takePlace 29 = .ok (.aload_n 0, 1) := by decide +kernel
theorem dX1_takePlace_30 : decode cX1_takePlace 30 = .ok (.aload_n 1, 1) := by decide +kernel
theorem dX1_takePlace_31 : decode cX1_takePlace 31 = .ok (.invokevirtual 62, 3) := by decide +kernel
theorem dX1_takePlace_34 : decode cX1_takePlace 34 = .ok (.putfield 53, 3) := by decide +kernel
theorem dX1_takePlace_37 : decode cX1_takePlace 37 = .ok (.aload_n 0, 1) := by decide +kernel
theorem dX1_takePlace_38 : decode cX1_takePlace 38 = .ok (.getfield 53, 3) := by decide +kernel
theorem dX1_takePlace_41 : decode cX1_takePlace 41 = .ok (.ifCond .lt 7, 3) := by decide +kernel
theorem dX1_takePlace_44 : decode cX1_takePlace 44 = .ok (.iconst 1, 1) := by decide +kernel
theorem dX1_takePlace_45 : decode cX1_takePlace 45 = .ok (.goto 4, 3) := by decide +kernel
theorem dX1_takePlace_48 : decode cX1_takePlace 48 = .ok (.iconst 0, 1) := by decide +kernel
theorem dX1_takePlace_49 : decode cX1_takePlace 49 = .ok (.ireturn, 1) := by decide +kernel
set_option maxRecDepth 20000 in
theorem ggX1_takeNumber_X6_signAt : GoodIn wsX1_takeNumber wsX6_signAt := goodIn_r _ [6, 7, 8, 20, 21] (by decide +kernel) (by decide +kernel)
set_option maxRecDepth 20000 in
theorem gX1_takeNumber_X6_signAt : GoodIn wsX1_takeNumber (wsV RX1 9 RX6 yX6_signAt wsX6_signAt) := goodIn_app (goodIn_of _ (by decide +kernel)) ggX1_takeNumber_X6_signAt
set_option maxRecDepth 20000 in
theorem ggX1_takeNumber_X1_digitOf : GoodIn wsX1_takeNumber wsX1_digitOf := goodIn_r _ [12] (by decide +kernel) (by decide +kernel)
set_option maxRecDepth 20000 in
theorem gX1_takeNumber_X1_digitOf : GoodIn wsX1_takeNumber (va_wsS RX1 21 yX1_digitOf wsX1_digitOf) := goodIn_app (goodIn_of _ (by decide +kernel)) ggX1_takeNumber_X1_digitOf
theorem dX1_takeNumber_0 : decode cX1_takeNumber 0 = .ok (.iconst (-1), 1) := by decide +kernel
theorem dX1_takeNumber_1 : decode cX1_takeNumber 1 = .ok (.istore_n 2, 1) := by decide +kernel
theorem dX1_takeNumber_2 : decode cX1_takeNumber 2 = .ok (.iconst 0, 1) := by decide +kernel
theorem dX1_takeNumber_3 : decode cX1_takeNumber 3 = .ok (.istore_n 3, 1) := by decide +kernel
theorem dX1_takeNumber_4 : decode cX1_takeNumber 4 = .ok (.iload_n 3, 1) := by decide +kernel
theorem dX1_takeNumber_5 : decode cX1_takeNumber 5 = .ok (.iconst 3, 1) := by decide +kernel
theorem dX1_takeNumber_6 : decode cX1_takeNumber 6 = .ok (.if_icmp .ge 56, 3) := by decide +kernel
theorem dX1_takeNumber_9 : decode cX1_takeNumber 9 = .ok (.aload_n 1, 1) := by decide +kernel
theorem dX1_takeNumber_10 : decode cX1_takeNumber 10 = .ok (.aload_n 0, 1) := by decide +kernel
theorem dX1_takeNumber_11 : decode cX1_takeNumber 11 = .ok (.getfield 32, 3) := by decide +kernel
theorem dX1_takeNumber_14 : decode cX1_takeNumber 14 = .ok (.invokevirtual 9, 3) := by decide +kernel
theorem dX1_takeNumber_17 : decode cX1_takeNumber 17 = .ok (.invokestatic 21, 3) := by decide +kernel
theorem dX1_takeNumber_20 : decode cX1_takeNumber 20 = .ok (.istore 4, 2) := by decide +kernel
theorem dX1_takeNumber_22 : decode cX1_takeNumber 22 = .ok (.iload 4, 2) := by decide +kernel
theorem dX1_takeNumber_24 : decode cX1_takeNumber 24 = .ok (.ifCond .ge 5, 3) := by decide +kernel
theorem dX1_takeNumber_27 : decode cX1_takeNumber 27 = .ok (.iload_n 2, 1) := by decide +kernel
theorem dX1_takeNumber_28 : decode cX1_takeNumber 28 = .ok (.ireturn, 1) := by decide +kernel
theorem dX1_takeNumber_29 : decode cX1_takeNumber 29 = .ok (.iload_n 3, 1) := by decide +kernel
theorem dX1_takeNumber_30 : decode cX1_takeNumber 30 = .ok (.ifCond .ne 8, 3) := by decide +kernel
theorem dX1_takeNumber_33 : decode cX1_takeNumber 33 = .ok (.iload 4, 2) := by decide +kernel
theorem dX1_takeNumber_35 : decode cX1_takeNumber 35 = .ok (.goto 10, 3) := by decide +kernel
theorem dX1_takeNumber_38 : decode cX1_takeNumber 38 = .ok (.iload_n 2, 1) := by decide +kernel
theorem dX1_takeNumber_39 : decode cX1_takeNumber 39 = .ok (.bipush 10, 2) := by decide +kernel
theorem dX1_takeNumber_41 : decode cX1_takeNumber 41 = .ok (.imul, 1) := by decide +kernel
theorem dX1_takeNumber_42 : decode cX1_takeNumber 42 = .ok (.iload 4, 2) := by decide +kernel
theorem dX1_takeNumber_44 : decode cX1_takeNumber 44 = .ok (.iadd, 1) := by decide +kernel
theorem dX1_takeNumber_45 : decode cX1_takeNumber 45 = .ok (.istore_n 2, 1) := by decide +kernel
theorem dX1_takeNumber_46 : decode cX1_takeNumber 46 = .ok (.aload_n 0, 1) := by decide +kernel
theorem dX1_takeNumber_47 : decode cX1_takeNumber 47 = .ok (.dup, 1) := by decide +kernel
theorem dX1_takeNumber_48 : decode cX1_takeNumber 48 = .ok (.getfield 32, 3) := by decide +kernel
theorem dX1_takeNumber_51 : decode cX1_takeNumber 51 = .ok (.iconst 1, 1) := by decide +kernel
theorem dX1_takeNumber_52 : decode cX1_takeNumber 52 = .ok (.iadd, 1) := by decide +kernel
theorem dX1_takeNumber_53 : decode cX1_takeNumber 53 = .ok (.putfield 32, 3) := by decide +kernel
theorem dX1_takeNumber_56 : decode cX1_takeNumber 56 = .ok (.iinc 3 1, 3) := by decide +kernel
theorem dX1_takeNumber_59 : decode cX1_takeNumber 59 = .ok (.goto (-55), 3) := by decide +kernel
theorem dX1_takeNumber_62 : decode cX1_takeNumber 62 = .ok (.iload_n 2, 1) := by decide +kernel
theorem dX1_takeNumber_63 : decode cX1_takeNumber 63 = .ok (.ireturn, 1) := by decide +kernel
theorem dX1_digitOf_0 : decode cX1_digitOf 0 = .ok (.iload_n 0, 1) := by decide +kernel
theorem dX1_digitOf_1 : decode cX1_digitOf 1 = .ok (.bipush 48, 2) := by decide +kernel
theorem dX1_digitOf_3 : decode cX1_digitOf 3 = .ok (.if_icmp .lt 16, 3) := by decide +kernel
theorem dX1_digitOf_6 : decode cX1_digitOf 6 = .ok (.iload_n 0, 1) := by decide +kernel
theorem dX1_digitOf_7 : decode cX1_digitOf 7 = .ok (.bipush 57, 2) := by decide +kernel
theorem dX1_digitOf_9 : decode cX1_digitOf 9 = .ok (.if_icmp .gt 10, 3) := by decide +kernel
theorem dX1_digitOf_12 : decode cX1_digitOf 12 = .ok (.iload_n 0, 1) := by decide +kernel
theorem dX1_digitOf_13 : decode cX1_digitOf 13 = .ok (.bipush 48, 2) := by decide +kernel
theorem dX1_digitOf_15 : decode cX1_digitOf 15 = .ok (.isub, 1) := by decide +kernel
theorem dX1_digitOf_16 : decode cX1_digitOf 16 = .ok (.goto 4, 3) := by decide +kernel
theorem dX1_digitOf_19 : decode cX1_digitOf 19 = .ok (.iconst (-1), 1) := by decide +kernel
theorem dX1_digitOf_20 : decode cX1_digitOf 20 = .ok (.ireturn, 1) := by decide +kernel
set_option maxRecDepth 20000 in
theorem ggX1_sixteenOf_X1_digitOf : GoodIn wsX1_sixteenOf wsX1_digitOf := goodIn_r _ [4] (by decide +kernel) (by decide +kernel)
set_option maxRecDepth 20000 in
theorem gX1_sixteenOf_X1_digitOf : GoodIn wsX1_sixteenOf (va_wsS RX1 21 yX1_digitOf wsX1_digitOf) := goodIn_app (goodIn_of _ (by decide +kernel)) ggX1_sixteenOf_X1_digitOf
theorem dX1_sixteenOf_0 : decode cX1_sixteenOf 0 = .ok (.iload_n 0, 1) := by decide +kernel
theorem dX1_sixteenOf_1 : decode cX1_sixteenOf 1 = .ok (.bipush 97, 2) := by decide +kernel
theorem dX1_sixteenOf_3 : decode cX1_sixteenOf 3 = .ok (.if_icmp .lt 19, 3) := by decide +kernel
theorem dX1_sixteenOf_6 : decode cX1_sixteenOf 6 = .ok (.iload_n 0, 1) := by decide +kernel
theorem dX1_sixteenOf_7 : decode cX1_sixteenOf 7 = .ok (.bipush 102, 2) := by decide +kernel
theorem dX1_sixteenOf_9 : decode cX1_sixteenOf 9 = .ok (.if_icmp .gt 13, 3) := by decide +kernel
theorem dX1_sixteenOf_12 : decode cX1_sixteenOf 12 = .ok (.iload_n 0, 1) := by decide +kernel
theorem dX1_sixteenOf_13 : decode cX1_sixteenOf 13 = .ok (.bipush 97, 2) := by decide +kernel
theorem dX1_sixteenOf_15 : decode cX1_sixteenOf 15 = .ok (.isub, 1) := by decide +kernel
theorem dX1_sixteenOf_16 : decode cX1_sixteenOf 16 = .ok (.bipush 10, 2) := by decide +kernel
theorem dX1_sixteenOf_18 : decode cX1_sixteenOf 18 = .ok (.iadd, 1) := by decide +kernel
theorem dX1_sixteenOf_19 : decode cX1_sixteenOf 19 = .ok (.goto 7, 3) := by decide +kernel
theorem dX1_sixteenOf_22 : decode cX1_sixteenOf 22 = .ok (.iload_n 0, 1) := by decide +kernel
theorem dX1_sixteenOf_23 : decode cX1_sixteenOf 23 = .ok (.invokestatic 21, 3) := by decide +kernel
theorem dX1_sixteenOf_26 : decode cX1_sixteenOf 26 = .ok (.ireturn, 1) := by decide +kernel
set_option maxRecDepth 20000 in
theorem ggX1_runOn_X7_refusalOfFreeing : GoodIn wsX1_runOn wsX7_refusalOfFreeing := goodIn_r _ [10, 11, 12, 13, 9, 14, 15, 16, 17, 18, 19, 20, 41, 42, 43, 44, 45] (by decide +kernel) (by decide +kernel)
set_option maxRecDepth 20000 in
theorem gX1_runOn_X7_refusalOfFreeing_n65 : GoodIn wsX1_runOn (wsX7_refusalOfFreeing) := ggX1_runOn_X7_refusalOfFreeing
set_option maxRecDepth 20000 in
theorem ggX1_runOn_X7_cornerAt : GoodIn wsX1_runOn wsX7_cornerAt := goodIn_r _ [20] (by decide +kernel) (by decide +kernel)
set_option maxRecDepth 20000 in
theorem gX1_runOn_X7_cornerAt_n75 : GoodIn wsX1_runOn (wsX7_cornerAt) := ggX1_runOn_X7_cornerAt
set_option maxRecDepth 20000 in
theorem ggX1_runOn_X7_isCorner : GoodIn wsX1_runOn wsX7_isCorner := goodIn_r _ [14, 15, 16, 9, 17] (by decide +kernel) (by decide +kernel)
set_option maxRecDepth 20000 in
theorem gX1_runOn_X7_isCorner_n79 : GoodIn wsX1_runOn (wsX7_isCorner) := ggX1_runOn_X7_isCorner
set_option maxRecDepth 20000 in
theorem ggX1_runOn_X3_holdCorner : GoodIn wsX1_runOn wsX3_holdCorner := goodIn_r _ [25, 26, 27, 41, 42, 43, 44, 45] (by decide +kernel) (by decide +kernel)
set_option maxRecDepth 20000 in
theorem gX1_runOn_X3_holdCorner : GoodIn wsX1_runOn (wsV RX1 83 RX3 yX3_holdCorner wsX3_holdCorner) := goodIn_app (goodIn_of _ (by decide +kernel)) ggX1_runOn_X3_holdCorner
set_option maxRecDepth 20000 in
theorem ggX1_runOn_X3_moveCorner : GoodIn wsX1_runOn wsX3_moveCorner := goodIn_r _ [31, 32, 33, 41, 42, 43, 44, 45] (by decide +kernel) (by decide +kernel)
set_option maxRecDepth 20000 in
theorem gX1_runOn_X3_moveCorner : GoodIn wsX1_runOn (wsV RX1 87 RX3 yX3_moveCorner wsX3_moveCorner) := goodIn_app (goodIn_of _ (by decide +kernel)) ggX1_runOn_X3_moveCorner
theorem dX1_runOn_0 : decode cX1_runOn 0 = .ok (.aload_n 0, 1) := by decide +kernel
theorem dX1_runOn_1 : decode cX1_runOn 1 = .ok (.getfield 15, 3) := by decide +kernel
theorem dX1_runOn_4 : decode cX1_runOn 4 = .ok (.bipush 102, 2) := by decide +kernel
theorem dX1_runOn_6 : decode cX1_runOn 6 = .ok (.if_icmp .ne 39, 3) := by decide +kernel
theorem dX1_runOn_9 : decode cX1_runOn 9 = .ok (.aload_n 1, 1) := by decide +kernel
theorem dX1_runOn_10 : decode cX1_runOn 10 = .ok (.aload_n 0, 1) := by decide +kernel
theorem dX1_runOn_11 : decode cX1_runOn 11 = .ok (.getfield 25, 3) := by decide +kernel
theorem dX1_runOn_14 : decode cX1_runOn 14 = .ok (.aload_n 0, 1) := by decide +kernel
theorem dX1_runOn_15 : decode cX1_runOn 15 = .ok (.getfield 29, 3) := by decide +kernel
theorem dX1_runOn_18 : decode cX1_runOn 18 = .ok (.invokestatic 65, 3) := by decide +kernel
theorem dX1_runOn_21 : decode cX1_runOn 21 = .ok (.istore_n 2, 1) := by decide +kernel
theorem dX1_runOn_22 : decode cX1_runOn 22 = .ok (.iload_n 2, 1) := by decide +kernel
theorem dX1_runOn_23 : decode cX1_runOn 23 = .ok (.ifCond .ne 20, 3) := by decide +kernel
theorem dX1_runOn_26 : decode cX1_runOn 26 = .ok (.aload_n 1, 1) := by decide +kernel
theorem dX1_runOn_27 : decode cX1_runOn 27 = .ok (.getfield 69, 3) := by decide +kernel
theorem dX1_runOn_30 : decode cX1_runOn 30 = .ok (.aload_n 0, 1) := by decide +kernel
theorem dX1_runOn_31 : decode cX1_runOn 31 = .ok (.getfield 25, 3) := by decide +kernel
theorem dX1_runOn_34 : decode cX1_runOn 34 = .ok (.aload_n 0, 1) := by decide +kernel
theorem dX1_runOn_35 : decode cX1_runOn 35 = .ok (.getfield 29, 3) := by decide +kernel
theorem dX1_runOn_38 : decode cX1_runOn 38 = .ok (.invokestatic 75, 3) := by decide +kernel
theorem dX1_runOn_41 : decode cX1_runOn 41 = .ok (.iconst 0, 1) := by decide +kernel
theorem dX1_runOn_42 : decode cX1_runOn 42 = .ok (.iastore, 1) := by decide +kernel
theorem dX1_runOn_43 : decode cX1_runOn 43 = .ok (.iload_n 2, 1) := by decide +kernel
theorem dX1_runOn_44 : decode cX1_runOn 44 = .ok (.ireturn, 1) := by decide +kernel
theorem dX1_runOn_45 : decode cX1_runOn 45 = .ok (.aload_n 0, 1) := by decide +kernel
theorem dX1_runOn_46 : decode cX1_runOn 46 = .ok (.getfield 25, 3) := by decide +kernel
theorem dX1_runOn_49 : decode cX1_runOn 49 = .ok (.aload_n 0, 1) := by decide +kernel
theorem dX1_runOn_50 : decode cX1_runOn 50 = .ok (.getfield 29, 3) := by decide +kernel
theorem dX1_runOn_53 : decode cX1_runOn 53 = .ok (.invokestatic 79, 3) := by decide +kernel
theorem dX1_runOn_56 : decode cX1_runOn 56 = .ok (.ifCond .ne 7, 3) := by decide +kernel
theorem dX1_runOn_59 : decode cX1_runOn 59 = .ok (.sipush (-1001), 3) := by decide +kernel
theorem dX1_runOn_62 : decode cX1_runOn 62 = .ok (.ireturn, 1) := by decide +kernel
theorem dX1_runOn_63 : decode cX1_runOn 63 = .ok (.aload_n 0, 1) := by decide +kernel
theorem dX1_runOn_64 : decode cX1_runOn 64 = .ok (.getfield 15, 3) := by decide +kernel
theorem dX1_runOn_67 : decode cX1_runOn 67 = .ok (.bipush 99, 2) := by decide +kernel
theorem dX1_runOn_69 : decode cX1_runOn 69 = .ok (.if_icmp .ne 33, 3) := by decide +kernel
theorem dX1_runOn_72 : decode cX1_runOn 72 = .ok (.aload_n 1, 1) := by decide +kernel
theorem dX1_runOn_73 : decode cX1_runOn 73 = .ok (.aload_n 0, 1) := by decide +kernel
theorem dX1_runOn_74 : decode cX1_runOn 74 = .ok (.getfield 25, 3) := by decide +kernel
theorem dX1_runOn_77 : decode cX1_runOn 77 = .ok (.aload_n 0, 1) := by decide +kernel
theorem dX1_runOn_78 : decode cX1_runOn 78 = .ok (.getfield 29, 3) := by decide +kernel
theorem dX1_runOn_81 : decode cX1_runOn 81 = .ok (.invokestatic 75, 3) := by decide +kernel
theorem dX1_runOn_84 : decode cX1_runOn 84 = .ok (.aload_n 0, 1) := by decide +kernel
theorem dX1_runOn_85 : decode cX1_runOn 85 = .ok (.getfield 50, 3) := by decide +kernel
theorem dX1_runOn_88 : decode cX1_runOn 88 = .ok (.aload_n 0, 1) := by decide +kernel
theorem dX1_runOn_89 : decode cX1_runOn 89 = .ok (.getfield 53, 3) := by decide +kernel
theorem dX1_runOn_92 : decode cX1_runOn 92 = .ok (.aload_n 0, 1) := by decide +kernel
theorem dX1_runOn_93 : decode cX1_runOn 93 = .ok (.getfield 56, 3) := by decide +kernel
theorem dX1_runOn_96 : decode cX1_runOn 96 = .ok (.invokevirtual 83, 3) := by decide +kernel
theorem dX1_runOn_99 : decode cX1_runOn 99 = .ok (.goto 26, 3) := by decide +kernel
theorem dX1_runOn_102 : decode cX1_runOn 102 = .ok (.aload_n 1, 1) := by decide +kernel
theorem dX1_runOn_103 : decode cX1_runOn 103 = .ok (.aload_n 0, 1) := by decide +kernel
theorem dX1_runOn_104 : decode cX1_runOn 104 = .ok (.getfield 25, 3) := by decide +kernel
theorem dX1_runOn_107 : decode cX1_runOn 107 = .ok (.aload_n 0, 1) := by decide +kernel
theorem dX1_runOn_108 : decode cX1_runOn 108 = .ok (.getfield 29, 3) := by decide +kernel
theorem dX1_runOn_111 : decode cX1_runOn 111 = .ok (.invokestatic 75, 3) := by decide +kernel
theorem dX1_runOn_114 : decode cX1_runOn 114 = .ok (.aload_n 0, 1) := by decide +kernel
theorem dX1_runOn_115 : decode cX1_runOn 115 = .ok (.getfield 50, 3) := by decide +kernel
theorem dX1_runOn_118 : decode cX1_runOn 118 = .ok (.aload_n 0, 1) := by decide +kernel
theorem dX1_runOn_119 : decode cX1_runOn 119 = .ok (.getfield 53, 3) := by decide +kernel
theorem dX1_runOn_122 : decode cX1_runOn 122 = .ok (.invokevirtual 87, 3) := by decide +kernel
theorem dX1_runOn_125 : decode cX1_runOn 125 = .ok (.iconst 0, 1) := by decide +kernel
theorem dX1_runOn_126 : decode cX1_runOn 126 = .ok (.ireturn, 1) := by decide +kernel
set_option maxRecDepth 20000 in
theorem ggX2_init_X3_init : GoodIn wsX2_init wsX3_init := goodIn_r _ [12, 13, 2, 3, 14, 15, 16, 17, 18, 19, 23, 24, 25, 26, 27] (by decide +kernel) (by decide +kernel)
set_option maxRecDepth 20000 in
theorem gX2_init_X3_init : GoodIn wsX2_init (wsX3_init) := ggX2_init_X3_init
theorem dX2_init_0 : decode cX2_init 0 = .ok (.aload_n 0, 1) := by decide +kernel
theorem dX2_init_1 : decode cX2_init 1 = .ok (.invokespecial 3, 3) := by decide +kernel
theorem dX2_init_4 : decode cX2_init 4 = .ok (.aload_n 0, 1) := by decide +kernel
theorem dX2_init_5 : decode cX2_init 5 = .ok (.iconst 4, 1) := by decide +kernel
theorem dX2_init_6 : decode cX2_init 6 = .ok (.anewarray 9, 3) := by decide +kernel
theorem dX2_init_9 : decode cX2_init 9 = .ok (.putfield 11, 3) := by decide +kernel
theorem dX2_init_12 : decode cX2_init 12 = .ok (.iconst 0, 1) := by decide +kernel
theorem dX2_init_13 : decode cX2_init 13 = .ok (.istore_n 1, 1) := by decide +kernel
theorem dX2_init_14 : decode cX2_init 14 = .ok (.iload_n 1, 1) := by decide +kernel
theorem dX2_init_15 : decode cX2_init 15 = .ok (.iconst 4, 1) := by decide +kernel
theorem dX2_init_16 : decode cX2_init 16 = .ok (.if_icmp .ge 22, 3) := by decide +kernel
theorem dX2_init_19 : decode cX2_init 19 = .ok (.aload_n 0, 1) := by decide +kernel
theorem dX2_init_20 : decode cX2_init 20 = .ok (.getfield 11, 3) := by decide +kernel
theorem dX2_init_23 : decode cX2_init 23 = .ok (.iload_n 1, 1) := by decide +kernel
theorem dX2_init_24 : decode cX2_init 24 = .ok (.new 9, 3) := by decide +kernel
theorem dX2_init_27 : decode cX2_init 27 = .ok (.dup, 1) := by decide +kernel
theorem dX2_init_28 : decode cX2_init 28 = .ok (.invokespecial 17, 3) := by decide +kernel
theorem dX2_init_31 : decode cX2_init 31 = .ok (.aastore, 1) := by decide +kernel
theorem dX2_init_32 : decode cX2_init 32 = .ok (.iinc 1 1, 3) := by decide +kernel
theorem dX2_init_35 : decode cX2_init 35 = .ok (.goto (-21), 3) := by decide +kernel
theorem dX2_init_38 : decode cX2_init 38 = .ok (.aload_n 0, 1) := by decide +kernel
theorem dX2_init_39 : decode cX2_init 39 = .ok (.iconst 0, 1) := by decide +kernel
theorem dX2_init_40 : decode cX2_init 40 = .ok (.putfield 18, 3) := by decide +kernel
theorem dX2_init_43 : decode cX2_init 43 = .ok (.aload_n 0, 1) := by decide +kernel
theorem dX2_init_44 : decode cX2_init 44 = .ok (.iconst 0, 1) := by decide +kernel
theorem dX2_init_45 : decode cX2_init 45 = .ok (.putfield 22, 3) := by decide +kernel
theorem dX2_init_48 : decode cX2_init 48 = .ok (.return_, 1) := by decide +kernel
set_option maxRecDepth 20000 in
theorem ggX2_record_X3_copyFrom : GoodIn wsX2_record wsX3_copyFrom := goodIn_r _ [8, 9, 10, 11, 12, 13, 14, 15, 16, 17, 21, 22, 23, 24, 25] (by decide +kernel) (by decide +kernel)
set_option maxRecDepth 20000 in
theorem gX2_record_X3_copyFrom : GoodIn wsX2_record (wsV RX2 25 RX3 yX3_copyFrom wsX3_copyFrom) := goodIn_app (goodIn_of _ (by decide +kernel)) ggX2_record_X3_copyFrom
theorem dX2_record_0 : decode cX2_record 0 = .ok (.aload_n 0, 1) := by decide +kernel
theorem dX2_record_1 : decode cX2_record 1 = .ok (.getfield 11, 3) := by decide +kernel
theorem dX2_record_4 : decode cX2_record 4 = .ok (.aload_n 0, 1) := by decide +kernel
theorem dX2_record_5 : decode cX2_record 5 = .ok (.getfield 18, 3) := by decide +kernel
theorem dX2_record_8 : decode cX2_record 8 = .ok (.aload_n 0, 1) := by decide +kernel
theorem dX2_record_9 : decode cX2_record 9 = .ok (.getfield 22, 3) := by decide +kernel
theorem dX2_record_12 : decode cX2_record 12 = .ok (.iadd, 1) := by decide +kernel
theorem dX2_record_13 : decode cX2_record 13 = .ok (.iconst 4, 1) := by decide +kernel
theorem dX2_record_14 : decode cX2_record 14 = .ok (.irem, 1) := by decide +kernel
theorem dX2_record_15 : decode cX2_record 15 = .ok (.aaload, 1) := by decide +kernel
theorem dX2_record_16 : decode cX2_record 16 = .ok (.aload_n 1, 1) := by decide +kernel
theorem dX2_record_17 : decode cX2_record 17 = .ok (.invokevirtual 25, 3) := by decide +kernel
theorem dX2_record_20 : decode cX2_record 20 = .ok (.aload_n 0, 1) := by decide +kernel
theorem dX2_record_21 : decode cX2_record 21 = .ok (.getfield 22, 3) := by decide +kernel
theorem dX2_record_24 : decode cX2_record 24 = .ok (.iconst 4, 1) := by decide +kernel
theorem dX2_record_25 : decode cX2_record 25 = .ok (.if_icmp .ge 16, 3) := by decide +kernel
theorem dX2_record_28 : decode cX2_record 28 = .ok (.aload_n 0, 1) := by decide +kernel
theorem dX2_record_29 : decode cX2_record 29 = .ok (.dup, 1) := by decide +kernel
theorem dX2_record_30 : decode cX2_record 30 = .ok (.getfield 22, 3) := by decide +kernel
theorem dX2_record_33 : decode cX2_record 33 = .ok (.iconst 1, 1) := by decide +kernel
theorem dX2_record_34 : decode cX2_record 34 = .ok (.iadd, 1) := by decide +kernel
theorem dX2_record_35 : decode cX2_record 35 = .ok (.putfield 22, 3) := by decide +kernel
theorem dX2_record_38 : decode cX2_record 38 = .ok (.goto 15, 3) := by decide +kernel
theorem dX2_record_41 : decode cX2_record 41 = .ok (.aload_n 0, 1) := by decide +kernel
theorem dX2_record_42 : decode cX2_record 42 = .ok (.aload_n 0, 1) := by decide +kernel
theorem dX2_record_43 : decode cX2_record 43 = .ok (.getfield 18, 3) := by decide +kernel
theorem dX2_record_46 : decode cX2_record 46 = .ok (.iconst 1, 1) := by decide +kernel
theorem dX2_record_47 : decode cX2_record 47 = .ok (.iadd, 1) := by decide +kernel
theorem dX2_record_48 : decode cX2_record 48 = .ok (.iconst 4, 1) := by decide +kernel
theorem dX2_record_49 : decode cX2_record 49 = .ok (.irem, 1) := by decide +kernel
theorem dX2_record_50 : decode cX2_record 50 = .ok (.putfield 18, 3) := by decide +kernel
theorem dX2_record_53 : decode cX2_record 53 = .ok (.return_, 1) := by decide +kernel
set_option maxRecDepth 20000 in
theorem ggX2_takeLatest_X3_copyFrom : GoodIn wsX2_takeLatest wsX3_copyFrom := goodIn_r _ [8, 9, 10, 11, 12, 13, 14, 15, 16, 17, 21, 22, 23, 24, 25] (by decide +kernel) (by decide +kernel)
set_option maxRecDepth 20000 in
theorem gX2_takeLatest_X3_copyFrom : GoodIn wsX2_takeLatest (wsV RX2 25 RX3 yX3_copyFrom wsX3_copyFrom) := goodIn_app (goodIn_of _ (by decide +kernel)) ggX2_takeLatest_X3_copyFrom
theorem dX2_takeLatest_0 : decode cX2_takeLatest 0 = .ok (.aload_n 0, 1) := by decide +kernel
theorem dX2_takeLatest_1 : decode cX2_takeLatest 1 = .ok (.getfield 22, 3) := by decide +kernel
theorem dX2_takeLatest_4 : decode cX2_takeLatest 4 = .ok (.ifCond .le 33, 3) := by decide +kernel
theorem dX2_takeLatest_7 : decode cX2_takeLatest 7 = .ok (.aload_n 0, 1) := by decide +kernel
theorem dX2_takeLatest_8 : decode cX2_takeLatest 8 = .ok (.dup, 1) := by decide +kernel
theorem dX2_takeLatest_9 : decode cX2_takeLatest 9 = .ok (.getfield 22, 3) := by decide +kernel
theorem dX2_takeLatest_12 : decode cX2_takeLatest 12 = .ok (.iconst 1, 1) := by decide +kernel
theorem dX2_takeLatest_13 : decode cX2_takeLatest 13 = .ok (.isub, 1) := by decide +kernel
theorem dX2_takeLatest_14 : decode cX2_takeLatest 14 = .ok (.putfield 22, 3) := by decide +kernel
theorem dX2_takeLatest_17 : decode cX2_takeLatest 17 = .ok (.aload_n 1, 1) := by decide +kernel
theorem dX2_takeLatest_18 : decode cX2_takeLatest 18 = .ok (.aload_n 0, 1) := by decide +kernel
theorem dX2_takeLatest_19 : decode cX2_takeLatest 19 = .ok (.getfield 11, 3) := by decide +kernel
theorem dX2_takeLatest_22 : decode cX2_takeLatest 22 = .ok (.aload_n 0, 1) := by decide +kernel
theorem dX2_takeLatest_23 : decode cX2_takeLatest 23 = .ok (.getfield 18, 3) := by decide +kernel
theorem dX2_takeLatest_26 : decode cX2_takeLatest 26 = .ok (.aload_n 0, 1) := by decide +kernel
theorem dX2_takeLatest_27 : decode cX2_takeLatest 27 = .ok (.getfield 22, 3) := by decide +kernel
theorem dX2_takeLatest_30 : decode cX2_takeLatest 30 = .ok (.iadd, 1) := by decide +kernel
theorem dX2_takeLatest_31 : decode cX2_takeLatest 31 = .ok (.iconst 4, 1) := by decide +kernel
theorem dX2_takeLatest_32 : decode cX2_takeLatest 32 = .ok (.irem, 1) := by decide +kernel
theorem dX2_takeLatest_33 : decode cX2_takeLatest 33 = .ok (.aaload, 1) := by decide +kernel
theorem dX2_takeLatest_34 : decode cX2_takeLatest 34 = .ok (.invokevirtual 25, 3) := by decide +kernel
theorem dX2_takeLatest_37 : decode cX2_takeLatest 37 = .ok (.return_, 1) := by decide +kernel
theorem dX3_init_0 : decode cX3_init 0 = .ok (.aload_n 0, 1) := by decide +kernel
theorem dX3_init_1 : decode cX3_init 1 = .ok (.invokespecial 3, 3) := by decide +kernel
theorem dX3_init_4 : decode cX3_init 4 = .ok (.aload_n 0, 1) := by decide +kernel
theorem dX3_init_5 : decode cX3_init 5 = .ok (.bipush 20, 2) := by decide +kernel
theorem dX3_init_7 : decode cX3_init 7 = .ok (.newarray .int, 2) := by decide +kernel
theorem dX3_init_9 : decode cX3_init 9 = .ok (.putfield 9, 3) := by decide +kernel
theorem dX3_init_12 : decode cX3_init 12 = .ok (.aload_n 0, 1) := by decide +kernel
theorem dX3_init_13 : decode cX3_init 13 = .ok (.bipush 20, 2) := by decide +kernel
theorem dX3_init_15 : decode cX3_init 15 = .ok (.newarray .int, 2) := by decide +kernel
theorem dX3_init_17 : decode cX3_init 17 = .ok (.putfield 15, 3) := by decide +kernel
theorem dX3_init_20 : decode cX3_init 20 = .ok (.aload_n 0, 1) := by decide +kernel
theorem dX3_init_21 : decode cX3_init 21 = .ok (.bipush 60, 2) := by decide +kernel
theorem dX3_init_23 : decode cX3_init 23 = .ok (.newarray .int, 2) := by decide +kernel
theorem dX3_init_25 : decode cX3_init 25 = .ok (.putfield 18, 3) := by decide +kernel
theorem dX3_init_28 : decode cX3_init 28 = .ok (.aload_n 0, 1) := by decide +kernel
theorem dX3_init_29 : decode cX3_init 29 = .ok (.bipush 20, 2) := by decide +kernel
theorem dX3_init_31 : decode cX3_init 31 = .ok (.newarray .int, 2) := by decide +kernel
theorem dX3_init_33 : decode cX3_init 33 = .ok (.putfield 21, 3) := by decide +kernel
theorem dX3_init_36 : decode cX3_init 36 = .ok (.aload_n 0, 1) := by decide +kernel
theorem dX3_init_37 : decode cX3_init 37 = .ok (.bipush 120, 2) := by decide +kernel
theorem dX3_init_39 : decode cX3_init 39 = .ok (.newarray .int, 2) := by decide +kernel
theorem dX3_init_41 : decode cX3_init 41 = .ok (.putfield 24, 3) := by decide +kernel
theorem dX3_init_44 : decode cX3_init 44 = .ok (.iconst 0, 1) := by decide +kernel
theorem dX3_init_45 : decode cX3_init 45 = .ok (.istore_n 1, 1) := by decide +kernel
theorem dX3_init_46 : decode cX3_init 46 = .ok (.iload_n 1, 1) := by decide +kernel
theorem dX3_init_47 : decode cX3_init 47 = .ok (.bipush 20, 2) := by decide +kernel
theorem dX3_init_49 : decode cX3_init 49 = .ok (.if_icmp .ge 35, 3) := by decide +kernel
theorem dX3_init_52 : decode cX3_init 52 = .ok (.aload_n 0, 1) := by decide +kernel
theorem dX3_init_53 : decode cX3_init 53 = .ok (.getfield 9, 3) := by decide +kernel
theorem dX3_init_56 : decode cX3_init 56 = .ok (.iload_n 1, 1) := by decide +kernel
theorem dX3_init_57 : decode cX3_init 57 = .ok (.sipush 200, 3) := by decide +kernel
theorem dX3_init_60 : decode cX3_init 60 = .ok (.iload_n 1, 1) := by decide +kernel
theorem dX3_init_61 : decode cX3_init 61 = .ok (.iconst 5, 1) := by decide +kernel
theorem dX3_init_62 : decode cX3_init 62 = .ok (.irem, 1) := by decide +kernel
theorem dX3_init_63 : decode cX3_init 63 = .ok (.imul, 1) := by decide +kernel
theorem dX3_init_64 : decode cX3_init 64 = .ok (.iastore, 1) := by decide +kernel
theorem dX3_init_65 : decode cX3_init 65 = .ok (.aload_n 0, 1) := by decide +kernel
theorem dX3_init_66 : decode cX3_init 66 = .ok (.getfield 15, 3) := by decide +kernel
theorem dX3_init_69 : decode cX3_init 69 = .ok (.iload_n 1, 1) := by decide +kernel
theorem dX3_init_70 : decode cX3_init 70 = .ok (.sipush 200, 3) := by decide +kernel
theorem dX3_init_73 : decode cX3_init 73 = .ok (.iload_n 1, 1) := by decide +kernel
theorem dX3_init_74 : decode cX3_init 74 = .ok (.iconst 5, 1) := by decide +kernel
theorem dX3_init_75 : decode cX3_init 75 = .ok (.idiv, 1) := by decide +kernel
theorem dX3_init_76 : decode cX3_init 76 = .ok (.imul, 1) := by decide +kernel
theorem dX3_init_77 : decode cX3_init 77 = .ok (.iastore, 1) := by decide +kernel
theorem dX3_init_78 : decode cX3_init 78 = .ok (.iinc 1 1, 3) := by decide +kernel
theorem dX3_init_81 : decode cX3_init 81 = .ok (.goto (-35), 3) := by decide +kernel
theorem dX3_init_84 : decode cX3_init 84 = .ok (.iconst 0, 1) := by decide +kernel
theorem dX3_init_85 : decode cX3_init 85 = .ok (.istore_n 1, 1) := by decide +kernel
theorem dX3_init_86 : decode cX3_init 86 = .ok (.iload_n 1, 1) := by decide +kernel
theorem dX3_init_87 : decode cX3_init 87 = .ok (.aload_n 0, 1) := by decide +kernel
theorem dX3_init_88 : decode cX3_init 88 = .ok (.getfield 18, 3) := by decide +kernel
theorem dX3_init_91 : decode cX3_init 91 = .ok (.arraylength, 1) := by decide +kernel
theorem dX3_init_92 : decode cX3_init 92 = .ok (.if_icmp .ge 18, 3) := by decide +kernel
theorem dX3_init_95 : decode cX3_init 95 = .ok (.aload_n 0, 1) := by decide +kernel
theorem dX3_init_96 : decode cX3_init 96 = .ok (.getfield 18, 3) := by decide +kernel
theorem dX3_init_99 : decode cX3_init 99 = .ok (.iload_n 1, 1) := by decide +kernel
theorem dX3_init_100 : decode cX3_init 100 = .ok (.sipush 128, 3) := by decide +kernel
theorem dX3_init_103 : decode cX3_init 103 = .ok (.iastore, 1) := by decide +kernel
theorem dX3_init_104 : decode cX3_init 104 = .ok (.iinc 1 1, 3) := by decide +kernel
theorem dX3_init_107 : decode cX3_init 107 = .ok (.goto (-21), 3) := by decide +kernel
theorem dX3_init_110 : decode cX3_init 110 = .ok (.iconst 0, 1) := by decide +kernel
theorem dX3_init_111 : decode cX3_init 111 = .ok (.istore_n 1, 1) := by decide +kernel
theorem dX3_init_112 : decode cX3_init 112 = .ok (.iload_n 1, 1) := by decide +kernel
theorem dX3_init_113 : decode cX3_init 113 = .ok (.aload_n 0, 1) := by decide +kernel
theorem dX3_init_114 : decode cX3_init 114 = .ok (.getfield 24, 3) := by decide +kernel
theorem dX3_init_117 : decode cX3_init 117 = .ok (.arraylength, 1) := by decide +kernel
theorem dX3_init_118 : decode cX3_init 118 = .ok (.if_icmp .ge 18, 3) := by decide +kernel
theorem dX3_init_121 : decode cX3_init 121 = .ok (.aload_n 0, 1) := by decide +kernel
theorem dX3_init_122 : decode cX3_init 122 = .ok (.getfield 24, 3) := by decide +kernel
theorem dX3_init_125 : decode cX3_init 125 = .ok (.iload_n 1, 1) := by decide +kernel
theorem dX3_init_126 : decode cX3_init 126 = .ok (.sipush 1000, 3) := by decide +kernel
theorem dX3_init_129 : decode cX3_init 129 = .ok (.iastore, 1) := by decide +kernel
theorem dX3_init_130 : decode cX3_init 130 = .ok (.iinc 1 1, 3) := by decide +kernel
theorem dX3_init_133 : decode cX3_init 133 = .ok (.goto (-21), 3) := by decide +kernel
theorem dX3_init_136 : decode cX3_init 136 = .ok (.return_, 1) := by decide +kernel
theorem dX3_copyFrom_0 : decode cX3_copyFrom 0 = .ok (.aload_n 1, 1) := by decide +kernel
theorem dX3_copyFrom_1 : decode cX3_copyFrom 1 = .ok (.getfield 9, 3) := by decide +kernel
theorem dX3_copyFrom_4 : decode cX3_copyFrom 4 = .ok (.iconst 0, 1) := by decide +kernel
theorem dX3_copyFrom_5 : decode cX3_copyFrom 5 = .ok (.aload_n 0, 1) := by decide +kernel
theorem dX3_copyFrom_6 : decode cX3_copyFrom 6 = .ok (.getfield 9, 3) := by decide +kernel
theorem dX3_copyFrom_9 : decode cX3_copyFrom 9 = .ok (.iconst 0, 1) := by decide +kernel
theorem dX3_copyFrom_10 : decode cX3_copyFrom 10 = .ok (.bipush 20, 2) := by decide +kernel
theorem dX3_copyFrom_12 : decode cX3_copyFrom 12 = .ok (.invokestatic 27, 3) := by decide +kernel
theorem dX3_copyFrom_15 : decode cX3_copyFrom 15 = .ok (.aload_n 1, 1) := by decide +kernel
theorem dX3_copyFrom_16 : decode cX3_copyFrom 16 = .ok (.getfield 15, 3) := by decide +kernel
theorem dX3_copyFrom_19 : decode cX3_copyFrom 19 = .ok (.iconst 0, 1) := by decide +kernel
theorem dX3_copyFrom_20 : decode cX3_copyFrom 20 = .ok (.aload_n 0, 1) := by decide +kernel
theorem dX3_copyFrom_21 : decode cX3_copyFrom 21 = .ok (.getfield 15, 3) := by decide +kernel
theorem dX3_copyFrom_24 : decode cX3_copyFrom 24 = .ok (.iconst 0, 1) := by decide +kernel
theorem dX3_copyFrom_25 : decode cX3_copyFrom 25 = .ok (.bipush 20, 2) := by decide +kernel
theorem dX3_copyFrom_27 : decode cX3_copyFrom 27 = .ok (.invokestatic 27, 3) := by decide +kernel
theorem dX3_copyFrom_30 : decode cX3_copyFrom 30 = .ok (.aload_n 1, 1) := by decide +kernel
theorem dX3_copyFrom_31 : decode cX3_copyFrom 31 = .ok (.getfield 18, 3) := by decide +kernel
theorem dX3_copyFrom_34 : decode cX3_copyFrom 34 = .ok (.iconst 0, 1) := by decide +kernel
theorem dX3_copyFrom_35 : decode cX3_copyFrom 35 = .ok (.aload_n 0, 1) := by decide +kernel
theorem dX3_copyFrom_36 : decode cX3_copyFrom 36 = .ok (.getfield 18, 3) := by decide +kernel
theorem dX3_copyFrom_39 : decode cX3_copyFrom 39 = .ok (.iconst 0, 1) := by decide +kernel
theorem dX3_copyFrom_40 : decode cX3_copyFrom 40 = .ok (.bipush 60, 2) := by decide +kernel
theorem dX3_copyFrom_42 : decode cX3_copyFrom 42 = .ok (.invokestatic 27, 3) := by decide +kernel
theorem dX3_copyFrom_45 : decode cX3_copyFrom 45 = .ok (.aload_n 1, 1) := by decide +kernel
theorem dX3_copyFrom_46 : decode cX3_copyFrom 46 = .ok (.getfield 21, 3) := by decide +kernel
theorem dX3_copyFrom_49 : decode cX3_copyFrom 49 = .ok (.iconst 0, 1) := by decide +kernel
theorem dX3_copyFrom_50 : decode cX3_copyFrom 50 = .ok (.aload_n 0, 1) := by decide +kernel
theorem dX3_copyFrom_51 : decode cX3_copyFrom 51 = .ok (.getfield 21, 3) := by decide +kernel
theorem dX3_copyFrom_54 : decode cX3_copyFrom 54 = .ok (.iconst 0, 1) := by decide +kernel
theorem dX3_copyFrom_55 : decode cX3_copyFrom 55 = .ok (.bipush 20, 2) := by decide +kernel
theorem dX3_copyFrom_57 : decode cX3_copyFrom 57 = .ok (.invokestatic 27, 3) := by decide +kernel
theorem dX3_copyFrom_60 : decode cX3_copyFrom 60 = .ok (.aload_n 1, 1) := by decide +kernel
theorem dX3_copyFrom_61 : decode cX3_copyFrom 61 = .ok (.getfield 24, 3) := by decide +kernel
theorem dX3_copyFrom_64 : decode cX3_copyFrom 64 = .ok (.iconst 0, 1) := by decide +kernel
theorem dX3_copyFrom_65 : decode cX3_copyFrom 65 = .ok (.aload_n 0, 1) := by decide +kernel
theorem dX3_copyFrom_66 : decode cX3_copyFrom 66 = .ok (.getfield 24, 3) := by decide +kernel
theorem dX3_copyFrom_69 : decode cX3_copyFrom 69 = .ok (.iconst 0, 1) := by decide +kernel
theorem dX3_copyFrom_70 : decode cX3_copyFrom 70 = .ok (.bipush 120, 2) := by decide +kernel
theorem dX3_copyFrom_72 : decode cX3_copyFrom 72 = .ok (.invokestatic 27, 3) := by decide +kernel
theorem dX3_copyFrom_75 : decode cX3_copyFrom 75 = .ok (.return_, 1) := by decide +kernel
theorem dX3_holdCorner_0 : decode cX3_holdCorner 0 = .ok (.aload_n 0, 1) := by decide +kernel
theorem dX3_holdCorner_1 : decode cX3_holdCorner 1 = .ok (.getfield 21, 3) := by decide +kernel
theorem dX3_holdCorner_4 : decode cX3_holdCorner 4 = .ok (.iload_n 1, 1) := by decide +kernel
theorem dX3_holdCorner_5 : decode cX3_holdCorner 5 = .ok (.iconst 1, 1) := by decide +kernel
theorem dX3_holdCorner_6 : decode cX3_holdCorner 6 = .ok (.iastore, 1) := by decide +kernel
theorem dX3_holdCorner_7 : decode cX3_holdCorner 7 = .ok (.aload_n 0, 1) := by decide +kernel
theorem dX3_holdCorner_8 : decode cX3_holdCorner 8 = .ok (.getfield 18, 3) := by decide +kernel
theorem dX3_holdCorner_11 : decode cX3_holdCorner 11 = .ok (.iload_n 1, 1) := by decide +kernel
theorem dX3_holdCorner_12 : decode cX3_holdCorner 12 = .ok (.iconst 3, 1) := by decide +kernel
theorem dX3_holdCorner_13 : decode cX3_holdCorner 13 = .ok (.imul, 1) := by decide +kernel
theorem dX3_holdCorner_14 : decode cX3_holdCorner 14 = .ok (.iload_n 2, 1) := by decide +kernel
theorem dX3_holdCorner_15 : decode cX3_holdCorner 15 = .ok (.iastore, 1) := by decide +kernel
theorem dX3_holdCorner_16 : decode cX3_holdCorner 16 = .ok (.aload_n 0, 1) := by decide +kernel
theorem dX3_holdCorner_17 : decode cX3_holdCorner 17 = .ok (.getfield 18, 3) := by decide +kernel
theorem dX3_holdCorner_20 : decode cX3_holdCorner 20 = .ok (.iload_n 1, 1) := by decide +kernel
theorem dX3_holdCorner_21 : decode cX3_holdCorner 21 = .ok (.iconst 3, 1) := by decide +kernel
theorem dX3_holdCorner_22 : decode cX3_holdCorner 22 = .ok (.imul, 1) := by decide +kernel
theorem dX3_holdCorner_23 : decode cX3_holdCorner 23 = .ok (.iconst 1, 1) := by decide +kernel
theorem dX3_holdCorner_24 : decode cX3_holdCorner 24 = .ok (.iadd, 1) := by decide +kernel
theorem dX3_holdCorner_25 : decode cX3_holdCorner 25 = .ok (.iload_n 3, 1) := by decide +kernel
theorem dX3_holdCorner_26 : decode cX3_holdCorner 26 = .ok (.iastore, 1) := by decide +kernel
theorem dX3_holdCorner_27 : decode cX3_holdCorner 27 = .ok (.aload_n 0, 1) := by decide +kernel
theorem dX3_holdCorner_28 : decode cX3_holdCorner 28 = .ok (.getfield 18, 3) := by decide +kernel
theorem dX3_holdCorner_31 : decode cX3_holdCorner 31 = .ok (.iload_n 1, 1) := by decide +kernel
theorem dX3_holdCorner_32 : decode cX3_holdCorner 32 = .ok (.iconst 3, 1) := by decide +kernel
theorem dX3_holdCorner_33 : decode cX3_holdCorner 33 = .ok (.imul, 1) := by decide +kernel
theorem dX3_holdCorner_34 : decode cX3_holdCorner 34 = .ok (.iconst 2, 1) := by decide +kernel
theorem dX3_holdCorner_35 : decode cX3_holdCorner 35 = .ok (.iadd, 1) := by decide +kernel
theorem dX3_holdCorner_36 : decode cX3_holdCorner 36 = .ok (.iload 4, 2) := by decide +kernel
theorem dX3_holdCorner_38 : decode cX3_holdCorner 38 = .ok (.iastore, 1) := by decide +kernel
theorem dX3_holdCorner_39 : decode cX3_holdCorner 39 = .ok (.return_, 1) := by decide +kernel
theorem dX3_moveCorner_0 : decode cX3_moveCorner 0 = .ok (.aload_n 0, 1) := by decide +kernel
theorem dX3_moveCorner_1 : decode cX3_moveCorner 1 = .ok (.getfield 9, 3) := by decide +kernel
theorem dX3_moveCorner_4 : decode cX3_moveCorner 4 = .ok (.iload_n 1, 1) := by decide +kernel
theorem dX3_moveCorner_5 : decode cX3_moveCorner 5 = .ok (.iload_n 2, 1) := by decide +kernel
theorem dX3_moveCorner_6 : decode cX3_moveCorner 6 = .ok (.iastore, 1) := by decide +kernel
theorem dX3_moveCorner_7 : decode cX3_moveCorner 7 = .ok (.aload_n 0, 1) := by decide +kernel
theorem dX3_moveCorner_8 : decode cX3_moveCorner 8 = .ok (.getfield 15, 3) := by decide +kernel
theorem dX3_moveCorner_11 : decode cX3_moveCorner 11 = .ok (.iload_n 1, 1) := by decide +kernel
theorem dX3_moveCorner_12 : decode cX3_moveCorner 12 = .ok (.iload_n 3, 1) := by decide +kernel
theorem dX3_moveCorner_13 : decode cX3_moveCorner 13 = .ok (.iastore, 1) := by decide +kernel
theorem dX3_moveCorner_14 : decode cX3_moveCorner 14 = .ok (.return_, 1) := by decide +kernel
theorem dX3_loosen_0 : decode cX3_loosen 0 = .ok (.iconst 0, 1) := by decide +kernel
theorem dX3_loosen_1 : decode cX3_loosen 1 = .ok (.istore_n 2, 1) := by decide +kernel
theorem dX3_loosen_2 : decode cX3_loosen 2 = .ok (.iload_n 2, 1) := by decide +kernel
theorem dX3_loosen_3 : decode cX3_loosen 3 = .ok (.bipush 6, 2) := by decide +kernel
theorem dX3_loosen_5 : decode cX3_loosen 5 = .ok (.if_icmp .ge 23, 3) := by decide +kernel
theorem dX3_loosen_8 : decode cX3_loosen 8 = .ok (.aload_n 0, 1) := by decide +kernel
theorem dX3_loosen_9 : decode cX3_loosen 9 = .ok (.getfield 24, 3) := by decide +kernel
theorem dX3_loosen_12 : decode cX3_loosen 12 = .ok (.iload_n 1, 1) := by decide +kernel
theorem dX3_loosen_13 : decode cX3_loosen 13 = .ok (.bipush 6, 2) := by decide +kernel
theorem dX3_loosen_15 : decode cX3_loosen 15 = .ok (.imul, 1) := by decide +kernel
theorem dX3_loosen_16 : decode cX3_loosen 16 = .ok (.iload_n 2, 1) := by decide +kernel
theorem dX3_loosen_17 : decode cX3_loosen 17 = .ok (.iadd, 1) := by decide +kernel
theorem dX3_loosen_18 : decode cX3_loosen 18 = .ok (.sipush 1000, 3) := by decide +kernel
theorem dX3_loosen_21 : decode cX3_loosen 21 = .ok (.iastore, 1) := by decide +kernel
theorem dX3_loosen_22 : decode cX3_loosen 22 = .ok (.iinc 2 1, 3) := by decide +kernel
theorem dX3_loosen_25 : decode cX3_loosen 25 = .ok (.goto (-23), 3) := by decide +kernel
theorem dX3_loosen_28 : decode cX3_loosen 28 = .ok (.return_, 1) := by decide +kernel
theorem dX3_partOf_0 : decode cX3_partOf 0 = .ok (.aload_n 0, 1) := by decide +kernel
theorem dX3_partOf_1 : decode cX3_partOf 1 = .ok (.getfield 18, 3) := by decide +kernel
theorem dX3_partOf_4 : decode cX3_partOf 4 = .ok (.iload_n 1, 1) := by decide +kernel
theorem dX3_partOf_5 : decode cX3_partOf 5 = .ok (.iconst 3, 1) := by decide +kernel
theorem dX3_partOf_6 : decode cX3_partOf 6 = .ok (.imul, 1) := by decide +kernel
theorem dX3_partOf_7 : decode cX3_partOf 7 = .ok (.iload_n 2, 1) := by decide +kernel
theorem dX3_partOf_8 : decode cX3_partOf 8 = .ok (.iadd, 1) := by decide +kernel
theorem dX3_partOf_9 : decode cX3_partOf 9 = .ok (.iaload, 1) := by decide +kernel
theorem dX3_partOf_10 : decode cX3_partOf 10 = .ok (.ireturn, 1) := by decide +kernel
set_option maxRecDepth 20000 in
theorem ggX3_slopeOf_X7_slopeIndex : GoodIn wsX3_slopeOf wsX7_slopeIndex := goodIn_r _ [4] (by decide +kernel) (by decide +kernel)
set_option maxRecDepth 20000 in
theorem gX3_slopeOf_X7_slopeIndex_n33 : GoodIn wsX3_slopeOf (wsX7_slopeIndex) := ggX3_slopeOf_X7_slopeIndex
set_option maxRecDepth 20000 in
theorem ggX3_slopeOf_X3_slopeFromBeside : GoodIn wsX3_slopeOf wsX3_slopeFromBeside := goodIn_r _ [9, 10, 11, 12, 8, 13, 14, 15, 16, 17, 18, 19, 20, 21, 22, 23] (by decide +kernel) (by decide +kernel)
set_option maxRecDepth 20000 in
theorem gX3_slopeOf_X3_slopeFromBeside : GoodIn wsX3_slopeOf (wsV RX3 37 RX3 yX3_slopeFromBeside wsX3_slopeFromBeside) := goodIn_app (goodIn_of _ (by decide +kernel)) ggX3_slopeOf_X3_slopeFromBeside
theorem dX3_slopeOf_0 : decode cX3_slopeOf 0 = .ok (.aload_n 0, 1) := by decide +kernel
theorem dX3_slopeOf_1 : decode cX3_slopeOf 1 = .ok (.getfield 24, 3) := by decide +kernel
theorem dX3_slopeOf_4 : decode cX3_slopeOf 4 = .ok (.iload_n 1, 1) := by decide +kernel
theorem dX3_slopeOf_5 : decode cX3_slopeOf 5 = .ok (.iload_n 2, 1) := by decide +kernel
theorem dX3_slopeOf_6 : decode cX3_slopeOf 6 = .ok (.iload_n 3, 1) := by decide +kernel
theorem dX3_slopeOf_7 : decode cX3_slopeOf 7 = .ok (.invokestatic 33, 3) := by decide +kernel
theorem dX3_slopeOf_10 : decode cX3_slopeOf 10 = .ok (.iaload, 1) := by decide +kernel
theorem dX3_slopeOf_11 : decode cX3_slopeOf 11 = .ok (.istore 4, 2) := by decide +kernel
theorem dX3_slopeOf_13 : decode cX3_slopeOf 13 = .ok (.iload 4, 2) := by decide +kernel
theorem dX3_slopeOf_15 : decode cX3_slopeOf 15 = .ok (.sipush 1000, 3) := by decide +kernel
theorem dX3_slopeOf_18 : decode cX3_slopeOf 18 = .ok (.if_icmp .eq 8, 3) := by decide +kernel
theorem dX3_slopeOf_21 : decode cX3_slopeOf 21 = .ok (.iload 4, 2) := by decide +kernel
theorem dX3_slopeOf_23 : decode cX3_slopeOf 23 = .ok (.goto 10, 3) := by decide +kernel
theorem dX3_slopeOf_26 : decode cX3_slopeOf 26 = .ok (.aload_n 0, 1) := by decide +kernel
theorem dX3_slopeOf_27 : decode cX3_slopeOf 27 = .ok (.iload_n 1, 1) := by decide +kernel
theorem dX3_slopeOf_28 : decode cX3_slopeOf 28 = .ok (.iload_n 2, 1) := by decide +kernel
theorem dX3_slopeOf_29 : decode cX3_slopeOf 29 = .ok (.iload_n 3, 1) := by decide +kernel
theorem dX3_slopeOf_30 : decode cX3_slopeOf 30 = .ok (.invokevirtual 37, 3) := by decide +kernel
theorem dX3_slopeOf_33 : decode cX3_slopeOf 33 = .ok (.ireturn, 1) := by decide +kernel
set_option maxRecDepth 20000 in
theorem ggX3_slopeFromBeside_X3_partOf : GoodIn wsX3_slopeFromBeside wsX3_partOf := goodIn_r _ [5, 6, 11, 12, 13, 14, 15] (by decide +kernel) (by decide +kernel)
set_option maxRecDepth 20000 in
theorem gX3_slopeFromBeside_X3_partOf : GoodIn wsX3_slopeFromBeside (wsV RX3 40 RX3 yX3_partOf wsX3_partOf) := goodIn_app (goodIn_of _ (by decide +kernel)) ggX3_slopeFromBeside_X3_partOf
set_option maxRecDepth 20000 in
theorem ggX3_slopeFromBeside_J9_floorDiv_7cf53 : GoodIn wsX3_slopeFromBeside wsJ9_floorDiv_7cf53 := goodIn_r _ [10] (by decide +kernel) (by decide +kernel)
set_option maxRecDepth 20000 in
theorem gX3_slopeFromBeside_J9_floorDiv_7cf53 : GoodIn wsX3_slopeFromBeside (va_wsS RX3 44 yJ9_floorDiv_7cf53 wsJ9_floorDiv_7cf53) := goodIn_app (goodIn_of _ (by decide +kernel)) ggX3_slopeFromBeside_J9_floorDiv_7cf53
theorem dX3_slopeFromBeside_0 : decode cX3_slopeFromBeside 0 = .ok (.iload_n 2, 1) := by decide +kernel
theorem dX3_slopeFromBeside_1 : decode cX3_slopeFromBeside 1 = .ok (.ifCond .ne 9, 3) := by decide +kernel
theorem dX3_slopeFromBeside_4 : decode cX3_slopeFromBeside 4 = .ok (.iload_n 1, 1) := by decide +kernel
theorem dX3_slopeFromBeside_5 : decode cX3_slopeFromBeside 5 = .ok (.iconst 5, 1) := by decide +kernel
theorem dX3_slopeFromBeside_6 : decode cX3_slopeFromBeside 6 = .ok (.irem, 1) := by decide +kernel
theorem dX3_slopeFromBeside_7 : decode cX3_slopeFromBeside 7 = .ok (.goto 6, 3) := by decide +kernel
theorem dX3_slopeFromBeside_10 : decode cX3_slopeFromBeside 10 = .ok (.iload_n 1, 1) := by decide +kernel
theorem dX3_slopeFromBeside_11 : decode cX3_slopeFromBeside 11 = .ok (.iconst 5, 1) := by decide +kernel
theorem dX3_slopeFromBeside_12 : decode cX3_slopeFromBeside 12 = .ok (.idiv, 1) := by decide +kernel
theorem dX3_slopeFromBeside_13 : decode cX3_slopeFromBeside 13 = .ok (.istore 4, 2) := by decide +kernel
theorem dX3_slopeFromBeside_15 : decode cX3_slopeFromBeside 15 = .ok (.iload_n 2, 1) := by decide +kernel
theorem dX3_slopeFromBeside_16 : decode cX3_slopeFromBeside 16 = .ok (.ifCond .ne 7, 3) := by decide +kernel
theorem dX3_slopeFromBeside_19 : decode cX3_slopeFromBeside 19 = .ok (.iconst 4, 1) := by decide +kernel
theorem dX3_slopeFromBeside_20 : decode cX3_slopeFromBeside 20 = .ok (.goto 4, 3) := by decide +kernel
theorem dX3_slopeFromBeside_23 : decode cX3_slopeFromBeside 23 = .ok (.iconst 3, 1) := by decide +kernel
theorem dX3_slopeFromBeside_24 : decode cX3_slopeFromBeside 24 = .ok (.istore 5, 2) := by decide +kernel
theorem dX3_slopeFromBeside_26 : decode cX3_slopeFromBeside 26 = .ok (.iload_n 2, 1) := by decide +kernel
theorem dX3_slopeFromBeside_27 : decode cX3_slopeFromBeside 27 = .ok (.ifCond .ne 7, 3) := by decide +kernel
theorem dX3_slopeFromBeside_30 : decode cX3_slopeFromBeside 30 = .ok (.iconst 1, 1) := by decide +kernel
theorem dX3_slopeFromBeside_31 : decode cX3_slopeFromBeside 31 = .ok (.goto 4, 3) := by decide +kernel
theorem dX3_slopeFromBeside_34 : decode cX3_slopeFromBeside 34 = .ok (.iconst 5, 1) := by decide +kernel
theorem dX3_slopeFromBeside_35 : decode cX3_slopeFromBeside 35 = .ok (.istore 6, 2) := by decide +kernel
theorem dX3_slopeFromBeside_37 : decode cX3_slopeFromBeside 37 = .ok (.iload 4, 2) := by decide +kernel
theorem dX3_slopeFromBeside_39 : decode cX3_slopeFromBeside 39 = .ok (.ifCond .ne 20, 3) := by decide +kernel
theorem dX3_slopeFromBeside_42 : decode cX3_slopeFromBeside 42 = .ok (.aload_n 0, 1) := by decide +kernel
theorem dX3_slopeFromBeside_43 : decode cX3_slopeFromBeside 43 = .ok (.iload_n 1, 1) := by decide +kernel
theorem dX3_slopeFromBeside_44 : decode cX3_slopeFromBeside 44 = .ok (.iload 6, 2) := by decide +kernel
theorem dX3_slopeFromBeside_46 : decode cX3_slopeFromBeside 46 = .ok (.iadd, 1) := by decide +kernel
theorem dX3_slopeFromBeside_47 : decode cX3_slopeFromBeside 47 = .ok (.iload_n 3, 1) := by decide +kernel
theorem dX3_slopeFromBeside_48 : decode cX3_slopeFromBeside 48 = .ok (.invokevirtual 40, 3) := by decide +kernel
theorem dX3_slopeFromBeside_51 : decode cX3_slopeFromBeside 51 = .ok (.aload_n 0, 1) := by decide +kernel
theorem dX3_slopeFromBeside_52 : decode cX3_slopeFromBeside 52 = .ok (.iload_n 1, 1) := by decide +kernel
theorem dX3_slopeFromBeside_53 : decode cX3_slopeFromBeside 53 = .ok (.iload_n 3, 1) := by decide +kernel
theorem dX3_slopeFromBeside_54 : decode cX3_slopeFromBeside 54 = .ok (.invokevirtual 40, 3) := by decide +kernel
theorem dX3_slopeFromBeside_57 : decode cX3_slopeFromBeside 57 = .ok (.isub, 1) := by decide +kernel
theorem dX3_slopeFromBeside_58 : decode cX3_slopeFromBeside 58 = .ok (.ireturn, 1) := by decide +kernel
theorem dX3_slopeFromBeside_59 : decode cX3_slopeFromBeside 59 = .ok (.iload 4, 2) := by decide +kernel
theorem dX3_slopeFromBeside_61 : decode cX3_slopeFromBeside 61 = .ok (.iload 5, 2) := by decide +kernel
theorem dX3_slopeFromBeside_63 : decode cX3_slopeFromBeside 63 = .ok (.if_icmp .ne 20, 3) := by decide +kernel
theorem dX3_slopeFromBeside_66 : decode cX3_slopeFromBeside 66 = .ok (.aload_n 0, 1) := by decide +kernel
theorem dX3_slopeFromBeside_67 : decode cX3_slopeFromBeside 67 = .ok (.iload_n 1, 1) := by decide +kernel
theorem dX3_slopeFromBeside_68 : decode cX3_slopeFromBeside 68 = .ok (.iload_n 3, 1) := by decide +kernel
theorem dX3_slopeFromBeside_69 : decode cX3_slopeFromBeside 69 = .ok (.invokevirtual 40, 3) := by decide +kernel
theorem dX3_slopeFromBeside_72 : decode cX3_slopeFromBeside 72 = .ok (.aload_n 0, 1) := by decide +kernel
theorem dX3_slopeFromBeside_73 : decode cX3_slopeFromBeside 73 = .ok (.iload_n 1, 1) := by decide +kernel
theorem dX3_slopeFromBeside_74 : decode cX3_slopeFromBeside 74 = .ok (.iload 6, 2) := by decide +kernel
theorem dX3_slopeFromBeside_76 : decode cX3_slopeFromBeside 76 = .ok (.isub, 1) := by decide +kernel
theorem dX3_slopeFromBeside_77 : decode cX3_slopeFromBeside 77 = .ok (.iload_n 3, 1) := by decide +kernel
theorem dX3_slopeFromBeside_78 : decode cX3_slopeFromBeside 78 = .ok (.invokevirtual 40, 3) := by decide +kernel
theorem dX3_slopeFromBeside_81 : decode cX3_slopeFromBeside 81 = .ok (.isub, 1) := by decide +kernel
theorem dX3_slopeFromBeside_82 : decode cX3_slopeFromBeside 82 = .ok (.ireturn, 1) := by decide +kernel
theorem dX3_slopeFromBeside_83 : decode cX3_slopeFromBeside 83 = .ok (.aload_n 0, 1) := by decide +kernel
theorem dX3_slopeFromBeside_84 : decode cX3_slopeFromBeside 84 = .ok (.iload_n 1, 1) := by decide +kernel
theorem dX3_slopeFromBeside_85 : decode cX3_slopeFromBeside 85 = .ok (.iload 6, 2) := by decide +kernel
theorem dX3_slopeFromBeside_87 : decode cX3_slopeFromBeside 87 = .ok (.iadd, 1) := by decide +kernel
theorem dX3_slopeFromBeside_88 : decode cX3_slopeFromBeside 88 = .ok (.iload_n 3, 1) := by decide +kernel
theorem dX3_slopeFromBeside_89 : decode cX3_slopeFromBeside 89 = .ok (.invokevirtual 40, 3) := by decide +kernel
theorem dX3_slopeFromBeside_92 : decode cX3_slopeFromBeside 92 = .ok (.aload_n 0, 1) := by decide +kernel
theorem dX3_slopeFromBeside_93 : decode cX3_slopeFromBeside 93 = .ok (.iload_n 1, 1) := by decide +kernel
theorem dX3_slopeFromBeside_94 : decode cX3_slopeFromBeside 94 = .ok (.iload 6, 2) := by decide +kernel
theorem dX3_slopeFromBeside_96 : decode cX3_slopeFromBeside 96 = .ok (.isub, 1) := by decide +kernel
theorem dX3_slopeFromBeside_97 : decode cX3_slopeFromBeside 97 = .ok (.iload_n 3, 1) := by decide +kernel
theorem dX3_slopeFromBeside_98 : decode cX3_slopeFromBeside 98 = .ok (.invokevirtual 40, 3) := by decide +kernel
theorem dX3_slopeFromBeside_101 : decode cX3_slopeFromBeside 101 = .ok (.isub, 1) := by decide +kernel
theorem dX3_slopeFromBeside_102 : decode cX3_slopeFromBeside 102 = .ok (.iconst 2, 1) := by decide +kernel
theorem dX3_slopeFromBeside_103 : decode cX3_slopeFromBeside 103 = .ok (.invokestatic 44, 3) := by decide +kernel
theorem dX3_slopeFromBeside_106 : decode cX3_slopeFromBeside 106 = .ok (.ireturn, 1) := by decide +kernel
theorem dX3_toldSlopesOf_0 : decode cX3_toldSlopesOf 0 = .ok (.iconst 0, 1) := by decide +kernel
theorem dX3_toldSlopesOf_1 : decode cX3_toldSlopesOf 1 = .ok (.istore_n 2, 1) := by decide +kernel
theorem dX3_toldSlopesOf_2 : decode cX3_toldSlopesOf 2 = .ok (.iconst 0, 1) := by decide +kernel
theorem dX3_toldSlopesOf_3 : decode cX3_toldSlopesOf 3 = .ok (.istore_n 3, 1) := by decide +kernel
theorem dX3_toldSlopesOf_4 : decode cX3_toldSlopesOf 4 = .ok (.iload_n 3, 1) := by decide +kernel
theorem dX3_toldSlopesOf_5 : decode cX3_toldSlopesOf 5 = .ok (.bipush 6, 2) := by decide +kernel
theorem dX3_toldSlopesOf_7 : decode cX3_toldSlopesOf 7 = .ok (.if_icmp .ge 29, 3) := by decide +kernel
theorem dX3_toldSlopesOf_10 : decode cX3_toldSlopesOf 10 = .ok (.aload_n 0, 1) := by decide +kernel
theorem dX3_toldSlopesOf_11 : decode cX3_toldSlopesOf 11 = .ok (.getfield 24, 3) := by decide +kernel
theorem dX3_toldSlopesOf_14 : decode cX3_toldSlopesOf 14 = .ok (.iload_n 1, 1) := by decide +kernel
theorem dX3_toldSlopesOf_15 : decode cX3_toldSlopesOf 15 = .ok (.bipush 6, 2) := by decide +kernel
theorem dX3_toldSlopesOf_17 : decode cX3_toldSlopesOf 17 = .ok (.imul, 1) := by decide +kernel
theorem dX3_toldSlopesOf_18 : decode cX3_toldSlopesOf 18 = .ok (.iload_n 3, 1) := by decide +kernel
theorem dX3_toldSlopesOf_19 : decode cX3_toldSlopesOf 19 = .ok (.iadd, 1) := by decide +kernel
theorem dX3_toldSlopesOf_20 : decode cX3_toldSlopesOf 20 = .ok (.iaload, 1) := by decide +kernel
theorem dX3_toldSlopesOf_21 : decode cX3_toldSlopesOf 21 = .ok (.sipush 1000, 3) := by decide +kernel
theorem dX3_toldSlopesOf_24 : decode cX3_toldSlopesOf 24 = .ok (.if_icmp .eq 6, 3) := by decide +kernel
theorem dX3_toldSlopesOf_27 : decode cX3_toldSlopesOf 27 = .ok (.iinc 2 1, 3) := by decide +kernel
theorem dX3_toldSlopesOf_30 : decode cX3_toldSlopesOf 30 = .ok (.iinc 3 1, 3) := by decide +kernel
theorem dX3_toldSlopesOf_33 : decode cX3_toldSlopesOf 33 = .ok (.goto (-29), 3) := by decide +kernel
theorem dX3_toldSlopesOf_36 : decode cX3_toldSlopesOf 36 = .ok (.iload_n 2, 1) := by decide +kernel
theorem dX3_toldSlopesOf_37 : decode cX3_toldSlopesOf 37 = .ok (.ireturn, 1) := by decide +kernel
set_option maxRecDepth 20000 in
theorem ggX3_toldSlopes_X3_toldSlopesOf : GoodIn wsX3_toldSlopes wsX3_toldSlopesOf := goodIn_r _ [5, 6, 7, 8, 9, 10, 11] (by decide +kernel) (by decide +kernel)
set_option maxRecDepth 20000 in
theorem gX3_toldSlopes_X3_toldSlopesOf : GoodIn wsX3_toldSlopes (wsV RX3 49 RX3 yX3_toldSlopesOf wsX3_toldSlopesOf) := goodIn_app (goodIn_of _ (by decide +kernel)) ggX3_toldSlopes_X3_toldSlopesOf
theorem dX3_toldSlopes_0 : decode cX3_toldSlopes 0 = .ok (.iconst 0, 1) := by decide +kernel
theorem dX3_toldSlopes_1 : decode cX3_toldSlopes 1 = .ok (.istore_n 1, 1) := by decide +kernel
theorem dX3_toldSlopes_2 : decode cX3_toldSlopes 2 = .ok (.iconst 0, 1) := by decide +kernel
theorem dX3_toldSlopes_3 : decode cX3_toldSlopes 3 = .ok (.istore_n 2, 1) := by decide +kernel
theorem dX3_toldSlopes_4 : decode cX3_toldSlopes 4 = .ok (.iload_n 2, 1) := by decide +kernel
theorem dX3_toldSlopes_5 : decode cX3_toldSlopes 5 = .ok (.bipush 20, 2) := by decide +kernel
theorem dX3_toldSlopes_7 : decode cX3_toldSlopes 7 = .ok (.if_icmp .ge 17, 3) := by decide +kernel
theorem dX3_toldSlopes_10 : decode cX3_toldSlopes 10 = .ok (.iload_n 1, 1) := by decide +kernel
theorem dX3_toldSlopes_11 : decode cX3_toldSlopes 11 = .ok (.aload_n 0, 1) := by decide +kernel
theorem dX3_toldSlopes_12 : decode cX3_toldSlopes 12 = .ok (.iload_n 2, 1) := by decide +kernel
theorem dX3_toldSlopes_13 : decode cX3_toldSlopes 13 = .ok (.invokevirtual 49, 3) := by decide +kernel
theorem dX3_toldSlopes_16 : decode cX3_toldSlopes 16 = .ok (.iadd, 1) := by decide +kernel
theorem dX3_toldSlopes_17 : decode cX3_toldSlopes 17 = .ok (.istore_n 1, 1) := by decide +kernel
theorem dX3_toldSlopes_18 : decode cX3_toldSlopes 18 = .ok (.iinc 2 1, 3) := by decide +kernel
theorem dX3_toldSlopes_21 : decode cX3_toldSlopes 21 = .ok (.goto (-17), 3) := by decide +kernel
theorem dX3_toldSlopes_24 : decode cX3_toldSlopes 24 = .ok (.iload_n 1, 1) := by decide +kernel
theorem dX3_toldSlopes_25 : decode cX3_toldSlopes 25 = .ok (.ireturn, 1) := by decide +kernel
theorem dX3_heldCorners_0 : decode cX3_heldCorners 0 = .ok (.iconst 0, 1) := by decide +kernel
theorem dX3_heldCorners_1 : decode cX3_heldCorners 1 = .ok (.istore_n 1, 1) := by decide +kernel
theorem dX3_heldCorners_2 : decode cX3_heldCorners 2 = .ok (.iconst 0, 1) := by decide +kernel
theorem dX3_heldCorners_3 : decode cX3_heldCorners 3 = .ok (.istore_n 2, 1) := by decide +kernel
theorem dX3_heldCorners_4 : decode cX3_heldCorners 4 = .ok (.iload_n 2, 1) := by decide +kernel
theorem dX3_heldCorners_5 : decode cX3_heldCorners 5 = .ok (.bipush 20, 2) := by decide +kernel
theorem dX3_heldCorners_7 : decode cX3_heldCorners 7 = .ok (.if_icmp .ge 18, 3) := by decide +kernel
theorem dX3_heldCorners_10 : decode cX3_heldCorners 10 = .ok (.iload_n 1, 1) := by decide +kernel
theorem dX3_heldCorners_11 : decode cX3_heldCorners 11 = .ok (.aload_n 0, 1) := by decide +kernel
theorem dX3_heldCorners_12 : decode cX3_heldCorners 12 = .ok (.getfield 21, 3) := by decide +kernel
theorem dX3_heldCorners_15 : decode cX3_heldCorners 15 = .ok (.iload_n 2, 1) := by decide +kernel
theorem dX3_heldCorners_16 : decode cX3_heldCorners 16 = .ok (.iaload, 1) := by decide +kernel
theorem dX3_heldCorners_17 : decode cX3_heldCorners 17 = .ok (.iadd, 1) := by decide +kernel
theorem dX3_heldCorners_18 : decode cX3_heldCorners 18 = .ok (.istore_n 1, 1) := by decide +kernel
theorem dX3_heldCorners_19 : decode cX3_heldCorners 19 = .ok (.iinc 2 1, 3) := by decide +kernel
theorem dX3_heldCorners_22 : decode cX3_heldCorners 22 = .ok (.goto (-18), 3) := by decide +kernel
theorem dX3_heldCorners_25 : decode cX3_heldCorners 25 = .ok (.iload_n 1, 1) := by decide +kernel
theorem dX3_heldCorners_26 : decode cX3_heldCorners 26 = .ok (.ireturn, 1) := by decide +kernel
set_option maxRecDepth 20000 in
theorem ggX3_heldCornersOf_X7_cornerOfPatch : GoodIn wsX3_heldCornersOf wsX7_cornerOfPatch := goodIn_r _ [4, 5, 6, 3, 7] (by decide +kernel) (by decide +kernel)
set_option maxRecDepth 20000 in
theorem gX3_heldCornersOf_X7_cornerOfPatch_n53 : GoodIn wsX3_heldCornersOf (wsX7_cornerOfPatch) := ggX3_heldCornersOf_X7_cornerOfPatch
theorem dX3_heldCornersOf_0 : decode cX3_heldCornersOf 0 = .ok (.iconst 0, 1) := by decide +kernel
theorem dX3_heldCornersOf_1 : decode cX3_heldCornersOf 1 = .ok (.istore_n 2, 1) := by decide +kernel
theorem dX3_heldCornersOf_2 : decode cX3_heldCornersOf 2 = .ok (.iconst 0, 1) := by decide +kernel
theorem dX3_heldCornersOf_3 : decode cX3_heldCornersOf 3 = .ok (.istore_n 3, 1) := by decide +kernel
theorem dX3_heldCornersOf_4 : decode cX3_heldCornersOf 4 = .ok (.iload_n 3, 1) := by decide +kernel
theorem dX3_heldCornersOf_5 : decode cX3_heldCornersOf 5 = .ok (.iconst 4, 1) := by decide +kernel
theorem dX3_heldCornersOf_6 : decode cX3_heldCornersOf 6 = .ok (.if_icmp .ge 22, 3) := by decide +kernel
theorem dX3_heldCornersOf_9 : decode cX3_heldCornersOf 9 = .ok (.iload_n 2, 1) := by decide +kernel
theorem dX3_heldCornersOf_10 : decode cX3_heldCornersOf 10 = .ok (.aload_n 0, 1) := by decide +kernel
theorem dX3_heldCornersOf_11 : decode cX3_heldCornersOf 11 = .ok (.getfield 21, 3) := by decide +kernel
theorem dX3_heldCornersOf_14 : decode cX3_heldCornersOf 14 = .ok (.iload_n 1, 1) := by decide +kernel
theorem dX3_heldCornersOf_15 : decode cX3_heldCornersOf 15 = .ok (.iload_n 3, 1) := by decide +kernel
theorem dX3_heldCornersOf_16 : decode cX3_heldCornersOf 16 = .ok (.invokestatic 53, 3) := by decide +kernel
theorem dX3_heldCornersOf_19 : decode cX3_heldCornersOf 19 = .ok (.iaload, 1) := by decide +kernel
theorem dX3_heldCornersOf_20 : decode cX3_heldCornersOf 20 = .ok (.iadd, 1) := by decide +kernel
theorem dX3_heldCornersOf_21 : decode cX3_heldCornersOf 21 = .ok (.istore_n 2, 1) := by decide +kernel
theorem dX3_heldCornersOf_22 : decode cX3_heldCornersOf 22 = .ok (.iinc 3 1, 3) := by decide +kernel
theorem dX3_heldCornersOf_25 : decode cX3_heldCornersOf 25 = .ok (.goto (-21), 3) := by decide +kernel
theorem dX3_heldCornersOf_28 : decode cX3_heldCornersOf 28 = .ok (.iload_n 2, 1) := by decide +kernel
theorem dX3_heldCornersOf_29 : decode cX3_heldCornersOf 29 = .ok (.ireturn, 1) := by decide +kernel
set_option maxRecDepth 20000 in
theorem ggX3_takeRound_X3_takeFromBeside : GoodIn wsX3_takeRound wsX3_takeFromBeside := goodIn_r _ [6, 7, 8, 9, 10, 5, 11, 12, 13, 14, 15, 16, 17, 18, 19, 20] (by decide +kernel) (by decide +kernel)
set_option maxRecDepth 20000 in
theorem gX3_takeRound_X3_takeFromBeside : GoodIn wsX3_takeRound (wsV RX3 56 RX3 yX3_takeFromBeside wsX3_takeFromBeside) := goodIn_app (goodIn_of _ (by decide +kernel)) ggX3_takeRound_X3_takeFromBeside
theorem dX3_takeRound_0 : decode cX3_takeRound 0 = .ok (.iconst 0, 1) := by decide +kernel
theorem dX3_takeRound_1 : decode cX3_takeRound 1 = .ok (.istore_n 2, 1) := by decide +kernel
theorem dX3_takeRound_2 : decode cX3_takeRound 2 = .ok (.iconst 0, 1) := by decide +kernel
theorem dX3_takeRound_3 : decode cX3_takeRound 3 = .ok (.istore_n 3, 1) := by decide +kernel
theorem dX3_takeRound_4 : decode cX3_takeRound 4 = .ok (.iload_n 3, 1) := by decide +kernel
theorem dX3_takeRound_5 : decode cX3_takeRound 5 = .ok (.bipush 20, 2) := by decide +kernel
theorem dX3_takeRound_7 : decode cX3_takeRound 7 = .ok (.if_icmp .ge 30, 3) := by decide +kernel
theorem dX3_takeRound_10 : decode cX3_takeRound 10 = .ok (.aload_n 0, 1) := by decide +kernel
theorem dX3_takeRound_11 : decode cX3_takeRound 11 = .ok (.getfield 21, 3) := by decide +kernel
theorem dX3_takeRound_14 : decode cX3_takeRound 14 = .ok (.iload_n 3, 1) := by decide +kernel
theorem dX3_takeRound_15 : decode cX3_takeRound 15 = .ok (.iaload, 1) := by decide +kernel
theorem dX3_takeRound_16 : decode cX3_takeRound 16 = .ok (.ifCond .ne 15, 3) := by decide +kernel
theorem dX3_takeRound_19 : decode cX3_takeRound 19 = .ok (.aload_n 0, 1) := by decide +kernel
theorem dX3_takeRound_20 : decode cX3_takeRound 20 = .ok (.iload_n 3, 1) := by decide +kernel
theorem dX3_takeRound_21 : decode cX3_takeRound 21 = .ok (.aload_n 1, 1) := by decide +kernel
theorem dX3_takeRound_22 : decode cX3_takeRound 22 = .ok (.invokevirtual 56, 3) := by decide +kernel
theorem dX3_takeRound_25 : decode cX3_takeRound 25 = .ok (.ifCond .eq 6, 3) := by decide +kernel
theorem dX3_takeRound_28 : decode cX3_takeRound 28 = .ok (.iinc 2 1, 3) := by decide +kernel
theorem dX3_takeRound_31 : decode cX3_takeRound 31 = .ok (.iinc 3 1, 3) := by decide +kernel
theorem dX3_takeRound_34 : decode cX3_takeRound 34 = .ok (.goto (-30), 3) := by decide +kernel
theorem dX3_takeRound_37 : decode cX3_takeRound 37 = .ok (.iload_n 2, 1) := by decide +kernel
theorem dX3_takeRound_38 : decode cX3_takeRound 38 = .ok (.ireturn, 1) := by decide +kernel
set_option maxRecDepth 20000 in
theorem ggX3_takeFromBeside_X3_meanBeside : GoodIn wsX3_takeFromBeside wsX3_meanBeside := goodIn_r _ [6, 7, 8, 9, 5, 10, 1, 11, 12, 13, 14, 15] (by decide +kernel) (by decide +kernel)
set_option maxRecDepth 20000 in
theorem gX3_takeFromBeside_X3_meanBeside : GoodIn wsX3_takeFromBeside (wsV RX3 60 RX3 yX3_meanBeside wsX3_meanBeside) := goodIn_app (goodIn_of _ (by decide +kernel)) ggX3_takeFromBeside_X3_meanBeside
set_option maxRecDepth 20000 in
theorem ggX3_takeFromBeside_X3_partOf : GoodIn wsX3_takeFromBeside wsX3_partOf := goodIn_r _ [10, 1, 11, 12, 13, 14, 15] (by decide +kernel) (by decide +kernel)
set_option maxRecDepth 20000 in
theorem gX3_takeFromBeside_X3_partOf : GoodIn wsX3_takeFromBeside (wsV RX3 40 RX3 yX3_partOf wsX3_partOf) := goodIn_app (goodIn_of _ (by decide +kernel)) ggX3_takeFromBeside_X3_partOf
theorem dX3_takeFromBeside_0 : decode cX3_takeFromBeside 0 = .ok (.iconst 0, 1) := by decide +kernel
theorem dX3_takeFromBeside_1 : decode cX3_takeFromBeside 1 = .ok (.istore_n 3, 1) := by decide +kernel
theorem dX3_takeFromBeside_2 : decode cX3_takeFromBeside 2 = .ok (.iconst 0, 1) := by decide +kernel
theorem dX3_takeFromBeside_3 : decode cX3_takeFromBeside 3 = .ok (.istore 4, 2) := by decide +kernel
theorem dX3_takeFromBeside_5 : decode cX3_takeFromBeside 5 = .ok (.iload 4, 2) := by decide +kernel
theorem dX3_takeFromBeside_7 : decode cX3_takeFromBeside 7 = .ok (.iconst 3, 1) := by decide +kernel
theorem dX3_takeFromBeside_8 : decode cX3_takeFromBeside 8 = .ok (.if_icmp .ge 45, 3) := by decide +kernel
theorem dX3_takeFromBeside_11 : decode cX3_takeFromBeside 11 = .ok (.aload_n 2, 1) := by decide +kernel
theorem dX3_takeFromBeside_12 : decode cX3_takeFromBeside 12 = .ok (.iload_n 1, 1) := by decide +kernel
theorem dX3_takeFromBeside_13 : decode cX3_takeFromBeside 13 = .ok (.iload 4, 2) := by decide +kernel
theorem dX3_takeFromBeside_15 : decode cX3_takeFromBeside 15 = .ok (.invokevirtual 60, 3) := by decide +kernel
theorem dX3_takeFromBeside_18 : decode cX3_takeFromBeside 18 = .ok (.istore 5, 2) := by decide +kernel
theorem dX3_takeFromBeside_20 : decode cX3_takeFromBeside 20 = .ok (.iload 5, 2) := by decide +kernel
theorem dX3_takeFromBeside_22 : decode cX3_takeFromBeside 22 = .ok (.aload_n 2, 1) := by decide +kernel
theorem dX3_takeFromBeside_23 : decode cX3_takeFromBeside 23 = .ok (.iload_n 1, 1) := by decide +kernel
theorem dX3_takeFromBeside_24 : decode cX3_takeFromBeside 24 = .ok (.iload 4, 2) := by decide +kernel
theorem dX3_takeFromBeside_26 : decode cX3_takeFromBeside 26 = .ok (.invokevirtual 40, 3) := by decide +kernel
theorem dX3_takeFromBeside_29 : decode cX3_takeFromBeside 29 = .ok (.if_icmp .eq 5, 3) := by decide +kernel
theorem dX3_takeFromBeside_32 : decode cX3_takeFromBeside 32 = .ok (.iconst 1, 1) := by decide +kernel
theorem dX3_takeFromBeside_33 : decode cX3_takeFromBeside 33 = .ok (.istore_n 3, 1) := by decide +kernel
theorem dX3_takeFromBeside_34 : decode cX3_takeFromBeside 34 = .ok (.aload_n 0, 1) := by decide +kernel
theorem dX3_takeFromBeside_35 : decode cX3_takeFromBeside 35 = .ok (.getfield 18, 3) := by decide +kernel
theorem dX3_takeFromBeside_38 : decode cX3_takeFromBeside 38 = .ok (.iload_n 1, 1) := by decide +kernel
theorem dX3_takeFromBeside_39 : decode cX3_takeFromBeside 39 = .ok (.iconst 3, 1) := by decide +kernel
theorem dX3_takeFromBeside_40 : decode cX3_takeFromBeside 40 = .ok (.imul, 1) := by decide +kernel
theorem dX3_takeFromBeside_41 : decode cX3_takeFromBeside 41 = .ok (.iload 4, 2) := by decide +kernel
theorem dX3_takeFromBeside_43 : decode cX3_takeFromBeside 43 = .ok (.iadd, 1) := by decide +kernel
theorem dX3_takeFromBeside_44 : decode cX3_takeFromBeside 44 = .ok (.iload 5, 2) := by decide +kernel
theorem dX3_takeFromBeside_46 : decode cX3_takeFromBeside 46 = .ok (.iastore, 1) := by decide +kernel
theorem dX3_takeFromBeside_47 : decode cX3_takeFromBeside 47 = .ok (.iinc 4 1, 3) := by decide +kernel
theorem dX3_takeFromBeside_50 : decode cX3_takeFromBeside 50 = .ok (.goto (-45), 3) := by decide +kernel
theorem dX3_takeFromBeside_53 : decode cX3_takeFromBeside 53 = .ok (.iload_n 3, 1) := by decide +kernel
theorem dX3_takeFromBeside_54 : decode cX3_takeFromBeside 54 = .ok (.ireturn, 1) := by decide +kernel
set_option maxRecDepth 20000 in
theorem ggX3_meanBeside_X3_partOf : GoodIn wsX3_meanBeside wsX3_partOf := goodIn_r _ [5, 6, 7, 8, 9, 10, 11] (by decide +kernel) (by decide +kernel)
set_option maxRecDepth 20000 in
theorem gX3_meanBeside_X3_partOf : GoodIn wsX3_meanBeside (wsV RX3 40 RX3 yX3_partOf wsX3_partOf) := goodIn_app (goodIn_of _ (by decide +kernel)) ggX3_meanBeside_X3_partOf
theorem dX3_meanBeside_0 : decode cX3_meanBeside 0 = .ok (.iload_n 1, 1) := by decide +kernel
theorem dX3_meanBeside_1 : decode cX3_meanBeside 1 = .ok (.iconst 5, 1) := by decide +kernel
theorem dX3_meanBeside_2 : decode cX3_meanBeside 2 = .ok (.irem, 1) := by decide +kernel
theorem dX3_meanBeside_3 : decode cX3_meanBeside 3 = .ok (.istore_n 3, 1) := by decide +kernel
theorem dX3_meanBeside_4 : decode cX3_meanBeside 4 = .ok (.iload_n 1, 1) := by decide +kernel
theorem dX3_meanBeside_5 : decode cX3_meanBeside 5 = .ok (.iconst 5, 1) := by decide +kernel
theorem dX3_meanBeside_6 : decode cX3_meanBeside 6 = .ok (.idiv, 1) := by decide +kernel
theorem dX3_meanBeside_7 : decode cX3_meanBeside 7 = .ok (.istore 4, 2) := by decide +kernel
theorem dX3_meanBeside_9 : decode cX3_meanBeside 9 = .ok (.iconst 0, 1) := by decide +kernel
theorem dX3_meanBeside_10 : decode cX3_meanBeside 10 = .ok (.istore 5, 2) := by decide +kernel
theorem dX3_meanBeside_12 : decode cX3_meanBeside 12 = .ok (.iconst 0, 1) := by decide +kernel
theorem dX3_meanBeside_13 : decode cX3_meanBeside 13 = .ok (.istore 6, 2) := by decide +kernel
theorem dX3_meanBeside_15 : decode cX3_meanBeside 15 = .ok (.iload_n 3, 1) := by decide +kernel
theorem dX3_meanBeside_16 : decode cX3_meanBeside 16 = .ok (.ifCond .le 19, 3) := by decide +kernel
theorem dX3_meanBeside_19 : decode cX3_meanBeside 19 = .ok (.iload 5, 2) := by decide +kernel
theorem dX3_meanBeside_21 : decode cX3_meanBeside 21 = .ok (.aload_n 0, 1) := by decide +kernel
theorem dX3_meanBeside_22 : decode cX3_meanBeside 22 = .ok (.iload_n 1, 1) := by decide +kernel
theorem dX3_meanBeside_23 : decode cX3_meanBeside 23 = .ok (.iconst 1, 1) := by decide +kernel
theorem dX3_meanBeside_24 : decode cX3_meanBeside 24 = .ok (.isub, 1) := by decide +kernel
theorem dX3_meanBeside_25 : decode cX3_meanBeside 25 = .ok (.iload_n 2, 1) := by decide +kernel
theorem dX3_meanBeside_26 : decode cX3_meanBeside 26 = .ok (.invokevirtual 40, 3) := by decide +kernel
theorem dX3_meanBeside_29 : decode cX3_meanBeside 29 = .ok (.iadd, 1) := by decide +kernel
theorem dX3_meanBeside_30 : decode cX3_meanBeside 30 = .ok (.istore 5, 2) := by decide +kernel
theorem dX3_meanBeside_32 : decode cX3_meanBeside 32 = .ok (.iinc 6 1, 3) := by decide +kernel
theorem dX3_meanBeside_35 : decode cX3_meanBeside 35 = .ok (.iload_n 3, 1) := by decide +kernel
theorem dX3_meanBeside_36 : decode cX3_meanBeside 36 = .ok (.iconst 4, 1) := by decide +kernel
theorem dX3_meanBeside_37 : decode cX3_meanBeside 37 = .ok (.if_icmp .ge 19, 3) := by decide +kernel
theorem dX3_meanBeside_40 : decode cX3_meanBeside 40 = .ok (.iload 5, 2) := by decide +kernel
theorem dX3_meanBeside_42 : decode cX3_meanBeside 42 = .ok (.aload_n 0, 1) := by decide +kernel
theorem dX3_meanBeside_43 : decode cX3_meanBeside 43 = .ok (.iload_n 1, 1) := by decide +kernel
theorem dX3_meanBeside_44 : decode cX3_meanBeside 44 = .ok (.iconst 1, 1) := by decide +kernel
theorem dX3_meanBeside_45 : decode cX3_meanBeside 45 = .ok (.iadd, 1) := by decide +kernel
theorem dX3_meanBeside_46 : decode cX3_meanBeside 46 = .ok (.iload_n 2, 1) := by decide +kernel
theorem dX3_meanBeside_47 : decode cX3_meanBeside 47 = .ok (.invokevirtual 40, 3) := by decide +kernel
theorem dX3_meanBeside_50 : decode cX3_meanBeside 50 = .ok (.iadd, 1) := by decide +kernel
theorem dX3_meanBeside_51 : decode cX3_meanBeside 51 = .ok (.istore 5, 2) := by decide +kernel
theorem dX3_meanBeside_53 : decode cX3_meanBeside 53 = .ok (.iinc 6 1, 3) := by decide +kernel
theorem dX3_meanBeside_56 : decode cX3_meanBeside 56 = .ok (.iload 4, 2) := by decide +kernel
theorem dX3_meanBeside_58 : decode cX3_meanBeside 58 = .ok (.ifCond .le 19, 3) := by decide +kernel
theorem dX3_meanBeside_61 : decode cX3_meanBeside 61 = .ok (.iload 5, 2) := by decide +kernel
theorem dX3_meanBeside_63 : decode cX3_meanBeside 63 = .ok (.aload_n 0, 1) := by decide +kernel
theorem dX3_meanBeside_64 : decode cX3_meanBeside 64 = .ok (.iload_n 1, 1) := by decide +kernel
theorem dX3_meanBeside_65 : decode cX3_meanBeside 65 = .ok (.iconst 5, 1) := by decide +kernel
theorem dX3_meanBeside_66 : decode cX3_meanBeside 66 = .ok (.isub, 1) := by decide +kernel
theorem dX3_meanBeside_67 : decode cX3_meanBeside 67 = .ok (.iload_n 2, 1) := by decide +kernel
theorem dX3_meanBeside_68 : decode cX3_meanBeside 68 = .ok (.invokevirtual 40, 3) := by decide +kernel
theorem dX3_meanBeside_71 : decode cX3_meanBeside 71 = .ok (.iadd, 1) := by decide +kernel
theorem dX3_meanBeside_72 : decode cX3_meanBeside 72 = .ok (.istore 5, 2) := by decide +kernel
theorem dX3_meanBeside_74 : decode cX3_meanBeside 74 = .ok (.iinc 6 1, 3) := by decide +kernel
theorem dX3_meanBeside_77 : decode cX3_meanBeside 77 = .ok (.iload 4, 2) := by decide +kernel
theorem dX3_meanBeside_79 : decode cX3_meanBeside 79 = .ok (.iconst 3, 1) := by decide +kernel
theorem dX3_meanBeside_80 : decode cX3_meanBeside 80 = .ok (.if_icmp .ge 19, 3) := by decide +kernel
theorem dX3_meanBeside_83 : decode cX3_meanBeside 83 = .ok (.iload 5, 2) := by decide +kernel
theorem dX3_meanBeside_85 : decode cX3_meanBeside 85 = .ok (.aload_n 0, 1) := by decide +kernel
theorem dX3_meanBeside_86 : decode cX3_meanBeside 86 = .ok (.iload_n 1, 1) := by decide +kernel
theorem dX3_meanBeside_87 : decode cX3_meanBeside 87 = .ok (.iconst 5, 1) := by decide +kernel
theorem dX3_meanBeside_88 : decode cX3_meanBeside 88 = .ok (.iadd, 1) := by decide +kernel
theorem dX3_meanBeside_89 : decode cX3_meanBeside 89 = .ok (.iload_n 2, 1) := by decide +kernel
theorem dX3_meanBeside_90 : decode cX3_meanBeside 90 = .ok (.invokevirtual 40, 3) := by decide +kernel
theorem dX3_meanBeside_93 : decode cX3_meanBeside 93 = .ok (.iadd, 1) := by decide +kernel
theorem dX3_meanBeside_94 : decode cX3_meanBeside 94 = .ok (.istore 5, 2) := by decide +kernel
theorem dX3_meanBeside_96 : decode cX3_meanBeside 96 = .ok (.iinc 6 1, 3) := by decide +kernel
theorem dX3_meanBeside_99 : decode cX3_meanBeside 99 = .ok (.iload 6, 2) := by decide +kernel
theorem dX3_meanBeside_101 : decode cX3_meanBeside 101 = .ok (.ifCond .le 11, 3) := by decide +kernel
theorem dX3_meanBeside_104 : decode cX3_meanBeside 104 = .ok (.iload 5, 2) := by decide +kernel
theorem dX3_meanBeside_106 : decode cX3_meanBeside 106 = .ok (.iload 6, 2) := by decide +kernel
theorem dX3_meanBeside_108 : decode cX3_meanBeside 108 = .ok (.idiv, 1) := by decide +kernel
theorem dX3_meanBeside_109 : decode cX3_meanBeside 109 = .ok (.goto 9, 3) := by decide +kernel
theorem dX3_meanBeside_112 : decode cX3_meanBeside 112 = .ok (.aload_n 0, 1) := by decide +kernel
theorem dX3_meanBeside_113 : decode cX3_meanBeside 113 = .ok (.iload_n 1, 1) := by decide +kernel
theorem dX3_meanBeside_114 : decode cX3_meanBeside 114 = .ok (.iload_n 2, 1) := by decide +kernel
theorem dX3_meanBeside_115 : decode cX3_meanBeside 115 = .ok (.invokevirtual 40, 3) := by decide +kernel
theorem dX3_meanBeside_118 : decode cX3_meanBeside 118 = .ok (.ireturn, 1) := by decide +kernel
set_option maxRecDepth 20000 in
theorem ggX3_isFolded_X7_cornerAround : GoodIn wsX3_isFolded wsX7_cornerAround := goodIn_r _ [5, 6, 7, 4, 8, 9, 10, 11] (by decide +kernel) (by decide +kernel)
set_option maxRecDepth 20000 in
theorem gX3_isFolded_X7_cornerAround_n63 : GoodIn wsX3_isFolded (wsX7_cornerAround) := ggX3_isFolded_X7_cornerAround
theorem dX3_isFolded_0 : decode cX3_isFolded 0 = .ok (.iconst 0, 1) := by decide +kernel
theorem dX3_isFolded_1 : decode cX3_isFolded 1 = .ok (.istore_n 2, 1) := by decide +kernel
theorem dX3_isFolded_2 : decode cX3_isFolded 2 = .ok (.iload_n 2, 1) := by decide +kernel
theorem dX3_isFolded_3 : decode cX3_isFolded 3 = .ok (.iconst 4, 1) := by decide +kernel
theorem dX3_isFolded_4 : decode cX3_isFolded 4 = .ok (.if_icmp .ge 103, 3) := by decide +kernel
theorem dX3_isFolded_7 : decode cX3_isFolded 7 = .ok (.iload_n 1, 1) := by decide +kernel
theorem dX3_isFolded_8 : decode cX3_isFolded 8 = .ok (.iload_n 2, 1) := by decide +kernel
theorem dX3_isFolded_9 : decode cX3_isFolded 9 = .ok (.invokestatic 63, 3) := by decide +kernel
theorem dX3_isFolded_12 : decode cX3_isFolded 12 = .ok (.istore_n 3, 1) := by decide +kernel
theorem dX3_isFolded_13 : decode cX3_isFolded 13 = .ok (.iload_n 1, 1) := by decide +kernel
theorem dX3_isFolded_14 : decode cX3_isFolded 14 = .ok (.iload_n 2, 1) := by decide +kernel
theorem dX3_isFolded_15 : decode cX3_isFolded 15 = .ok (.iconst 1, 1) := by decide +kernel
theorem dX3_isFolded_16 : decode cX3_isFolded 16 = .ok (.iadd, 1) := by decide +kernel
theorem dX3_isFolded_17 : decode cX3_isFolded 17 = .ok (.invokestatic 63, 3) := by decide +kernel
theorem dX3_isFolded_20 : decode cX3_isFolded 20 = .ok (.istore 4, 2) := by decide +kernel
theorem dX3_isFolded_22 : decode cX3_isFolded 22 = .ok (.iload_n 1, 1) := by decide +kernel
theorem dX3_isFolded_23 : decode cX3_isFolded 23 = .ok (.iload_n 2, 1) := by decide +kernel
theorem dX3_isFolded_24 : decode cX3_isFolded 24 = .ok (.iconst 2, 1) := by decide +kernel
theorem dX3_isFolded_25 : decode cX3_isFolded 25 = .ok (.iadd, 1) := by decide +kernel
theorem dX3_isFolded_26 : decode cX3_isFolded 26 = .ok (.invokestatic 63, 3) := by decide +kernel
theorem dX3_isFolded_29 : decode cX3_isFolded 29 = .ok (.istore 5, 2) := by decide +kernel
theorem dX3_isFolded_31 : decode cX3_isFolded 31 = .ok (.aload_n 0, 1) := by decide +kernel
theorem dX3_isFolded_32 : decode cX3_isFolded 32 = .ok (.getfield 9, 3) := by decide +kernel
theorem dX3_isFolded_35 : decode cX3_isFolded 35 = .ok (.iload 4, 2) := by decide +kernel
theorem dX3_isFolded_37 : decode cX3_isFolded 37 = .ok (.iaload, 1) := by decide +kernel
theorem dX3_isFolded_38 : decode cX3_isFolded 38 = .ok (.aload_n 0, 1) := by decide +kernel
theorem dX3_isFolded_39 : decode cX3_isFolded 39 = .ok (.getfield 9, 3) := by decide +kernel
theorem dX3_isFolded_42 : decode cX3_isFolded 42 = .ok (.iload_n 3, 1) := by decide +kernel
theorem dX3_isFolded_43 : decode cX3_isFolded 43 = .ok (.iaload, 1) := by decide +kernel
theorem dX3_isFolded_44 : decode cX3_isFolded 44 = .ok (.isub, 1) := by decide +kernel
theorem dX3_isFolded_45 : decode cX3_isFolded 45 = .ok (.aload_n 0, 1) := by decide +kernel
theorem dX3_isFolded_46 : decode cX3_isFolded 46 = .ok (.getfield 15, 3) := by decide +kernel
theorem dX3_isFolded_49 : decode cX3_isFolded 49 = .ok (.iload 5, 2) := by decide +kernel
theorem dX3_isFolded_51 : decode cX3_isFolded 51 = .ok (.iaload, 1) := by decide +kernel
theorem dX3_isFolded_52 : decode cX3_isFolded 52 = .ok (.aload_n 0, 1) := by decide +kernel
theorem dX3_isFolded_53 : decode cX3_isFolded 53 = .ok (.getfield 15, 3) := by decide +kernel
theorem dX3_isFolded_56 : decode cX3_isFolded 56 = .ok (.iload 4, 2) := by decide +kernel
theorem dX3_isFolded_58 : decode cX3_isFolded 58 = .ok (.iaload, 1) := by decide +kernel
theorem dX3_isFolded_59 : decode cX3_isFolded 59 = .ok (.isub, 1) := by decide +kernel
theorem dX3_isFolded_60 : decode cX3_isFolded 60 = .ok (.imul, 1) := by decide +kernel
theorem dX3_isFolded_61 : decode cX3_isFolded 61 = .ok (.aload_n 0, 1) := by decide +kernel
theorem dX3_isFolded_62 : decode cX3_isFolded 62 = .ok (.getfield 15, 3) := by decide +kernel
theorem dX3_isFolded_65 : decode cX3_isFolded 65 = .ok (.iload 4, 2) := by decide +kernel
theorem dX3_isFolded_67 : decode cX3_isFolded 67 = .ok (.iaload, 1) := by decide +kernel
theorem dX3_isFolded_68 : decode cX3_isFolded 68 = .ok (.aload_n 0, 1) := by decide +kernel
theorem dX3_isFolded_69 : decode cX3_isFolded 69 = .ok (.getfield 15, 3) := by decide +kernel
theorem dX3_isFolded_72 : decode cX3_isFolded 72 = .ok (.iload_n 3, 1) := by decide +kernel
theorem dX3_isFolded_73 : decode cX3_isFolded 73 = .ok (.iaload, 1) := by decide +kernel
theorem dX3_isFolded_74 : decode cX3_isFolded 74 = .ok (.isub, 1) := by decide +kernel
theorem dX3_isFolded_75 : decode cX3_isFolded 75 = .ok (.aload_n 0, 1) := by decide +kernel
theorem dX3_isFolded_76 : decode cX3_isFolded 76 = .ok (.getfield 9, 3) := by decide +kernel
theorem dX3_isFolded_79 : decode cX3_isFolded 79 = .ok (.iload 5, 2) := by decide +kernel
theorem dX3_isFolded_81 : decode cX3_isFolded 81 = .ok (.iaload, 1) := by decide +kernel
theorem dX3_isFolded_82 : decode cX3_isFolded 82 = .ok (.aload_n 0, 1) := by decide +kernel
theorem dX3_isFolded_83 : decode cX3_isFolded 83 = .ok (.getfield 9, 3) := by decide +kernel
theorem dX3_isFolded_86 : decode cX3_isFolded 86 = .ok (.iload 4, 2) := by decide +kernel
theorem dX3_isFolded_88 : decode cX3_isFolded 88 = .ok (.iaload, 1) := by decide +kernel
theorem dX3_isFolded_89 : decode cX3_isFolded 89 = .ok (.isub, 1) := by decide +kernel
theorem dX3_isFolded_90 : decode cX3_isFolded 90 = .ok (.imul, 1) := by decide +kernel
theorem dX3_isFolded_91 : decode cX3_isFolded 91 = .ok (.isub, 1) := by decide +kernel
theorem dX3_isFolded_92 : decode cX3_isFolded 92 = .ok (.istore 6, 2) := by decide +kernel
theorem dX3_isFolded_94 : decode cX3_isFolded 94 = .ok (.iload 6, 2) := by decide +kernel
theorem dX3_isFolded_96 : decode cX3_isFolded 96 = .ok (.ifCond .gt 5, 3) := by decide +kernel
theorem dX3_isFolded_99 : decode cX3_isFolded 99 = .ok (.iconst 1, 1) := by decide +kernel
theorem dX3_isFolded_100 : decode cX3_isFolded 100 = .ok (.ireturn, 1) := by decide +kernel
theorem dX3_isFolded_101 : decode cX3_isFolded 101 = .ok (.iinc 2 1, 3) := by decide +kernel
theorem dX3_isFolded_104 : decode cX3_isFolded 104 = .ok (.goto (-102), 3) := by decide +kernel
theorem dX3_isFolded_107 : decode cX3_isFolded 107 = .ok (.iconst 0, 1) := by decide +kernel
theorem dX3_isFolded_108 : decode cX3_isFolded 108 = .ok (.ireturn, 1) := by decide +kernel
set_option maxRecDepth 20000 in
theorem ggX3_foldedPatches_X3_isFolded : GoodIn wsX3_foldedPatches wsX3_isFolded := goodIn_r _ [5, 6, 7, 8, 9, 10, 11, 12, 13, 14, 15, 16, 17, 18, 19, 20, 21] (by decide +kernel) (by decide +kernel)
set_option maxRecDepth 20000 in
theorem gX3_foldedPatches_X3_isFolded : GoodIn wsX3_foldedPatches (wsV RX3 66 RX3 yX3_isFolded wsX3_isFolded) := goodIn_app (goodIn_of _ (by decide +kernel)) ggX3_foldedPatches_X3_isFolded
theorem dX3_foldedPatches_0 : decode cX3_foldedPatches 0 = .ok (.iconst 0, 1) := by decide +kernel
theorem dX3_foldedPatches_1 : decode cX3_foldedPatches 1 = .ok (.istore_n 1, 1) := by decide +kernel
theorem dX3_foldedPatches_2 : decode cX3_foldedPatches 2 = .ok (.iconst 0, 1) := by decide +kernel
theorem dX3_foldedPatches_3 : decode cX3_foldedPatches 3 = .ok (.istore_n 2, 1) := by decide +kernel
theorem dX3_foldedPatches_4 : decode cX3_foldedPatches 4 = .ok (.iload_n 2, 1) := by decide +kernel
theorem dX3_foldedPatches_5 : decode cX3_foldedPatches 5 = .ok (.bipush 12, 2) := by decide +kernel
theorem dX3_foldedPatches_7 : decode cX3_foldedPatches 7 = .ok (.if_icmp .ge 20, 3) := by decide +kernel
theorem dX3_foldedPatches_10 : decode cX3_foldedPatches 10 = .ok (.aload_n 0, 1) := by decide +kernel
theorem dX3_foldedPatches_11 : decode cX3_foldedPatches 11 = .ok (.iload_n 2, 1) := by decide +kernel
theorem dX3_foldedPatches_12 : decode cX3_foldedPatches 12 = .ok (.invokevirtual 66, 3) := by decide +kernel
theorem dX3_foldedPatches_15 : decode cX3_foldedPatches 15 = .ok (.ifCond .eq 6, 3) := by decide +kernel
theorem dX3_foldedPatches_18 : decode cX3_foldedPatches 18 = .ok (.iinc 1 1, 3) := by decide +kernel
theorem dX3_foldedPatches_21 : decode cX3_foldedPatches 21 = .ok (.iinc 2 1, 3) := by decide +kernel
theorem dX3_foldedPatches_24 : decode cX3_foldedPatches 24 = .ok (.goto (-20), 3) := by decide +kernel
theorem dX3_foldedPatches_27 : decode cX3_foldedPatches 27 = .ok (.iload_n 1, 1) := by decide +kernel
theorem dX3_foldedPatches_28 : decode cX3_foldedPatches 28 = .ok (.ireturn, 1) := by decide +kernel
set_option maxRecDepth 20000 in
theorem ggX3_doubleArea_X7_cornerAround : GoodIn wsX3_doubleArea wsX7_cornerAround := goodIn_r _ [9, 10, 11, 8, 12, 13, 14, 15] (by decide +kernel) (by decide +kernel)
set_option maxRecDepth 20000 in
theorem gX3_doubleArea_X7_cornerAround_n63 : GoodIn wsX3_doubleArea (wsX7_cornerAround) := ggX3_doubleArea_X7_cornerAround
theorem dX3_doubleArea_0 : decode cX3_doubleArea 0 = .ok (.iconst 0, 1) := by decide +kernel
theorem dX3_doubleArea_1 : decode cX3_doubleArea 1 = .ok (.istore_n 2, 1) := by decide +kernel
theorem dX3_doubleArea_2 : decode cX3_doubleArea 2 = .ok (.iconst 0, 1) := by decide +kernel
theorem dX3_doubleArea_3 : decode cX3_doubleArea 3 = .ok (.istore_n 3, 1) := by decide +kernel
theorem dX3_doubleArea_4 : decode cX3_doubleArea 4 = .ok (.iload_n 3, 1) := by decide +kernel
theorem dX3_doubleArea_5 : decode cX3_doubleArea 5 = .ok (.iconst 4, 1) := by decide +kernel
theorem dX3_doubleArea_6 : decode cX3_doubleArea 6 = .ok (.if_icmp .ge 59, 3) := by decide +kernel
theorem dX3_doubleArea_9 : decode cX3_doubleArea 9 = .ok (.iload_n 1, 1) := by decide +kernel
theorem dX3_doubleArea_10 : decode cX3_doubleArea 10 = .ok (.iload_n 3, 1) := by decide +kernel
theorem dX3_doubleArea_11 : decode cX3_doubleArea 11 = .ok (.invokestatic 63, 3) := by decide +kernel
theorem dX3_doubleArea_14 : decode cX3_doubleArea 14 = .ok (.istore 4, 2) := by decide +kernel
theorem dX3_doubleArea_16 : decode cX3_doubleArea 16 = .ok (.iload_n 1, 1) := by decide +kernel
theorem dX3_doubleArea_17 : decode cX3_doubleArea 17 = .ok (.iload_n 3, 1) := by decide +kernel
theorem dX3_doubleArea_18 : decode cX3_doubleArea 18 = .ok (.iconst 1, 1) := by decide +kernel
theorem dX3_doubleArea_19 : decode cX3_doubleArea 19 = .ok (.iadd, 1) := by decide +kernel
theorem dX3_doubleArea_20 : decode cX3_doubleArea 20 = .ok (.invokestatic 63, 3) := by decide +kernel
theorem dX3_doubleArea_23 : decode cX3_doubleArea 23 = .ok (.istore 5, 2) := by decide +kernel
theorem dX3_doubleArea_25 : decode cX3_doubleArea 25 = .ok (.iload_n 2, 1) := by decide +kernel
theorem dX3_doubleArea_26 : decode cX3_doubleArea 26 = .ok (.aload_n 0, 1) := by decide +kernel
theorem dX3_doubleArea_27 : decode cX3_doubleArea 27 = .ok (.getfield 9, 3) := by decide +kernel
theorem dX3_doubleArea_30 : decode cX3_doubleArea 30 = .ok (.iload 4, 2) := by decide +kernel
theorem dX3_doubleArea_32 : decode cX3_doubleArea 32 = .ok (.iaload, 1) := by decide +kernel
theorem dX3_doubleArea_33 : decode cX3_doubleArea 33 = .ok (.aload_n 0, 1) := by decide +kernel
theorem dX3_doubleArea_34 : decode cX3_doubleArea 34 = .ok (.getfield 15, 3) := by decide +kernel
theorem dX3_doubleArea_37 : decode cX3_doubleArea 37 = .ok (.iload 5, 2) := by decide +kernel
theorem dX3_doubleArea_39 : decode cX3_doubleArea 39 = .ok (.iaload, 1) := by decide +kernel
theorem dX3_doubleArea_40 : decode cX3_doubleArea 40 = .ok (.imul, 1) := by decide +kernel
theorem dX3_doubleArea_41 : decode cX3_doubleArea 41 = .ok (.aload_n 0, 1) := by decide +kernel
theorem dX3_doubleArea_42 : decode cX3_doubleArea 42 = .ok (.getfield 9, 3) := by decide +kernel
theorem dX3_doubleArea_45 : decode cX3_doubleArea 45 = .ok (.iload 5, 2) := by decide +kernel
theorem dX3_doubleArea_47 : decode cX3_doubleArea 47 = .ok (.iaload, 1) := by decide +kernel
theorem dX3_doubleArea_48 : decode cX3_doubleArea 48 = .ok (.aload_n 0, 1) := by decide +kernel
theorem dX3_doubleArea_49 : decode cX3_doubleArea 49 = .ok (.getfield 15, 3) := by decide +kernel
theorem dX3_doubleArea_52 : decode cX3_doubleArea 52 = .ok (.iload 4, 2) := by decide +kernel
theorem dX3_doubleArea_54 : decode cX3_doubleArea 54 = .ok (.iaload, 1) := by decide +kernel
theorem dX3_doubleArea_55 : decode cX3_doubleArea 55 = .ok (.imul, 1) := by decide +kernel
theorem dX3_doubleArea_56 : decode cX3_doubleArea 56 = .ok (.isub, 1) := by decide +kernel
theorem dX3_doubleArea_57 : decode cX3_doubleArea 57 = .ok (.iadd, 1) := by decide +kernel
theorem dX3_doubleArea_58 : decode cX3_doubleArea 58 = .ok (.istore_n 2, 1) := by decide +kernel
theorem dX3_doubleArea_59 : decode cX3_doubleArea 59 = .ok (.iinc 3 1, 3) := by decide +kernel
theorem dX3_doubleArea_62 : decode cX3_doubleArea 62 = .ok (.goto (-58), 3) := by decide +kernel
theorem dX3_doubleArea_65 : decode cX3_doubleArea 65 = .ok (.iload_n 2, 1) := by decide +kernel
theorem dX3_doubleArea_66 : decode cX3_doubleArea 66 = .ok (.invokestatic 70, 3) := by decide +kernel
theorem dX3_doubleArea_69 : decode cX3_doubleArea 69 = .ok (.ireturn, 1) := by decide +kernel
set_option maxRecDepth 20000 in
theorem ggX3_fillColours_X3_partOf : GoodIn wsX3_fillColours wsX3_partOf := goodIn_r _ [5, 6, 10, 11, 12, 13, 14] (by decide +kernel) (by decide +kernel)
set_option maxRecDepth 20000 in
theorem gX3_fillColours_X3_partOf : GoodIn wsX3_fillColours (wsV RX3 40 RX3 yX3_partOf wsX3_partOf) := goodIn_app (goodIn_of _ (by decide +kernel)) ggX3_fillColours_X3_partOf
set_option maxRecDepth 20000 in
theorem ggX3_fillColours_X7_packedColour : GoodIn wsX3_fillColours wsX7_packedColour := goodIn_r _ [9] (by decide +kernel) (by decide +kernel)
set_option maxRecDepth 20000 in
theorem gX3_fillColours_X7_packedColour_n73 : GoodIn wsX3_fillColours (wsX7_packedColour) := ggX3_fillColours_X7_packedColour
theorem dX3_fillColours_0 : decode cX3_fillColours 0 = .ok (.iconst 0, 1) := by decide +kernel
theorem dX3_fillColours_1 : decode cX3_fillColours 1 = .ok (.istore_n 2, 1) := by decide +kernel
theorem dX3_fillColours_2 : decode cX3_fillColours 2 = .ok (.iload_n 2, 1) := by decide +kernel
theorem dX3_fillColours_3 : decode cX3_fillColours 3 = .ok (.bipush 20, 2) := by decide +kernel
theorem dX3_fillColours_5 : decode cX3_fillColours 5 = .ok (.if_icmp .ge 39, 3) := by decide +kernel
theorem dX3_fillColours_8 : decode cX3_fillColours 8 = .ok (.iload_n 2, 1) := by decide +kernel
theorem dX3_fillColours_9 : decode cX3_fillColours 9 = .ok (.aload_n 1, 1) := by decide +kernel
theorem dX3_fillColours_10 : decode cX3_fillColours 10 = .ok (.arraylength, 1) := by decide +kernel
theorem dX3_fillColours_11 : decode cX3_fillColours 11 = .ok (.if_icmp .ge 33, 3) := by decide +kernel
theorem dX3_fillColours_14 : decode cX3_fillColours 14 = .ok (.aload_n 1, 1) := by decide +kernel
theorem dX3_fillColours_15 : decode cX3_fillColours 15 = .ok (.iload_n 2, 1) := by decide +kernel
theorem dX3_fillColours_16 : decode cX3_fillColours 16 = .ok (.aload_n 0, 1) := by decide +kernel
theorem dX3_fillColours_17 : decode cX3_fillColours 17 = .ok (.iload_n 2, 1) := by decide +kernel
theorem dX3_fillColours_18 : decode cX3_fillColours 18 = .ok (.iconst 0, 1) := by decide +kernel
theorem dX3_fillColours_19 : decode cX3_fillColours 19 = .ok (.invokevirtual 40, 3) := by decide +kernel
theorem dX3_fillColours_22 : decode cX3_fillColours 22 = .ok (.aload_n 0, 1) := by decide +kernel
theorem dX3_fillColours_23 : decode cX3_fillColours 23 = .ok (.iload_n 2, 1) := by decide +kernel
theorem dX3_fillColours_24 : decode cX3_fillColours 24 = .ok (.iconst 1, 1) := by decide +kernel
theorem dX3_fillColours_25 : decode cX3_fillColours 25 = .ok (.invokevirtual 40, 3) := by decide +kernel
theorem dX3_fillColours_28 : decode cX3_fillColours 28 = .ok (.aload_n 0, 1) := by decide +kernel
theorem dX3_fillColours_29 : decode cX3_fillColours 29 = .ok (.iload_n 2, 1) := by decide +kernel
theorem dX3_fillColours_30 : decode cX3_fillColours 30 = .ok (.iconst 2, 1) := by decide +kernel
theorem dX3_fillColours_31 : decode cX3_fillColours 31 = .ok (.invokevirtual 40, 3) := by decide +kernel
theorem dX3_fillColours_34 : decode cX3_fillColours 34 = .ok (.invokestatic 73, 3) := by decide +kernel
theorem dX3_fillColours_37 : decode cX3_fillColours 37 = .ok (.iastore, 1) := by decide +kernel
theorem dX3_fillColours_38 : decode cX3_fillColours 38 = .ok (.iinc 2 1, 3) := by decide +kernel
theorem dX3_fillColours_41 : decode cX3_fillColours 41 = .ok (.goto (-39), 3) := by decide +kernel
theorem dX3_fillColours_44 : decode cX3_fillColours 44 = .ok (.return_, 1) := by decide +kernel
theorem dX4_init_0 : decode cX4_init 0 = .ok (.aload_n 0, 1) := by decide +kernel
theorem dX4_init_1 : decode cX4_init 1 = .ok (.invokespecial 3, 3) := by decide +kernel
theorem dX4_init_4 : decode cX4_init 4 = .ok (.aload_n 0, 1) := by decide +kernel
theorem dX4_init_5 : decode cX4_init 5 = .ok (.bipush 81, 2) := by decide +kernel
theorem dX4_init_7 : decode cX4_init 7 = .ok (.newarray .int, 2) := by decide +kernel
theorem dX4_init_9 : decode cX4_init 9 = .ok (.putfield 9, 3) := by decide +kernel
theorem dX4_init_12 : decode cX4_init 12 = .ok (.aload_n 0, 1) := by decide +kernel
theorem dX4_init_13 : decode cX4_init 13 = .ok (.bipush 81, 2) := by decide +kernel
theorem dX4_init_15 : decode cX4_init 15 = .ok (.newarray .int, 2) := by decide +kernel
theorem dX4_init_17 : decode cX4_init 17 = .ok (.putfield 15, 3) := by decide +kernel
theorem dX4_init_20 : decode cX4_init 20 = .ok (.return_, 1) := by decide +kernel
set_option maxRecDepth 20000 in
theorem ggX4_load_X0_load : GoodIn wsX4_load wsX0_load := goodIn_r _ [7, 8, 9, 10, 11, 12, 13, 14, 15, 16, 17, 18, 19, 20, 21, 22, 23, 24, 25, 26, 27, 28, 29, 30, 31, 32, 33, 34, 35, 36, 37, 38, 60, 61, 62, 63, 64, 65, 66, 67] (by decide +kernel) (by decide +kernel)
set_option maxRecDepth 20000 in
theorem gX4_load_X0_load : GoodIn wsX4_load (wsV RX4 18 RX0 yX0_load wsX0_load) := goodIn_app (goodIn_of _ (by decide +kernel)) ggX4_load_X0_load
set_option maxRecDepth 20000 in
theorem ggX4_load_X0_partAt : GoodIn wsX4_load wsX0_partAt := goodIn_r _ [42, 8, 9, 10, 43, 44, 45, 46, 47, 48, 49, 50, 51, 52, 6, 53, 54, 55, 56, 57, 36, 37, 38, 60, 61, 62] (by decide +kernel) (by decide +kernel)
set_option maxRecDepth 20000 in
theorem gX4_load_X0_partAt : GoodIn wsX4_load (wsV RX4 24 RX0 yX0_partAt wsX0_partAt) := goodIn_app (goodIn_of _ (by decide +kernel)) ggX4_load_X0_partAt
theorem dX4_load_0 : decode cX4_load 0 = .ok (.iconst 0, 1) := by decide +kernel
theorem dX4_load_1 : decode cX4_load 1 = .ok (.istore 4, 2) := by decide +kernel
theorem dX4_load_3 : decode cX4_load 3 = .ok (.iload 4, 2) := by decide +kernel
theorem dX4_load_5 : decode cX4_load 5 = .ok (.bipush 81, 2) := by decide +kernel
theorem dX4_load_7 : decode cX4_load 7 = .ok (.if_icmp .ge 25, 3) := by decide +kernel
theorem dX4_load_10 : decode cX4_load 10 = .ok (.aload_n 0, 1) := by decide +kernel
theorem dX4_load_11 : decode cX4_load 11 = .ok (.getfield 9, 3) := by decide +kernel
theorem dX4_load_14 : decode cX4_load 14 = .ok (.iload 4, 2) := by decide +kernel
theorem dX4_load_16 : decode cX4_load 16 = .ok (.iconst 0, 1) := by decide +kernel
theorem dX4_load_17 : decode cX4_load 17 = .ok (.iastore, 1) := by decide +kernel
theorem dX4_load_18 : decode cX4_load 18 = .ok (.aload_n 0, 1) := by decide +kernel
theorem dX4_load_19 : decode cX4_load 19 = .ok (.getfield 15, 3) := by decide +kernel
theorem dX4_load_22 : decode cX4_load 22 = .ok (.iload 4, 2) := by decide +kernel
theorem dX4_load_24 : decode cX4_load 24 = .ok (.iconst 0, 1) := by decide +kernel
theorem dX4_load_25 : decode cX4_load 25 = .ok (.iastore, 1) := by decide +kernel
theorem dX4_load_26 : decode cX4_load 26 = .ok (.iinc 4 1, 3) := by decide +kernel
theorem dX4_load_29 : decode cX4_load 29 = .ok (.goto (-26), 3) := by decide +kernel
theorem dX4_load_32 : decode cX4_load 32 = .ok (.iconst 0, 1) := by decide +kernel
theorem dX4_load_33 : decode cX4_load 33 = .ok (.istore 4, 2) := by decide +kernel
theorem dX4_load_35 : decode cX4_load 35 = .ok (.iload 4, 2) := by decide +kernel
theorem dX4_load_37 : decode cX4_load 37 = .ok (.iconst 3, 1) := by decide +kernel
theorem dX4_load_38 : decode cX4_load 38 = .ok (.if_icmp .ge 81, 3) := by decide +kernel
theorem dX4_load_41 : decode cX4_load 41 = .ok (.aload_n 3, 1) := by decide +kernel
theorem dX4_load_42 : decode cX4_load 42 = .ok (.aload_n 1, 1) := by decide +kernel
theorem dX4_load_43 : decode cX4_load 43 = .ok (.iload_n 2, 1) := by decide +kernel
theorem dX4_load_44 : decode cX4_load 44 = .ok (.iload 4, 2) := by decide +kernel
theorem dX4_load_46 : decode cX4_load 46 = .ok (.invokevirtual 18, 3) := by decide +kernel
theorem dX4_load_49 : decode cX4_load 49 = .ok (.iconst 0, 1) := by decide +kernel
theorem dX4_load_50 : decode cX4_load 50 = .ok (.istore 5, 2) := by decide +kernel
theorem dX4_load_52 : decode cX4_load 52 = .ok (.iload 5, 2) := by decide +kernel
theorem dX4_load_54 : decode cX4_load 54 = .ok (.bipush 81, 2) := by decide +kernel
theorem dX4_load_56 : decode cX4_load 56 = .ok (.if_icmp .ge 57, 3) := by decide +kernel
theorem dX4_load_59 : decode cX4_load 59 = .ok (.aload_n 3, 1) := by decide +kernel
theorem dX4_load_60 : decode cX4_load 60 = .ok (.iload 5, 2) := by decide +kernel
theorem dX4_load_62 : decode cX4_load 62 = .ok (.bipush 9, 2) := by decide +kernel
theorem dX4_load_64 : decode cX4_load 64 = .ok (.irem, 1) := by decide +kernel
theorem dX4_load_65 : decode cX4_load 65 = .ok (.iload 5, 2) := by decide +kernel
theorem dX4_load_67 : decode cX4_load 67 = .ok (.bipush 9, 2) := by decide +kernel
theorem dX4_load_69 : decode cX4_load 69 = .ok (.idiv, 1) := by decide +kernel
theorem dX4_load_70 : decode cX4_load 70 = .ok (.invokevirtual 24, 3) := by decide +kernel
theorem dX4_load_73 : decode cX4_load 73 = .ok (.istore 6, 2) := by decide +kernel
theorem dX4_load_75 : decode cX4_load 75 = .ok (.aload_n 0, 1) := by decide +kernel
theorem dX4_load_76 : decode cX4_load 76 = .ok (.getfield 9, 3) := by decide +kernel
theorem dX4_load_79 : decode cX4_load 79 = .ok (.iload 5, 2) := by decide +kernel
theorem dX4_load_81 : decode cX4_load 81 = .ok (.aload_n 0, 1) := by decide +kernel
theorem dX4_load_82 : decode cX4_load 82 = .ok (.getfield 9, 3) := by decide +kernel
theorem dX4_load_85 : decode cX4_load 85 = .ok (.iload 5, 2) := by decide +kernel
theorem dX4_load_87 : decode cX4_load 87 = .ok (.iaload, 1) := by decide +kernel
theorem dX4_load_88 : decode cX4_load 88 = .ok (.bipush 8, 2) := by decide +kernel
theorem dX4_load_90 : decode cX4_load 90 = .ok (.ishl, 1) := by decide +kernel
theorem dX4_load_91 : decode cX4_load 91 = .ok (.iload 6, 2) := by decide +kernel
theorem dX4_load_93 : decode cX4_load 93 = .ok (.ior, 1) := by decide +kernel
theorem dX4_load_94 : decode cX4_load 94 = .ok (.iastore, 1) := by decide +kernel
theorem dX4_load_95 : decode cX4_load 95 = .ok (.aload_n 0, 1) := by decide +kernel
theorem dX4_load_96 : decode cX4_load 96 = .ok (.getfield 15, 3) := by decide +kernel
theorem dX4_load_99 : decode cX4_load 99 = .ok (.iload 5, 2) := by decide +kernel
theorem dX4_load_101 : decode cX4_load 101 = .ok (.dup2, 1) := by decide +kernel
theorem dX4_load_102 : decode cX4_load 102 = .ok (.iaload, 1) := by decide +kernel
theorem dX4_load_103 : decode cX4_load 103 = .ok (.iload 6, 2) := by decide +kernel
theorem dX4_load_105 : decode cX4_load 105 = .ok (.iadd, 1) := by decide +kernel
theorem dX4_load_106 : decode cX4_load 106 = .ok (.iastore, 1) := by decide +kernel
theorem dX4_load_107 : decode cX4_load 107 = .ok (.iinc 5 1, 3) := by decide +kernel
theorem dX4_load_110 : decode cX4_load 110 = .ok (.goto (-58), 3) := by decide +kernel
theorem dX4_load_113 : decode cX4_load 113 = .ok (.iinc 4 1, 3) := by decide +kernel
theorem dX4_load_116 : decode cX4_load 116 = .ok (.goto (-81), 3) := by decide +kernel
theorem dX4_load_119 : decode cX4_load 119 = .ok (.return_, 1) := by decide +kernel
theorem dX4_greatestSum_0 : decode cX4_greatestSum 0 = .ok (.aload_n 0, 1) := by decide +kernel
theorem dX4_greatestSum_1 : decode cX4_greatestSum 1 = .ok (.getfield 15, 3) := by decide +kernel
theorem dX4_greatestSum_4 : decode cX4_greatestSum 4 = .ok (.iconst 0, 1) := by decide +kernel
