theorem dX8_reads_79 : decode cX8_reads 79 = .ok (.invokevirtual 158, 3) := by decide +kernel
theorem dX8_reads_82 : decode cX8_reads 82 = .ok (.ifCond .ne 5, 3) := by decide +kernel
theorem dX8_reads_85 : decode cX8_reads 85 = .ok (.iconst 0, 1) := by decide +kernel
theorem dX8_reads_86 : decode cX8_reads 86 = .ok (.ireturn, 1) := by decide +kernel
theorem dX8_reads_87 : decode cX8_reads 87 = .ok (.aload_n 0, 1) := by decide +kernel
theorem dX8_reads_88 : decode cX8_reads 88 = .ok (.getfield 155, 3) := by decide +kernel
theorem dX8_reads_91 : decode cX8_reads 91 = .ok (.bipush 102, 2) := by decide +kernel
theorem dX8_reads_93 : decode cX8_reads 93 = .ok (.if_icmp .eq 58, 3) := by decide +kernel
theorem dX8_reads_96 : decode cX8_reads 96 = .ok (.aload_n 0, 1) := by decide +kernel
theorem dX8_reads_97 : decode cX8_reads 97 = .ok (.bipush 58, 2) := by decide +kernel
theorem dX8_reads_99 : decode cX8_reads 99 = .ok (.invokevirtual 161, 3) := by decide +kernel
theorem dX8_reads_102 : decode cX8_reads 102 = .ok (.ifCond .eq 53, 3) := by decide +kernel
theorem dX8_reads_105 : decode cX8_reads 105 = .ok (.aload_n 0, 1) := by decide +kernel
theorem dX8_reads_106 : decode cX8_reads 106 = .ok (.getfield 155, 3) := by decide +kernel
theorem dX8_reads_109 : decode cX8_reads 109 = .ok (.bipush 99, 2) := by decide +kernel
theorem dX8_reads_111 : decode cX8_reads 111 = .ok (.if_icmp .ne 13, 3) := by decide +kernel
theorem dX8_reads_114 : decode cX8_reads 114 = .ok (.aload_n 0, 1) := by decide +kernel
theorem dX8_reads_115 : decode cX8_reads 115 = .ok (.invokevirtual 164, 3) := by decide +kernel
theorem dX8_reads_118 : decode cX8_reads 118 = .ok (.ifCond .eq 37, 3) := by decide +kernel
theorem dX8_reads_121 : decode cX8_reads 121 = .ok (.goto 30, 3) := by decide +kernel
theorem dX8_reads_124 : decode cX8_reads 124 = .ok (.aload_n 0, 1) := by decide +kernel
theorem dX8_reads_125 : decode cX8_reads 125 = .ok (.iconst 2, 1) := by decide +kernel
theorem dX8_reads_126 : decode cX8_reads 126 = .ok (.iconst 3, 1) := by decide +kernel
theorem dX8_reads_127 : decode cX8_reads 127 = .ok (.invokevirtual 158, 3) := by decide +kernel
theorem dX8_reads_130 : decode cX8_reads 130 = .ok (.ifCond .eq 25, 3) := by decide +kernel
theorem dX8_reads_133 : decode cX8_reads 133 = .ok (.aload_n 0, 1) := by decide +kernel
theorem dX8_reads_134 : decode cX8_reads 134 = .ok (.bipush 44, 2) := by decide +kernel
theorem dX8_reads_136 : decode cX8_reads 136 = .ok (.invokevirtual 161, 3) := by decide +kernel
theorem dX8_reads_139 : decode cX8_reads 139 = .ok (.ifCond .eq 16, 3) := by decide +kernel
theorem dX8_reads_142 : decode cX8_reads 142 = .ok (.aload_n 0, 1) := by decide +kernel
theorem dX8_reads_143 : decode cX8_reads 143 = .ok (.iconst 3, 1) := by decide +kernel
theorem dX8_reads_144 : decode cX8_reads 144 = .ok (.iconst 3, 1) := by decide +kernel
theorem dX8_reads_145 : decode cX8_reads 145 = .ok (.invokevirtual 158, 3) := by decide +kernel
theorem dX8_reads_148 : decode cX8_reads 148 = .ok (.ifCond .eq 7, 3) := by decide +kernel
theorem dX8_reads_151 : decode cX8_reads 151 = .ok (.iconst 1, 1) := by decide +kernel
theorem dX8_reads_152 : decode cX8_reads 152 = .ok (.goto 4, 3) := by decide +kernel
theorem dX8_reads_155 : decode cX8_reads 155 = .ok (.iconst 0, 1) := by decide +kernel
theorem dX8_reads_156 : decode cX8_reads 156 = .ok (.istore_n 1, 1) := by decide +kernel
theorem dX8_reads_157 : decode cX8_reads 157 = .ok (.iload_n 1, 1) := by decide +kernel
theorem dX8_reads_158 : decode cX8_reads 158 = .ok (.ifCond .eq 16, 3) := by decide +kernel
theorem dX8_reads_161 : decode cX8_reads 161 = .ok (.aload_n 0, 1) := by decide +kernel
theorem dX8_reads_162 : decode cX8_reads 162 = .ok (.bipush 59, 2) := by decide +kernel
theorem dX8_reads_164 : decode cX8_reads 164 = .ok (.invokevirtual 161, 3) := by decide +kernel
theorem dX8_reads_167 : decode cX8_reads 167 = .ok (.ifCond .eq 7, 3) := by decide +kernel
theorem dX8_reads_170 : decode cX8_reads 170 = .ok (.iconst 1, 1) := by decide +kernel
theorem dX8_reads_171 : decode cX8_reads 171 = .ok (.goto 4, 3) := by decide +kernel
theorem dX8_reads_174 : decode cX8_reads 174 = .ok (.iconst 0, 1) := by decide +kernel
theorem dX8_reads_175 : decode cX8_reads 175 = .ok (.ireturn, 1) := by decide +kernel
set_option maxRecDepth 20000 in
theorem ggX8_calls_X8_hold : GoodIn wsX8_calls wsX8_hold := goodIn_r _ [7, 8, 9, 10, 6, 11, 12, 13, 14, 15, 16, 17, 18, 19, 20, 21, 22, 23, 24, 48, 49, 50, 51, 52, 53, 54, 55, 56, 57, 58, 59, 60, 61, 62, 63, 64, 65] (by decide +kernel) (by decide +kernel)
set_option maxRecDepth 20000 in
theorem gX8_calls_X8_hold : GoodIn wsX8_calls (wsV RX8 168 RX8 yX8_hold wsX8_hold) := goodIn_app (goodIn_of _ (by decide +kernel)) ggX8_calls_X8_hold
set_option maxRecDepth 20000 in
theorem ggX8_calls_X8_free : GoodIn wsX8_calls wsX8_free := goodIn_r _ [28, 8, 9, 10, 6, 11, 12, 13, 14, 22, 23, 24, 15, 16, 17, 18, 19, 20, 21, 29, 30, 31, 32, 48, 49, 50, 51, 52, 53, 54, 55, 56, 57, 58, 59, 60, 61, 62, 63, 64, 65] (by decide +kernel) (by decide +kernel)
set_option maxRecDepth 20000 in
theorem gX8_calls_X8_free : GoodIn wsX8_calls (wsV RX8 171 RX8 yX8_free wsX8_free) := goodIn_app (goodIn_of _ (by decide +kernel)) ggX8_calls_X8_free
set_option maxRecDepth 20000 in
theorem ggX8_calls_X8_move : GoodIn wsX8_calls wsX8_move := goodIn_r _ [36, 8, 9, 10, 6, 11, 12, 13, 14, 15, 16, 17, 18, 19, 20, 21, 22, 23, 24, 37, 38, 39, 40, 41, 42, 43, 44, 45, 46, 47, 48, 49, 50, 51, 52, 53, 54, 55, 56, 57, 58, 59, 60, 61, 62, 63, 64, 65] (by decide +kernel) (by decide +kernel)
set_option maxRecDepth 20000 in
theorem gX8_calls_X8_move : GoodIn wsX8_calls (wsV RX8 174 RX8 yX8_move wsX8_move) := goodIn_app (goodIn_of _ (by decide +kernel)) ggX8_calls_X8_move
theorem dX8_calls_0 : decode cX8_calls 0 = .ok (.aload_n 0, 1) := by decide +kernel
theorem dX8_calls_1 : decode cX8_calls 1 = .ok (.getfield 155, 3) := by decide +kernel
theorem dX8_calls_4 : decode cX8_calls 4 = .ok (.lookupswitch 80 #[(99, 28), (102, 63)], 28) := by decide +kernel
theorem dX8_calls_32 : decode cX8_calls 32 = .ok (.aload_n 0, 1) := by decide +kernel
theorem dX8_calls_33 : decode cX8_calls 33 = .ok (.aload_n 0, 1) := by decide +kernel
theorem dX8_calls_34 : decode cX8_calls 34 = .ok (.getfield 31, 3) := by decide +kernel
theorem dX8_calls_37 : decode cX8_calls 37 = .ok (.iconst 0, 1) := by decide +kernel
theorem dX8_calls_38 : decode cX8_calls 38 = .ok (.iaload, 1) := by decide +kernel
theorem dX8_calls_39 : decode cX8_calls 39 = .ok (.aload_n 0, 1) := by decide +kernel
theorem dX8_calls_40 : decode cX8_calls 40 = .ok (.getfield 31, 3) := by decide +kernel
theorem dX8_calls_43 : decode cX8_calls 43 = .ok (.iconst 1, 1) := by decide +kernel
theorem dX8_calls_44 : decode cX8_calls 44 = .ok (.iaload, 1) := by decide +kernel
theorem dX8_calls_45 : decode cX8_calls 45 = .ok (.aload_n 0, 1) := by decide +kernel
theorem dX8_calls_46 : decode cX8_calls 46 = .ok (.getfield 31, 3) := by decide +kernel
theorem dX8_calls_49 : decode cX8_calls 49 = .ok (.iconst 2, 1) := by decide +kernel
theorem dX8_calls_50 : decode cX8_calls 50 = .ok (.iaload, 1) := by decide +kernel
theorem dX8_calls_51 : decode cX8_calls 51 = .ok (.aload_n 0, 1) := by decide +kernel
theorem dX8_calls_52 : decode cX8_calls 52 = .ok (.getfield 31, 3) := by decide +kernel
theorem dX8_calls_55 : decode cX8_calls 55 = .ok (.iconst 3, 1) := by decide +kernel
theorem dX8_calls_56 : decode cX8_calls 56 = .ok (.iaload, 1) := by decide +kernel
theorem dX8_calls_57 : decode cX8_calls 57 = .ok (.aload_n 0, 1) := by decide +kernel
theorem dX8_calls_58 : decode cX8_calls 58 = .ok (.getfield 31, 3) := by decide +kernel
theorem dX8_calls_61 : decode cX8_calls 61 = .ok (.iconst 4, 1) := by decide +kernel
theorem dX8_calls_62 : decode cX8_calls 62 = .ok (.iaload, 1) := by decide +kernel
theorem dX8_calls_63 : decode cX8_calls 63 = .ok (.invokevirtual 168, 3) := by decide +kernel
theorem dX8_calls_66 : decode cX8_calls 66 = .ok (.ireturn, 1) := by decide +kernel
theorem dX8_calls_67 : decode cX8_calls 67 = .ok (.aload_n 0, 1) := by decide +kernel
theorem dX8_calls_68 : decode cX8_calls 68 = .ok (.aload_n 0, 1) := by decide +kernel
theorem dX8_calls_69 : decode cX8_calls 69 = .ok (.getfield 31, 3) := by decide +kernel
theorem dX8_calls_72 : decode cX8_calls 72 = .ok (.iconst 0, 1) := by decide +kernel
theorem dX8_calls_73 : decode cX8_calls 73 = .ok (.iaload, 1) := by decide +kernel
theorem dX8_calls_74 : decode cX8_calls 74 = .ok (.aload_n 0, 1) := by decide +kernel
theorem dX8_calls_75 : decode cX8_calls 75 = .ok (.getfield 31, 3) := by decide +kernel
theorem dX8_calls_78 : decode cX8_calls 78 = .ok (.iconst 1, 1) := by decide +kernel
theorem dX8_calls_79 : decode cX8_calls 79 = .ok (.iaload, 1) := by decide +kernel
theorem dX8_calls_80 : decode cX8_calls 80 = .ok (.invokevirtual 171, 3) := by decide +kernel
theorem dX8_calls_83 : decode cX8_calls 83 = .ok (.ireturn, 1) := by decide +kernel
theorem dX8_calls_84 : decode cX8_calls 84 = .ok (.aload_n 0, 1) := by decide +kernel
theorem dX8_calls_85 : decode cX8_calls 85 = .ok (.aload_n 0, 1) := by decide +kernel
theorem dX8_calls_86 : decode cX8_calls 86 = .ok (.getfield 31, 3) := by decide +kernel
theorem dX8_calls_89 : decode cX8_calls 89 = .ok (.iconst 0, 1) := by decide +kernel
theorem dX8_calls_90 : decode cX8_calls 90 = .ok (.iaload, 1) := by decide +kernel
theorem dX8_calls_91 : decode cX8_calls 91 = .ok (.aload_n 0, 1) := by decide +kernel
theorem dX8_calls_92 : decode cX8_calls 92 = .ok (.getfield 31, 3) := by decide +kernel
theorem dX8_calls_95 : decode cX8_calls 95 = .ok (.iconst 1, 1) := by decide +kernel
theorem dX8_calls_96 : decode cX8_calls 96 = .ok (.iaload, 1) := by decide +kernel
theorem dX8_calls_97 : decode cX8_calls 97 = .ok (.aload_n 0, 1) := by decide +kernel
theorem dX8_calls_98 : decode cX8_calls 98 = .ok (.getfield 31, 3) := by decide +kernel
theorem dX8_calls_101 : decode cX8_calls 101 = .ok (.iconst 2, 1) := by decide +kernel
theorem dX8_calls_102 : decode cX8_calls 102 = .ok (.iaload, 1) := by decide +kernel
theorem dX8_calls_103 : decode cX8_calls 103 = .ok (.aload_n 0, 1) := by decide +kernel
theorem dX8_calls_104 : decode cX8_calls 104 = .ok (.getfield 31, 3) := by decide +kernel
theorem dX8_calls_107 : decode cX8_calls 107 = .ok (.iconst 3, 1) := by decide +kernel
theorem dX8_calls_108 : decode cX8_calls 108 = .ok (.iaload, 1) := by decide +kernel
theorem dX8_calls_109 : decode cX8_calls 109 = .ok (.invokevirtual 174, 3) := by decide +kernel
theorem dX8_calls_112 : decode cX8_calls 112 = .ok (.ireturn, 1) := by decide +kernel
set_option maxRecDepth 20000 in
theorem ggX8_plays_X8_reads : GoodIn wsX8_plays wsX8_reads := goodIn_r _ [12, 13, 2, 14, 15, 16, 17, 11, 18, 5, 19, 20, 21, 22, 23, 24, 25, 26, 27, 28, 29, 30, 31, 32, 33, 34, 35, 36, 37, 38, 83, 84, 85, 86, 87, 88, 89, 90, 91, 92, 93, 94, 95, 96, 97, 98, 99, 100] (by decide +kernel) (by decide +kernel)
set_option maxRecDepth 20000 in
theorem gX8_plays_X8_reads : GoodIn wsX8_plays (wsV RX8 183 RX8 yX8_reads wsX8_reads) := goodIn_app (goodIn_of _ (by decide +kernel)) ggX8_plays_X8_reads
set_option maxRecDepth 20000 in
theorem ggX8_plays_X8_calls : GoodIn wsX8_plays wsX8_calls := goodIn_r _ [42, 14, 26, 43, 44, 45, 11, 46, 47, 48, 49, 50, 19, 20, 21, 51, 52, 53, 54, 1, 55, 56, 57, 58, 59, 60, 61, 62, 63, 64, 65, 66, 67, 68, 69, 70, 71, 72, 73, 74, 75, 76, 77, 78, 79, 80, 81, 82, 83, 84, 85, 86, 87, 88, 89, 90, 91, 92, 93, 94, 95, 96, 97, 98, 99, 100] (by decide +kernel) (by decide +kernel)
set_option maxRecDepth 20000 in
theorem gX8_plays_X8_calls : GoodIn wsX8_plays (wsV RX8 186 RX8 yX8_calls wsX8_calls) := goodIn_app (goodIn_of _ (by decide +kernel)) ggX8_plays_X8_calls
theorem dX8_plays_0 : decode cX8_plays 0 = .ok (.aload_n 0, 1) := by decide +kernel
theorem dX8_plays_1 : decode cX8_plays 1 = .ok (.iconst 1, 1) := by decide +kernel
theorem dX8_plays_2 : decode cX8_plays 2 = .ok (.putfield 34, 3) := by decide +kernel
theorem dX8_plays_5 : decode cX8_plays 5 = .ok (.aload_n 0, 1) := by decide +kernel
theorem dX8_plays_6 : decode cX8_plays 6 = .ok (.iconst 0, 1) := by decide +kernel
theorem dX8_plays_7 : decode cX8_plays 7 = .ok (.putfield 146, 3) := by decide +kernel
theorem dX8_plays_10 : decode cX8_plays 10 = .ok (.aload_n 0, 1) := by decide +kernel
theorem dX8_plays_11 : decode cX8_plays 11 = .ok (.iconst 0, 1) := by decide +kernel
theorem dX8_plays_12 : decode cX8_plays 12 = .ok (.putfield 177, 3) := by decide +kernel
theorem dX8_plays_15 : decode cX8_plays 15 = .ok (.aload_n 0, 1) := by decide +kernel
theorem dX8_plays_16 : decode cX8_plays 16 = .ok (.iconst 0, 1) := by decide +kernel
theorem dX8_plays_17 : decode cX8_plays 17 = .ok (.putfield 180, 3) := by decide +kernel
theorem dX8_plays_20 : decode cX8_plays 20 = .ok (.iconst 1, 1) := by decide +kernel
theorem dX8_plays_21 : decode cX8_plays 21 = .ok (.istore_n 1, 1) := by decide +kernel
theorem dX8_plays_22 : decode cX8_plays 22 = .ok (.aload_n 0, 1) := by decide +kernel
theorem dX8_plays_23 : decode cX8_plays 23 = .ok (.getfield 146, 3) := by decide +kernel
theorem dX8_plays_26 : decode cX8_plays 26 = .ok (.aload_n 0, 1) := by decide +kernel
theorem dX8_plays_27 : decode cX8_plays 27 = .ok (.getfield 126, 3) := by decide +kernel
theorem dX8_plays_30 : decode cX8_plays 30 = .ok (.if_icmp .ge 81, 3) := by decide +kernel
theorem dX8_plays_33 : decode cX8_plays 33 = .ok (.iload_n 1, 1) := by decide +kernel
theorem dX8_plays_34 : decode cX8_plays 34 = .ok (.ifCond .eq 77, 3) := by decide +kernel
theorem dX8_plays_37 : decode cX8_plays 37 = .ok (.aload_n 0, 1) := by decide +kernel
theorem dX8_plays_38 : decode cX8_plays 38 = .ok (.aload_n 0, 1) := by decide +kernel
theorem dX8_plays_39 : decode cX8_plays 39 = .ok (.getfield 146, 3) := by decide +kernel
theorem dX8_plays_42 : decode cX8_plays 42 = .ok (.putfield 177, 3) := by decide +kernel
theorem dX8_plays_45 : decode cX8_plays 45 = .ok (.aload_n 0, 1) := by decide +kernel
theorem dX8_plays_46 : decode cX8_plays 46 = .ok (.invokevirtual 183, 3) := by decide +kernel
theorem dX8_plays_49 : decode cX8_plays 49 = .ok (.istore_n 2, 1) := by decide +kernel
theorem dX8_plays_50 : decode cX8_plays 50 = .ok (.aload_n 0, 1) := by decide +kernel
theorem dX8_plays_51 : decode cX8_plays 51 = .ok (.iload_n 2, 1) := by decide +kernel
theorem dX8_plays_52 : decode cX8_plays 52 = .ok (.ifCond .eq 10, 3) := by decide +kernel
theorem dX8_plays_55 : decode cX8_plays 55 = .ok (.aload_n 0, 1) := by decide +kernel
theorem dX8_plays_56 : decode cX8_plays 56 = .ok (.invokevirtual 186, 3) := by decide +kernel
theorem dX8_plays_59 : decode cX8_plays 59 = .ok (.goto 6, 3) := by decide +kernel
theorem dX8_plays_62 : decode cX8_plays 62 = .ok (.sipush (-1004), 3) := by decide +kernel
theorem dX8_plays_65 : decode cX8_plays 65 = .ok (.putfield 189, 3) := by decide +kernel
theorem dX8_plays_68 : decode cX8_plays 68 = .ok (.iload_n 2, 1) := by decide +kernel
theorem dX8_plays_69 : decode cX8_plays 69 = .ok (.ifCond .eq 14, 3) := by decide +kernel
theorem dX8_plays_72 : decode cX8_plays 72 = .ok (.aload_n 0, 1) := by decide +kernel
theorem dX8_plays_73 : decode cX8_plays 73 = .ok (.getfield 189, 3) := by decide +kernel
theorem dX8_plays_76 : decode cX8_plays 76 = .ok (.ifCond .lt 7, 3) := by decide +kernel
theorem dX8_plays_79 : decode cX8_plays 79 = .ok (.iconst 1, 1) := by decide +kernel
theorem dX8_plays_80 : decode cX8_plays 80 = .ok (.goto 4, 3) := by decide +kernel
theorem dX8_plays_83 : decode cX8_plays 83 = .ok (.iconst 0, 1) := by decide +kernel
theorem dX8_plays_84 : decode cX8_plays 84 = .ok (.istore_n 1, 1) := by decide +kernel
theorem dX8_plays_85 : decode cX8_plays 85 = .ok (.aload_n 0, 1) := by decide +kernel
theorem dX8_plays_86 : decode cX8_plays 86 = .ok (.iload_n 2, 1) := by decide +kernel
theorem dX8_plays_87 : decode cX8_plays 87 = .ok (.ifCond .eq 7, 3) := by decide +kernel
theorem dX8_plays_90 : decode cX8_plays 90 = .ok (.iconst 2, 1) := by decide +kernel
theorem dX8_plays_91 : decode cX8_plays 91 = .ok (.goto 4, 3) := by decide +kernel
theorem dX8_plays_94 : decode cX8_plays 94 = .ok (.iconst 1, 1) := by decide +kernel
theorem dX8_plays_95 : decode cX8_plays 95 = .ok (.putfield 192, 3) := by decide +kernel
theorem dX8_plays_98 : decode cX8_plays 98 = .ok (.aload_n 0, 1) := by decide +kernel
theorem dX8_plays_99 : decode cX8_plays 99 = .ok (.dup, 1) := by decide +kernel
theorem dX8_plays_100 : decode cX8_plays 100 = .ok (.getfield 180, 3) := by decide +kernel
theorem dX8_plays_103 : decode cX8_plays 103 = .ok (.iconst 1, 1) := by decide +kernel
theorem dX8_plays_104 : decode cX8_plays 104 = .ok (.iadd, 1) := by decide +kernel
theorem dX8_plays_105 : decode cX8_plays 105 = .ok (.putfield 180, 3) := by decide +kernel
theorem dX8_plays_108 : decode cX8_plays 108 = .ok (.goto (-86), 3) := by decide +kernel
theorem dX8_plays_111 : decode cX8_plays 111 = .ok (.aload_n 0, 1) := by decide +kernel
theorem dX8_plays_112 : decode cX8_plays 112 = .ok (.iconst 0, 1) := by decide +kernel
theorem dX8_plays_113 : decode cX8_plays 113 = .ok (.putfield 34, 3) := by decide +kernel
theorem dX8_plays_116 : decode cX8_plays 116 = .ok (.iload_n 1, 1) := by decide +kernel
theorem dX8_plays_117 : decode cX8_plays 117 = .ok (.ireturn, 1) := by decide +kernel
set_option maxRecDepth 20000 in
theorem ggX8_fault_X8_in : GoodIn wsX8_fault wsX8_in := goodIn_r _ [9] (by decide +kernel) (by decide +kernel)
set_option maxRecDepth 20000 in
theorem gX8_fault_X8_in : GoodIn wsX8_fault (va_wsS RX8 42 yX8_in wsX8_in) := goodIn_app (goodIn_of _ (by decide +kernel)) ggX8_fault_X8_in
set_option maxRecDepth 20000 in
theorem ggX8_fault_X8_copies : GoodIn wsX8_fault wsX8_copies := goodIn_r _ [12] (by decide +kernel) (by decide +kernel)
set_option maxRecDepth 20000 in
theorem gX8_fault_X8_copies : GoodIn wsX8_fault (va_wsS RX8 142 yX8_copies wsX8_copies) := goodIn_app (goodIn_of _ (by decide +kernel)) ggX8_fault_X8_copies
set_option maxRecDepth 20000 in
theorem ggX8_fault_X8_plays : GoodIn wsX8_fault wsX8_plays := goodIn_r _ [16, 17, 18, 3, 19, 20, 5, 4, 21, 22, 23, 8, 24, 25, 26, 27, 28, 29, 30, 6, 7, 9, 31, 32, 33, 34, 35, 36, 37, 38, 39, 40, 41, 42, 43, 44, 45, 46, 47, 48, 49, 50, 51, 52, 53, 54, 55, 1, 56, 57, 58, 59, 60, 61, 62, 63, 64, 65, 66, 67, 68, 69, 70, 71, 72, 73, 74, 75, 76, 77, 78, 79, 80, 81, 82, 83, 84, 85, 86, 87, 88, 89, 90, 91, 92, 93, 94, 95, 96, 97, 98, 99, 100, 101, 102, 103, 104, 105, 106, 107, 108] (by decide +kernel) (by decide +kernel)
set_option maxRecDepth 20000 in
theorem gX8_fault_X8_plays : GoodIn wsX8_fault (wsV RX8 195 RX8 yX8_plays wsX8_plays) := goodIn_app (goodIn_of _ (by decide +kernel)) ggX8_fault_X8_plays
theorem dX8_fault_0 : decode cX8_fault 0 = .ok (.iload_n 1, 1) := by decide +kernel
theorem dX8_fault_1 : decode cX8_fault 1 = .ok (.iconst 0, 1) := by decide +kernel
theorem dX8_fault_2 : decode cX8_fault 2 = .ok (.iconst 2, 1) := by decide +kernel
theorem dX8_fault_3 : decode cX8_fault 3 = .ok (.invokestatic 42, 3) := by decide +kernel
theorem dX8_fault_6 : decode cX8_fault 6 = .ok (.ifCond .ne 7, 3) := by decide +kernel
theorem dX8_fault_9 : decode cX8_fault 9 = .ok (.sipush (-1001), 3) := by decide +kernel
theorem dX8_fault_12 : decode cX8_fault 12 = .ok (.ireturn, 1) := by decide +kernel
theorem dX8_fault_13 : decode cX8_fault 13 = .ok (.aload_n 0, 1) := by decide +kernel
theorem dX8_fault_14 : decode cX8_fault 14 = .ok (.getfield 7, 3) := by decide +kernel
theorem dX8_fault_17 : decode cX8_fault 17 = .ok (.aload_n 0, 1) := by decide +kernel
theorem dX8_fault_18 : decode cX8_fault 18 = .ok (.getfield 19, 3) := by decide +kernel
theorem dX8_fault_21 : decode cX8_fault 21 = .ok (.invokestatic 142, 3) := by decide +kernel
theorem dX8_fault_24 : decode cX8_fault 24 = .ok (.aload_n 0, 1) := by decide +kernel
theorem dX8_fault_25 : decode cX8_fault 25 = .ok (.invokevirtual 195, 3) := by decide +kernel
theorem dX8_fault_28 : decode cX8_fault 28 = .ok (.istore_n 2, 1) := by decide +kernel
theorem dX8_fault_29 : decode cX8_fault 29 = .ok (.aload_n 0, 1) := by decide +kernel
theorem dX8_fault_30 : decode cX8_fault 30 = .ok (.getfield 19, 3) := by decide +kernel
theorem dX8_fault_33 : decode cX8_fault 33 = .ok (.aload_n 0, 1) := by decide +kernel
theorem dX8_fault_34 : decode cX8_fault 34 = .ok (.getfield 7, 3) := by decide +kernel
theorem dX8_fault_37 : decode cX8_fault 37 = .ok (.invokestatic 142, 3) := by decide +kernel
theorem dX8_fault_40 : decode cX8_fault 40 = .ok (.iload_n 2, 1) := by decide +kernel
theorem dX8_fault_41 : decode cX8_fault 41 = .ok (.ifCond .eq 9, 3) := by decide +kernel
theorem dX8_fault_44 : decode cX8_fault 44 = .ok (.sipush (-1004), 3) := by decide +kernel
theorem dX8_fault_47 : decode cX8_fault 47 = .ok (.goto 30, 3) := by decide +kernel
theorem dX8_fault_50 : decode cX8_fault 50 = .ok (.iload_n 1, 1) := by decide +kernel
theorem dX8_fault_51 : decode cX8_fault 51 = .ok (.ifCond .ne 10, 3) := by decide +kernel
theorem dX8_fault_54 : decode cX8_fault 54 = .ok (.aload_n 0, 1) := by decide +kernel
theorem dX8_fault_55 : decode cX8_fault 55 = .ok (.getfield 177, 3) := by decide +kernel
theorem dX8_fault_58 : decode cX8_fault 58 = .ok (.goto 19, 3) := by decide +kernel
theorem dX8_fault_61 : decode cX8_fault 61 = .ok (.iload_n 1, 1) := by decide +kernel
theorem dX8_fault_62 : decode cX8_fault 62 = .ok (.iconst 1, 1) := by decide +kernel
theorem dX8_fault_63 : decode cX8_fault 63 = .ok (.if_icmp .ne 10, 3) := by decide +kernel
theorem dX8_fault_66 : decode cX8_fault 66 = .ok (.aload_n 0, 1) := by decide +kernel
theorem dX8_fault_67 : decode cX8_fault 67 = .ok (.getfield 192, 3) := by decide +kernel
theorem dX8_fault_70 : decode cX8_fault 70 = .ok (.goto 7, 3) := by decide +kernel
theorem dX8_fault_73 : decode cX8_fault 73 = .ok (.aload_n 0, 1) := by decide +kernel
theorem dX8_fault_74 : decode cX8_fault 74 = .ok (.getfield 189, 3) := by decide +kernel
theorem dX8_fault_77 : decode cX8_fault 77 = .ok (.ireturn, 1) := by decide +kernel
set_option maxRecDepth 20000 in
theorem ggX8_play_X8_copies : GoodIn wsX8_play wsX8_copies := goodIn_r _ [7] (by decide +kernel) (by decide +kernel)
set_option maxRecDepth 20000 in
theorem gX8_play_X8_copies : GoodIn wsX8_play (va_wsS RX8 142 yX8_copies wsX8_copies) := goodIn_app (goodIn_of _ (by decide +kernel)) ggX8_play_X8_copies
set_option maxRecDepth 20000 in
theorem ggX8_play_X8_plays : GoodIn wsX8_play wsX8_plays := goodIn_r _ [11, 12, 13, 14, 3, 15, 16, 17, 18, 19, 20, 6, 21, 22, 23, 24, 25, 26, 27, 28, 29, 30, 31, 32, 33, 34, 35, 36, 37, 38, 39, 40, 41, 42, 43, 44, 45, 46, 47, 48, 49, 50, 51, 52, 53, 54, 55, 1, 56, 57, 58, 59, 60, 61, 62, 63, 64, 65, 66, 67, 68, 69, 70, 71, 72, 73, 74, 75, 76, 77, 78, 79, 80, 81, 82, 83, 84, 85, 86, 87, 88, 89, 90, 91, 92, 93, 94, 95, 96, 97, 98, 99, 100, 101, 102, 103, 104, 105, 106, 107, 108] (by decide +kernel) (by decide +kernel)
set_option maxRecDepth 20000 in
theorem gX8_play_X8_plays : GoodIn wsX8_play (wsV RX8 195 RX8 yX8_plays wsX8_plays) := goodIn_app (goodIn_of _ (by decide +kernel)) ggX8_play_X8_plays
set_option maxRecDepth 20000 in
theorem ggX8_play_X8_changes : GoodIn wsX8_play wsX8_changes := goodIn_r _ [62, 12, 63, 64, 1, 91, 92, 93, 94, 95, 96, 97, 98, 99, 100, 101, 102, 103, 104, 105, 106, 107, 108] (by decide +kernel) (by decide +kernel)
set_option maxRecDepth 20000 in
theorem gX8_play_X8_changes : GoodIn wsX8_play (wsV RX8 50 RX8 yX8_changes wsX8_changes) := goodIn_app (goodIn_of _ (by decide +kernel)) ggX8_play_X8_changes
theorem dX8_play_0 : decode cX8_play 0 = .ok (.aload_n 0, 1) := by decide +kernel
theorem dX8_play_1 : decode cX8_play 1 = .ok (.getfield 7, 3) := by decide +kernel
theorem dX8_play_4 : decode cX8_play 4 = .ok (.aload_n 0, 1) := by decide +kernel
theorem dX8_play_5 : decode cX8_play 5 = .ok (.getfield 19, 3) := by decide +kernel
theorem dX8_play_8 : decode cX8_play 8 = .ok (.invokestatic 142, 3) := by decide +kernel
theorem dX8_play_11 : decode cX8_play 11 = .ok (.aload_n 0, 1) := by decide +kernel
theorem dX8_play_12 : decode cX8_play 12 = .ok (.invokevirtual 195, 3) := by decide +kernel
theorem dX8_play_15 : decode cX8_play 15 = .ok (.istore_n 1, 1) := by decide +kernel
theorem dX8_play_16 : decode cX8_play 16 = .ok (.aload_n 0, 1) := by decide +kernel
theorem dX8_play_17 : decode cX8_play 17 = .ok (.getfield 19, 3) := by decide +kernel
theorem dX8_play_20 : decode cX8_play 20 = .ok (.aload_n 0, 1) := by decide +kernel
theorem dX8_play_21 : decode cX8_play 21 = .ok (.getfield 7, 3) := by decide +kernel
theorem dX8_play_24 : decode cX8_play 24 = .ok (.invokestatic 142, 3) := by decide +kernel
theorem dX8_play_27 : decode cX8_play 27 = .ok (.iload_n 1, 1) := by decide +kernel
theorem dX8_play_28 : decode cX8_play 28 = .ok (.ifCond .ne 7, 3) := by decide +kernel
theorem dX8_play_31 : decode cX8_play 31 = .ok (.sipush (-1002), 3) := by decide +kernel
theorem dX8_play_34 : decode cX8_play 34 = .ok (.ireturn, 1) := by decide +kernel
theorem dX8_play_35 : decode cX8_play 35 = .ok (.aload_n 0, 1) := by decide +kernel
theorem dX8_play_36 : decode cX8_play 36 = .ok (.invokevirtual 50, 3) := by decide +kernel
theorem dX8_play_39 : decode cX8_play 39 = .ok (.aload_n 0, 1) := by decide +kernel
theorem dX8_play_40 : decode cX8_play 40 = .ok (.invokevirtual 195, 3) := by decide +kernel
theorem dX8_play_43 : decode cX8_play 43 = .ok (.ifCond .eq 10, 3) := by decide +kernel
theorem dX8_play_46 : decode cX8_play 46 = .ok (.aload_n 0, 1) := by decide +kernel
theorem dX8_play_47 : decode cX8_play 47 = .ok (.getfield 180, 3) := by decide +kernel
theorem dX8_play_50 : decode cX8_play 50 = .ok (.goto 6, 3) := by decide +kernel
theorem dX8_play_53 : decode cX8_play 53 = .ok (.sipush (-1004), 3) := by decide +kernel
theorem dX8_play_56 : decode cX8_play 56 = .ok (.ireturn, 1) := by decide +kernel
theorem dJ9_floorDiv_7cf53_0 : decode cJ9_floorDiv_7cf53 0 = .ok (.iload_n 0, 1) := by decide +kernel
theorem dJ9_floorDiv_7cf53_1 : decode cJ9_floorDiv_7cf53 1 = .ok (.iload_n 1, 1) := by decide +kernel
theorem dJ9_floorDiv_7cf53_2 : decode cJ9_floorDiv_7cf53 2 = .ok (.idiv, 1) := by decide +kernel
theorem dJ9_floorDiv_7cf53_3 : decode cJ9_floorDiv_7cf53 3 = .ok (.istore_n 2, 1) := by decide +kernel
theorem dJ9_floorDiv_7cf53_4 : decode cJ9_floorDiv_7cf53 4 = .ok (.iload_n 0, 1) := by decide +kernel
theorem dJ9_floorDiv_7cf53_5 : decode cJ9_floorDiv_7cf53 5 = .ok (.iload_n 1, 1) := by decide +kernel
theorem dJ9_floorDiv_7cf53_6 : decode cJ9_floorDiv_7cf53 6 = .ok (.ixor, 1) := by decide +kernel
theorem dJ9_floorDiv_7cf53_7 : decode cJ9_floorDiv_7cf53 7 = .ok (.ifCond .ge 14, 3) := by decide +kernel
theorem dJ9_floorDiv_7cf53_10 : decode cJ9_floorDiv_7cf53 10 = .ok (.iload_n 2, 1) := by decide +kernel
theorem dJ9_floorDiv_7cf53_11 : decode cJ9_floorDiv_7cf53 11 = .ok (.iload_n 1, 1) := by decide +kernel
theorem dJ9_floorDiv_7cf53_12 : decode cJ9_floorDiv_7cf53 12 = .ok (.imul, 1) := by decide +kernel
theorem dJ9_floorDiv_7cf53_13 : decode cJ9_floorDiv_7cf53 13 = .ok (.iload_n 0, 1) := by decide +kernel
theorem dJ9_floorDiv_7cf53_14 : decode cJ9_floorDiv_7cf53 14 = .ok (.if_icmp .eq 7, 3) := by decide +kernel
theorem dJ9_floorDiv_7cf53_17 : decode cJ9_floorDiv_7cf53 17 = .ok (.iload_n 2, 1) := by decide +kernel
theorem dJ9_floorDiv_7cf53_18 : decode cJ9_floorDiv_7cf53 18 = .ok (.iconst 1, 1) := by decide +kernel
theorem dJ9_floorDiv_7cf53_19 : decode cJ9_floorDiv_7cf53 19 = .ok (.isub, 1) := by decide +kernel
theorem dJ9_floorDiv_7cf53_20 : decode cJ9_floorDiv_7cf53 20 = .ok (.ireturn, 1) := by decide +kernel
theorem dJ9_floorDiv_7cf53_21 : decode cJ9_floorDiv_7cf53 21 = .ok (.iload_n 2, 1) := by decide +kernel
theorem dJ9_floorDiv_7cf53_22 : decode cJ9_floorDiv_7cf53 22 = .ok (.ireturn, 1) := by decide +kernel
theorem dJ9_abs_0f7a4_0 : decode cJ9_abs_0f7a4 0 = .ok (.iload_n 0, 1) := by decide +kernel
theorem dJ9_abs_0f7a4_1 : decode cJ9_abs_0f7a4 1 = .ok (.ifCond .ge 8, 3) := by decide +kernel
theorem dJ9_abs_0f7a4_4 : decode cJ9_abs_0f7a4 4 = .ok (.iload_n 0, 1) := by decide +kernel
theorem dJ9_abs_0f7a4_5 : decode cJ9_abs_0f7a4 5 = .ok (.ineg, 1) := by decide +kernel
theorem dJ9_abs_0f7a4_6 : decode cJ9_abs_0f7a4 6 = .ok (.goto 4, 3) := by decide +kernel
theorem dJ9_abs_0f7a4_9 : decode cJ9_abs_0f7a4 9 = .ok (.iload_n 0, 1) := by decide +kernel
theorem dJ9_abs_0f7a4_10 : decode cJ9_abs_0f7a4 10 = .ok (.ireturn, 1) := by decide +kernel
theorem dJ9_max_7cf53_0 : decode cJ9_max_7cf53 0 = .ok (.iload_n 0, 1) := by decide +kernel
theorem dJ9_max_7cf53_1 : decode cJ9_max_7cf53 1 = .ok (.iload_n 1, 1) := by decide +kernel
theorem dJ9_max_7cf53_2 : decode cJ9_max_7cf53 2 = .ok (.if_icmp .lt 7, 3) := by decide +kernel
theorem dJ9_max_7cf53_5 : decode cJ9_max_7cf53 5 = .ok (.iload_n 0, 1) := by decide +kernel
theorem dJ9_max_7cf53_6 : decode cJ9_max_7cf53 6 = .ok (.goto 4, 3) := by decide +kernel
theorem dJ9_max_7cf53_9 : decode cJ9_max_7cf53 9 = .ok (.iload_n 1, 1) := by decide +kernel
theorem dJ9_max_7cf53_10 : decode cJ9_max_7cf53 10 = .ok (.ireturn, 1) := by decide +kernel
theorem dJ9_min_7cf53_0 : decode cJ9_min_7cf53 0 = .ok (.iload_n 0, 1) := by decide +kernel
theorem dJ9_min_7cf53_1 : decode cJ9_min_7cf53 1 = .ok (.iload_n 1, 1) := by decide +kernel
theorem dJ9_min_7cf53_2 : decode cJ9_min_7cf53 2 = .ok (.if_icmp .gt 7, 3) := by decide +kernel
theorem dJ9_min_7cf53_5 : decode cJ9_min_7cf53 5 = .ok (.iload_n 0, 1) := by decide +kernel
theorem dJ9_min_7cf53_6 : decode cJ9_min_7cf53 6 = .ok (.goto 4, 3) := by decide +kernel
theorem dJ9_min_7cf53_9 : decode cJ9_min_7cf53 9 = .ok (.iload_n 1, 1) := by decide +kernel
theorem dJ9_min_7cf53_10 : decode cJ9_min_7cf53 10 = .ok (.ireturn, 1) := by decide +kernel
set_option maxRecDepth 20000 in
theorem ggL_law_X7_init : GoodIn wsL_law wsX7_init := goodIn_r _ [8, 9, 10, 11, 12, 13, 14, 15, 16, 17, 18, 19, 20, 21, 22, 23, 24, 25, 26, 27, 28, 29, 30, 31, 32, 33, 34, 35, 36, 37, 38, 39, 40, 41, 42, 43, 44, 45, 46, 47, 48, 49, 50, 51, 52, 53, 54, 55, 56, 57, 58, 59, 60, 61, 62, 63, 64, 65, 66, 67, 68, 69, 70, 71, 72, 73, 74, 75, 76, 77, 78, 79, 80, 81, 82, 83, 84, 85, 86, 87, 88, 89, 90, 91, 736, 737, 738, 739, 740, 706, 707, 708, 709, 710, 711, 712, 713, 714, 715, 716, 717, 741, 742, 743, 744, 745, 746, 747, 748, 749, 750, 751, 752, 753, 754, 755, 756, 757, 758, 759, 760, 761, 762] (by decide +kernel) (by decide +kernel)
set_option maxRecDepth 20000 in
theorem gL_law_X7_init : GoodIn wsL_law (wsX7_init) := ggL_law_X7_init
set_option maxRecDepth 20000 in
theorem ggL_law_X8_init : GoodIn wsL_law wsX8_init := goodIn_r _ [94, 95, 10, 11, 32, 96, 97, 98, 99, 100, 101, 102, 103, 718, 719, 720, 721, 722, 723, 724, 725, 726, 727, 728, 729, 730, 731, 732, 733, 734, 735] (by decide +kernel) (by decide +kernel)
set_option maxRecDepth 20000 in
theorem gL_law_X8_init : GoodIn wsL_law (wsX8_init) := ggL_law_X8_init
set_option maxRecDepth 20000 in
theorem ggL_law_X7_hold : GoodIn wsL_law wsX7_hold := goodIn_r _ [107, 15, 108, 22, 109, 110, 2, 111, 112, 113, 114, 115, 116, 117, 118, 119, 120, 121, 122, 123, 21, 124, 57, 58, 59, 125, 126, 127, 14, 128, 47, 129, 130, 131, 132, 48, 49, 50, 51, 133, 134, 135, 136, 706, 707, 708, 709, 710, 711, 712, 713, 714, 715, 716, 717, 736, 737, 738, 739, 740, 741, 742, 743] (by decide +kernel) (by decide +kernel)
set_option maxRecDepth 20000 in
theorem gL_law_X7_hold : GoodIn wsL_law (wsV RL 13 RX7 yX7_hold wsX7_hold) := goodIn_app (goodIn_of _ (by decide +kernel)) ggL_law_X7_hold
set_option maxRecDepth 20000 in
theorem ggL_law_X8_hold : GoodIn wsL_law wsX8_hold := goodIn_r _ [140, 96, 141, 142, 5, 143, 144, 145, 146, 147, 148, 149, 150, 151, 152, 97, 153, 154, 155, 718, 719, 720, 721, 722, 723, 724, 725, 726, 727, 728, 729, 730, 731, 732, 733, 734, 735] (by decide +kernel) (by decide +kernel)
set_option maxRecDepth 20000 in
theorem gL_law_X8_hold : GoodIn wsL_law (wsV RL 17 RX8 yX8_hold wsX8_hold) := goodIn_app (goodIn_of _ (by decide +kernel)) ggL_law_X8_hold
set_option maxRecDepth 20000 in
theorem ggL_law_X7_free : GoodIn wsL_law wsX7_free := goodIn_r _ [159, 15, 22, 108, 160, 161, 2, 162, 109, 110, 111, 112, 113, 114, 118, 119, 120, 121, 122, 123, 21, 124, 57, 58, 59, 125, 126, 127, 14, 128, 47, 129, 130, 131, 132, 48, 49, 50, 51, 163, 164, 165, 166, 706, 707, 708, 709, 710, 711, 712, 713, 714, 715, 716, 717, 736, 737, 738, 739, 740, 741, 742, 743] (by decide +kernel) (by decide +kernel)
set_option maxRecDepth 20000 in
theorem gL_law_X7_free : GoodIn wsL_law (wsV RL 18 RX7 yX7_free wsX7_free) := goodIn_app (goodIn_of _ (by decide +kernel)) ggL_law_X7_free
set_option maxRecDepth 20000 in
theorem ggL_law_X8_free : GoodIn wsL_law wsX8_free := goodIn_r _ [170, 96, 141, 142, 5, 143, 144, 145, 146, 153, 154, 155, 147, 148, 149, 150, 151, 152, 97, 171, 172, 173, 174, 718, 719, 720, 721, 722, 723, 724, 725, 726, 727, 728, 729, 730, 731, 732, 733, 734, 735] (by decide +kernel) (by decide +kernel)
set_option maxRecDepth 20000 in
theorem gL_law_X8_free : GoodIn wsL_law (wsV RL 22 RX8 yX8_free wsX8_free) := goodIn_app (goodIn_of _ (by decide +kernel)) ggL_law_X8_free
set_option maxRecDepth 20000 in
theorem ggL_law_X7_move : GoodIn wsL_law wsX7_move := goodIn_r _ [178, 22, 15, 109, 110, 2, 111, 112, 113, 114, 179, 180, 181, 121, 122, 123, 21, 124, 57, 58, 59, 125, 126, 127, 14, 128, 47, 129, 130, 131, 132, 48, 49, 50, 51, 118, 119, 120, 182, 183, 184, 185, 186, 187, 188, 189, 190, 191, 192, 193, 194, 195, 196, 197, 198, 706, 707, 708, 709, 710, 711, 712, 713, 714, 715, 716, 717, 741, 742, 743, 736, 737, 738, 739, 740] (by decide +kernel) (by decide +kernel)
set_option maxRecDepth 20000 in
theorem gL_law_X7_move : GoodIn wsL_law (wsV RL 23 RX7 yX7_move wsX7_move) := goodIn_app (goodIn_of _ (by decide +kernel)) ggL_law_X7_move
set_option maxRecDepth 20000 in
theorem ggL_law_X8_move : GoodIn wsL_law wsX8_move := goodIn_r _ [202, 96, 141, 142, 5, 143, 144, 145, 146, 147, 148, 149, 150, 151, 152, 97, 153, 154, 155, 203, 204, 205, 206, 207, 208, 209, 210, 211, 212, 213, 718, 719, 720, 721, 722, 723, 724, 725, 726, 727, 728, 729, 730, 731, 732, 733, 734, 735] (by decide +kernel) (by decide +kernel)
set_option maxRecDepth 20000 in
theorem gL_law_X8_move : GoodIn wsL_law (wsV RL 27 RX8 yX8_move wsX8_move) := goodIn_app (goodIn_of _ (by decide +kernel)) ggL_law_X8_move
set_option maxRecDepth 20000 in
theorem ggL_law_X7_slope : GoodIn wsL_law wsX7_slope := goodIn_r _ [217, 15, 22, 218, 109, 110, 2, 111, 112, 113, 114, 219, 220, 221, 118, 119, 120, 222, 223, 224, 14, 225, 51, 226, 227, 228, 229, 230, 231, 232, 233, 234, 235, 49, 236, 237, 238, 239, 121, 122, 123, 21, 124, 57, 58, 59, 125, 126, 127, 128, 47, 129, 130, 131, 132, 48, 50, 240, 706, 707, 708, 709, 710, 711, 712, 713, 714, 715, 716, 717, 736, 737, 738, 739, 740, 741, 742, 743] (by decide +kernel) (by decide +kernel)
set_option maxRecDepth 20000 in
theorem gL_law_X7_slope : GoodIn wsL_law (wsV RL 28 RX7 yX7_slope wsX7_slope) := goodIn_app (goodIn_of _ (by decide +kernel)) ggL_law_X7_slope
set_option maxRecDepth 20000 in
theorem ggL_law_X8_slope : GoodIn wsL_law wsX8_slope := goodIn_r _ [244, 96, 141, 142, 5, 143, 144, 145, 146, 147, 148, 149, 150, 151, 152, 97, 245, 246, 247, 248, 153, 154, 155, 249, 250, 251, 718, 719, 720, 721, 722, 723, 724, 725, 726, 727, 728, 729, 730, 731, 732, 733, 734, 735] (by decide +kernel) (by decide +kernel)
set_option maxRecDepth 20000 in
theorem gL_law_X8_slope : GoodIn wsL_law (wsV RL 31 RX8 yX8_slope wsX8_slope) := goodIn_app (goodIn_of _ (by decide +kernel)) ggL_law_X8_slope
set_option maxRecDepth 20000 in
theorem ggL_law_X7_loose : GoodIn wsL_law wsX7_loose := goodIn_r _ [255, 15, 22, 109, 110, 2, 111, 112, 113, 114, 118, 119, 120, 256, 257, 258, 14, 259, 51, 121, 122, 123, 21, 124, 57, 58, 59, 125, 126, 127, 128, 47, 129, 130, 131, 132, 48, 49, 50, 260, 261, 262, 263, 706, 707, 708, 709, 710, 711, 712, 713, 714, 715, 716, 717, 736, 737, 738, 739, 740, 741, 742, 743] (by decide +kernel) (by decide +kernel)
set_option maxRecDepth 20000 in
theorem gL_law_X7_loose : GoodIn wsL_law (wsV RL 32 RX7 yX7_loose wsX7_loose) := goodIn_app (goodIn_of _ (by decide +kernel)) ggL_law_X7_loose
set_option maxRecDepth 20000 in
theorem ggL_law_X8_loose : GoodIn wsL_law wsX8_loose := goodIn_r _ [267, 96, 141, 142, 5, 143, 144, 145, 146, 268, 269, 270, 271, 153, 154, 155, 147, 148, 149, 150, 151, 152, 97, 718, 719, 720, 721, 722, 723, 724, 725, 726, 727, 728, 729, 730, 731, 732, 733, 734, 735] (by decide +kernel) (by decide +kernel)
set_option maxRecDepth 20000 in
theorem gL_law_X8_loose : GoodIn wsL_law (wsV RL 35 RX8 yX8_loose wsX8_loose) := goodIn_app (goodIn_of _ (by decide +kernel)) ggL_law_X8_loose
set_option maxRecDepth 20000 in
theorem ggL_law_X7_spread : GoodIn wsL_law wsX7_spread := goodIn_r _ [275, 22, 15, 112, 113, 2, 114, 121, 122, 123, 21, 124, 57, 58, 59, 125, 126, 127, 14, 128, 47, 129, 130, 131, 132, 48, 49, 50, 51, 276, 277, 278, 279, 18, 280, 281, 282, 283, 284, 285, 286, 287, 288, 289, 290, 291, 292, 232, 233, 234, 235, 706, 707, 708, 709, 710, 711, 712, 713, 714, 715, 716, 717, 741, 742, 743, 736, 737, 738, 739, 740] (by decide +kernel) (by decide +kernel)
set_option maxRecDepth 20000 in
theorem gL_law_X7_spread : GoodIn wsL_law (wsV RL 36 RX7 yX7_spread wsX7_spread) := goodIn_app (goodIn_of _ (by decide +kernel)) ggL_law_X7_spread
set_option maxRecDepth 20000 in
theorem ggL_law_X8_spread : GoodIn wsL_law wsX8_spread := goodIn_r _ [296, 144, 145, 5, 146, 147, 148, 149, 150, 151, 152, 97, 96, 297, 298, 299, 300, 101, 301, 302, 303, 304, 141, 142, 143, 153, 154, 155, 305, 306, 307, 718, 719, 720, 721, 722, 723, 724, 725, 726, 727, 728, 729, 730, 731, 732, 733, 734, 735] (by decide +kernel) (by decide +kernel)
set_option maxRecDepth 20000 in
theorem gL_law_X8_spread : GoodIn wsL_law (wsV RL 40 RX8 yX8_spread wsX8_spread) := goodIn_app (goodIn_of _ (by decide +kernel)) ggL_law_X8_spread
set_option maxRecDepth 20000 in
theorem ggL_law_X7_cornerOf : GoodIn wsL_law wsX7_cornerOf := goodIn_r _ [311, 15, 108, 312, 313, 109, 110, 2, 111, 112, 113, 114, 118, 119, 120, 256, 257, 258, 14, 259, 51, 222, 223, 224, 225, 226, 227, 228, 229, 230, 231, 232, 233, 234, 235, 49, 236, 237, 238, 239, 314, 706, 707, 708, 709, 710, 711, 712, 713, 714, 715, 716, 717, 736, 737, 738, 739, 740] (by decide +kernel) (by decide +kernel)
set_option maxRecDepth 20000 in
theorem gL_law_X7_cornerOf : GoodIn wsL_law (wsV RL 41 RX7 yX7_cornerOf wsX7_cornerOf) := goodIn_app (goodIn_of _ (by decide +kernel)) ggL_law_X7_cornerOf
set_option maxRecDepth 20000 in
theorem ggL_law_X8_cornerOf : GoodIn wsL_law wsX8_cornerOf := goodIn_r _ [318, 96, 141, 142, 5, 143, 144, 145, 146, 153, 154, 155, 268, 269, 270, 271, 245, 246, 247, 248, 249, 250, 251, 718, 719, 720, 721, 722, 723, 724, 725, 726, 727, 728, 729, 730, 731, 732, 733, 734, 735] (by decide +kernel) (by decide +kernel)
set_option maxRecDepth 20000 in
theorem gL_law_X8_cornerOf : GoodIn wsL_law (wsV RL 45 RX8 yX8_cornerOf wsX8_cornerOf) := goodIn_app (goodIn_of _ (by decide +kernel)) ggL_law_X8_cornerOf
set_option maxRecDepth 20000 in
theorem ggL_law_X7_point : GoodIn wsL_law wsX7_point := goodIn_r _ [322, 15, 312, 313, 26, 323, 324, 2, 325, 112, 113, 114, 326, 327, 328, 329, 330, 331, 196, 197, 198, 118, 119, 120, 332, 333, 334, 25, 335, 65, 66, 67, 336, 233, 234, 14, 235, 49, 337, 223, 224, 225, 51, 226, 227, 228, 229, 230, 231, 232, 236, 237, 238, 239, 338, 339, 340, 341, 342, 343, 344, 345, 346, 347, 348, 349, 350, 351, 352, 353, 354, 355, 356, 706, 707, 708, 709, 710, 711, 712, 713, 714, 715, 716, 717, 736, 737, 738, 739, 740, 744, 745, 746] (by decide +kernel) (by decide +kernel)
set_option maxRecDepth 20000 in
theorem gL_law_X7_point : GoodIn wsL_law (wsV RL 46 RX7 yX7_point wsX7_point) := goodIn_app (goodIn_of _ (by decide +kernel)) ggL_law_X7_point
set_option maxRecDepth 20000 in
theorem ggL_law_X8_point : GoodIn wsL_law wsX8_point := goodIn_r _ [360, 361, 362, 5, 363, 144, 145, 146, 364, 365, 366, 367, 96, 368, 153, 154, 155, 369, 370, 371, 245, 246, 247, 248, 249, 250, 251, 372, 373, 374, 375, 718, 719, 720, 721, 722, 723, 724, 725, 726, 727, 728, 729, 730, 731, 732, 733, 734, 735] (by decide +kernel) (by decide +kernel)
set_option maxRecDepth 20000 in
theorem gL_law_X8_point : GoodIn wsL_law (wsV RL 49 RX8 yX8_point wsX8_point) := goodIn_app (goodIn_of _ (by decide +kernel)) ggL_law_X8_point
set_option maxRecDepth 20000 in
theorem ggL_law_X7_patchOf : GoodIn wsL_law wsX7_patchOf := goodIn_r _ [379, 15, 31, 26, 380, 323, 324, 2, 325, 112, 113, 114, 381, 191, 192, 14, 193, 47, 48, 194, 195, 196, 197, 198, 118, 119, 120, 382, 383, 384, 385, 50, 386, 387, 388, 389, 390, 391, 345, 392, 393, 394, 395, 30, 396, 72, 73, 397, 333, 334, 25, 335, 65, 66, 67, 336, 233, 234, 235, 49, 337, 223, 224, 225, 51, 226, 227, 228, 229, 230, 231, 232, 236, 237, 238, 239, 398, 339, 340, 341, 342, 343, 344, 346, 347, 348, 349, 350, 351, 352, 353, 354, 355, 356, 399, 400, 401, 402, 403, 404, 405, 406, 407, 408, 409, 410, 411, 412, 413, 414, 706, 707, 708, 709, 710, 711, 712, 713, 714, 715, 716, 717, 747, 748, 736, 737, 738, 739, 740, 744, 745, 746] (by decide +kernel) (by decide +kernel)
set_option maxRecDepth 20000 in
theorem gL_law_X7_patchOf : GoodIn wsL_law (wsV RL 50 RX7 yX7_patchOf wsX7_patchOf) := goodIn_app (goodIn_of _ (by decide +kernel)) ggL_law_X7_patchOf
set_option maxRecDepth 20000 in
theorem ggL_law_X8_patchOf : GoodIn wsL_law wsX8_patchOf := goodIn_r _ [418, 361, 362, 5, 363, 144, 145, 146, 419, 420, 421, 422, 102, 423, 364, 365, 366, 367, 96, 368, 153, 154, 155, 369, 370, 371, 245, 246, 247, 248, 249, 250, 251, 207, 208, 209, 210, 211, 212, 213, 424, 425, 426, 427, 428, 429, 430, 431, 432, 433, 434, 435, 436, 437, 438, 439, 718, 719, 720, 721, 722, 723, 724, 725, 726, 727, 728, 729, 730, 731, 732, 733, 734, 735] (by decide +kernel) (by decide +kernel)
set_option maxRecDepth 20000 in
theorem gL_law_X8_patchOf : GoodIn wsL_law (wsV RL 53 RX8 yX8_patchOf wsX8_patchOf) := goodIn_app (goodIn_of _ (by decide +kernel)) ggL_law_X8_patchOf
set_option maxRecDepth 20000 in
theorem ggL_law_X7_count : GoodIn wsL_law wsX7_count := goodIn_r _ [443, 15, 22, 444, 37, 445, 42, 33, 163, 164, 165, 14, 166, 50, 186, 187, 188, 189, 190, 191, 192, 193, 47, 48, 194, 2, 195, 196, 197, 198, 118, 119, 120, 446, 447, 448, 449, 450, 257, 258, 259, 51, 451, 452, 453, 454, 232, 233, 234, 235, 49, 455, 456, 399, 400, 401, 402, 403, 404, 706, 707, 708, 709, 710, 711, 712, 713, 714, 715, 716, 717, 741, 742, 743, 749, 750, 736, 737, 738, 739, 740] (by decide +kernel) (by decide +kernel)
set_option maxRecDepth 20000 in
theorem gL_law_X7_count : GoodIn wsL_law (wsV RL 54 RX7 yX7_count wsX7_count) := goodIn_app (goodIn_of _ (by decide +kernel)) ggL_law_X7_count
set_option maxRecDepth 20000 in
theorem ggL_law_X8_count : GoodIn wsL_law wsX8_count := goodIn_r _ [460, 152, 461, 462, 171, 172, 173, 5, 174, 96, 203, 204, 205, 206, 207, 208, 209, 210, 211, 212, 213, 153, 154, 155, 463, 464, 465, 466, 268, 269, 270, 271, 467, 468, 469, 470, 102, 423, 424, 425, 426, 427, 718, 719, 720, 721, 722, 723, 724, 725, 726, 727, 728, 729, 730, 731, 732, 733, 734, 735] (by decide +kernel) (by decide +kernel)
set_option maxRecDepth 20000 in
theorem gL_law_X8_count : GoodIn wsL_law (wsV RL 57 RX8 yX8_count wsX8_count) := goodIn_app (goodIn_of _ (by decide +kernel)) ggL_law_X8_count
set_option maxRecDepth 20000 in
theorem ggL_law_X7_agrees : GoodIn wsL_law wsX7_agrees := goodIn_r _ [474, 26, 27, 323, 324, 2, 325, 112, 113, 114, 475, 476, 477, 478, 479, 480, 481, 482, 483, 484, 15, 332, 333, 334, 25, 335, 65, 66, 67, 197, 198, 118, 119, 120, 336, 233, 234, 14, 235, 49, 337, 223, 224, 225, 51, 226, 227, 228, 229, 230, 231, 232, 236, 237, 238, 239, 485, 486, 487, 488, 489, 339, 340, 341, 342, 343, 344, 345, 346, 347, 348, 349, 350, 351, 352, 353, 354, 355, 356, 706, 707, 708, 709, 710, 711, 712, 713, 714, 715, 716, 717, 744, 745, 746, 736, 737, 738, 739, 740] (by decide +kernel) (by decide +kernel)
set_option maxRecDepth 20000 in
theorem gL_law_X7_agrees : GoodIn wsL_law (wsV RL 58 RX7 yX7_agrees wsX7_agrees) := goodIn_app (goodIn_of _ (by decide +kernel)) ggL_law_X7_agrees
set_option maxRecDepth 20000 in
theorem ggL_law_X8_agrees : GoodIn wsL_law wsX8_agrees := goodIn_r _ [493, 361, 362, 5, 363, 144, 145, 146, 494, 495, 496, 497, 498, 499, 500, 364, 365, 366, 367, 96, 368, 153, 154, 155, 369, 370, 371, 245, 246, 247, 248, 249, 250, 251, 718, 719, 720, 721, 722, 723, 724, 725, 726, 727, 728, 729, 730, 731, 732, 733, 734, 735] (by decide +kernel) (by decide +kernel)
set_option maxRecDepth 20000 in
theorem gL_law_X8_agrees : GoodIn wsL_law (wsV RL 61 RX8 yX8_agrees wsX8_agrees) := goodIn_app (goodIn_of _ (by decide +kernel)) ggL_law_X8_agrees
set_option maxRecDepth 20000 in
theorem ggL_law_X7_crease : GoodIn wsL_law wsX7_crease := goodIn_r _ [504, 26, 27, 505, 391, 345, 392, 323, 324, 2, 325, 112, 113, 114, 475, 476, 477, 326, 327, 328, 219, 220, 221, 478, 479, 480, 481, 482, 483, 484, 15, 332, 333, 334, 25, 335, 65, 66, 67, 197, 198, 118, 119, 120, 336, 233, 234, 14, 235, 49, 337, 223, 224, 225, 51, 226, 227, 228, 229, 230, 231, 232, 236, 237, 238, 239, 485, 486, 487, 488, 489, 339, 340, 341, 342, 343, 344, 346, 347, 348, 349, 350, 351, 352, 353, 354, 355, 356, 706, 707, 708, 709, 710, 711, 712, 713, 714, 715, 716, 717, 744, 745, 746, 736, 737, 738, 739, 740] (by decide +kernel) (by decide +kernel)
set_option maxRecDepth 20000 in
theorem gL_law_X7_crease : GoodIn wsL_law (wsV RL 62 RX7 yX7_crease wsX7_crease) := goodIn_app (goodIn_of _ (by decide +kernel)) ggL_law_X7_crease
set_option maxRecDepth 20000 in
theorem ggL_law_X8_crease : GoodIn wsL_law wsX8_crease := goodIn_r _ [509, 361, 362, 5, 363, 144, 145, 146, 494, 495, 496, 497, 498, 499, 500, 364, 365, 366, 367, 96, 368, 153, 154, 155, 369, 370, 371, 245, 246, 247, 248, 249, 250, 251, 718, 719, 720, 721, 722, 723, 724, 725, 726, 727, 728, 729, 730, 731, 732, 733, 734, 735] (by decide +kernel) (by decide +kernel)
set_option maxRecDepth 20000 in
theorem gL_law_X8_crease : GoodIn wsL_law (wsV RL 65 RX8 yX8_crease wsX8_crease) := goodIn_app (goodIn_of _ (by decide +kernel)) ggL_law_X8_crease
set_option maxRecDepth 20000 in
theorem ggL_law_X7_level : GoodIn wsL_law wsX7_level := goodIn_r _ [513, 26, 15, 323, 324, 2, 325, 112, 113, 114, 219, 220, 221, 332, 333, 334, 25, 335, 65, 66, 67, 197, 198, 118, 119, 120, 336, 233, 234, 14, 235, 49, 337, 223, 224, 225, 51, 226, 227, 228, 229, 230, 231, 232, 236, 237, 238, 239, 338, 339, 340, 341, 342, 343, 344, 345, 346, 347, 348, 349, 350, 351, 352, 353, 354, 355, 356, 706, 707, 708, 709, 710, 711, 712, 713, 714, 715, 716, 717, 744, 745, 746, 736, 737, 738, 739, 740] (by decide +kernel) (by decide +kernel)
set_option maxRecDepth 20000 in
theorem gL_law_X7_level : GoodIn wsL_law (wsV RL 66 RX7 yX7_level wsX7_level) := goodIn_app (goodIn_of _ (by decide +kernel)) ggL_law_X7_level
set_option maxRecDepth 20000 in
theorem ggL_law_X8_level : GoodIn wsL_law wsX8_level := goodIn_r _ [517, 361, 362, 5, 363, 144, 145, 146, 364, 365, 366, 367, 96, 368, 153, 154, 155, 369, 370, 371, 245, 246, 247, 248, 249, 250, 251, 718, 719, 720, 721, 722, 723, 724, 725, 726, 727, 728, 729, 730, 731, 732, 733, 734, 735] (by decide +kernel) (by decide +kernel)
set_option maxRecDepth 20000 in
theorem gL_law_X8_level : GoodIn wsL_law (wsV RL 69 RX8 yX8_level wsX8_level) := goodIn_app (goodIn_of _ (by decide +kernel)) ggL_law_X8_level
set_option maxRecDepth 20000 in
theorem ggL_law_X7_nearest : GoodIn wsL_law wsX7_nearest := goodIn_r _ [521, 522, 15, 312, 313, 179, 180, 2, 181, 112, 113, 114, 329, 330, 331, 196, 197, 198, 118, 119, 120, 706, 707, 708, 709, 710, 711, 712, 713, 714, 715, 716, 717, 736, 737, 738, 739, 740] (by decide +kernel) (by decide +kernel)
set_option maxRecDepth 20000 in
theorem gL_law_X7_nearest : GoodIn wsL_law (wsV RL 70 RX7 yX7_nearest wsX7_nearest) := goodIn_app (goodIn_of _ (by decide +kernel)) ggL_law_X7_nearest
set_option maxRecDepth 20000 in
theorem ggL_law_X8_nearest : GoodIn wsL_law wsX8_nearest := goodIn_r _ [526, 144, 145, 5, 146, 372, 373, 374, 375, 96, 153, 154, 155, 718, 719, 720, 721, 722, 723, 724, 725, 726, 727, 728, 729, 730, 731, 732, 733, 734, 735] (by decide +kernel) (by decide +kernel)
set_option maxRecDepth 20000 in
theorem gL_law_X8_nearest : GoodIn wsL_law (wsV RL 73 RX8 yX8_nearest wsX8_nearest) := goodIn_app (goodIn_of _ (by decide +kernel)) ggL_law_X8_nearest
set_option maxRecDepth 20000 in
theorem ggL_law_X7_calm : GoodIn wsL_law wsX7_calm := goodIn_r _ [530, 17, 15, 280, 126, 127, 14, 128, 47, 129, 130, 131, 132, 48, 49, 50, 51, 276, 277, 278, 2, 279, 18, 281, 282, 283, 284, 285, 286, 287, 288, 289, 290, 291, 292, 232, 233, 234, 235, 706, 707, 708, 709, 710, 711, 712, 713, 714, 715, 716, 717, 736, 737, 738, 739, 740] (by decide +kernel) (by decide +kernel)
set_option maxRecDepth 20000 in
theorem gL_law_X7_calm : GoodIn wsL_law (wsV RL 74 RX7 yX7_calm wsX7_calm) := goodIn_app (goodIn_of _ (by decide +kernel)) ggL_law_X7_calm
set_option maxRecDepth 20000 in
theorem ggL_law_X8_calm : GoodIn wsL_law wsX8_calm := goodIn_r _ [534, 96, 99, 535, 536, 5, 537, 297, 298, 299, 300, 101, 301, 302, 303, 304, 141, 142, 143, 144, 145, 146, 153, 154, 155, 305, 306, 307, 718, 719, 720, 721, 722, 723, 724, 725, 726, 727, 728, 729, 730, 731, 732, 733, 734, 735] (by decide +kernel) (by decide +kernel)
set_option maxRecDepth 20000 in
theorem gL_law_X8_calm : GoodIn wsL_law (wsV RL 78 RX8 yX8_calm wsX8_calm) := goodIn_app (goodIn_of _ (by decide +kernel)) ggL_law_X8_calm
set_option maxRecDepth 20000 in
theorem ggL_law_X7_keep : GoodIn wsL_law wsX7_keep := goodIn_r _ [541, 16, 15, 42, 280, 126, 127, 14, 128, 47, 129, 130, 131, 132, 48, 49, 50, 51, 163, 164, 165, 166, 706, 707, 708, 709, 710, 711, 712, 713, 714, 715, 716, 717, 736, 737, 738, 739, 740] (by decide +kernel) (by decide +kernel)
set_option maxRecDepth 20000 in
theorem gL_law_X7_keep : GoodIn wsL_law (wsV RL 79 RX7 yX7_keep wsX7_keep) := goodIn_app (goodIn_of _ (by decide +kernel)) ggL_law_X7_keep
set_option maxRecDepth 20000 in
theorem ggL_law_X8_keep : GoodIn wsL_law wsX8_keep := goodIn_r _ [545, 96, 98, 462, 535, 536, 5, 537, 171, 172, 173, 174, 718, 719, 720, 721, 722, 723, 724, 725, 726, 727, 728, 729, 730, 731, 732, 733, 734, 735] (by decide +kernel) (by decide +kernel)
set_option maxRecDepth 20000 in
theorem gL_law_X8_keep : GoodIn wsL_law (wsV RL 82 RX8 yX8_keep wsX8_keep) := goodIn_app (goodIn_of _ (by decide +kernel)) ggL_law_X8_keep
set_option maxRecDepth 20000 in
theorem ggL_law_X7_restore : GoodIn wsL_law wsX7_restore := goodIn_r _ [549, 42, 22, 15, 16, 121, 122, 123, 21, 124, 57, 58, 59, 125, 126, 127, 14, 128, 47, 129, 130, 131, 132, 48, 49, 50, 51, 280, 163, 164, 165, 166, 706, 707, 708, 709, 710, 711, 712, 713, 714, 715, 716, 717, 741, 742, 743, 736, 737, 738, 739, 740] (by decide +kernel) (by decide +kernel)
set_option maxRecDepth 20000 in
theorem gL_law_X7_restore : GoodIn wsL_law (wsV RL 83 RX7 yX7_restore wsX7_restore) := goodIn_app (goodIn_of _ (by decide +kernel)) ggL_law_X7_restore
set_option maxRecDepth 20000 in
theorem ggL_law_X8_restore : GoodIn wsL_law wsX8_restore := goodIn_r _ [553, 462, 98, 96, 147, 148, 149, 5, 150, 151, 152, 97, 535, 536, 537, 171, 172, 173, 174, 718, 719, 720, 721, 722, 723, 724, 725, 726, 727, 728, 729, 730, 731, 732, 733, 734, 735] (by decide +kernel) (by decide +kernel)
set_option maxRecDepth 20000 in
theorem gL_law_X8_restore : GoodIn wsL_law (wsV RL 86 RX8 yX8_restore wsX8_restore) := goodIn_app (goodIn_of _ (by decide +kernel)) ggL_law_X8_restore
set_option maxRecDepth 20000 in
theorem ggL_law_X7_undo : GoodIn wsL_law wsX7_undo := goodIn_r _ [557, 22, 444, 15, 558, 559, 560, 21, 561, 59, 57, 58, 125, 126, 127, 14, 128, 47, 129, 130, 131, 132, 48, 49, 50, 51, 706, 707, 708, 709, 710, 711, 712, 713, 714, 715, 716, 717, 741, 742, 743, 736, 737, 738, 739, 740] (by decide +kernel) (by decide +kernel)
set_option maxRecDepth 20000 in
theorem gL_law_X7_undo : GoodIn wsL_law (wsV RL 87 RX7 yX7_undo wsX7_undo) := goodIn_app (goodIn_of _ (by decide +kernel)) ggL_law_X7_undo
set_option maxRecDepth 20000 in
theorem ggL_law_X8_undo : GoodIn wsL_law wsX8_undo := goodIn_r _ [565, 152, 96, 97, 718, 719, 720, 721, 722, 723, 724, 725, 726, 727, 728, 729, 730, 731, 732, 733, 734, 735] (by decide +kernel) (by decide +kernel)
set_option maxRecDepth 20000 in
theorem gL_law_X8_undo : GoodIn wsL_law (wsV RL 90 RX8 yX8_undo wsX8_undo) := goodIn_app (goodIn_of _ (by decide +kernel)) ggL_law_X8_undo
set_option maxRecDepth 20000 in
theorem ggL_law_X7_type : GoodIn wsL_law wsX7_type := goodIn_r _ [569, 37, 445, 112, 113, 2, 114, 570, 571, 572, 36, 573, 80, 79, 706, 707, 708, 709, 710, 711, 712, 713, 714, 715, 716, 717, 749, 750] (by decide +kernel) (by decide +kernel)
set_option maxRecDepth 20000 in
theorem gL_law_X7_type : GoodIn wsL_law (wsV RL 91 RX7 yX7_type wsX7_type) := goodIn_app (goodIn_of _ (by decide +kernel)) ggL_law_X7_type
set_option maxRecDepth 20000 in
theorem ggL_law_X8_type : GoodIn wsL_law wsX8_type := goodIn_r _ [577, 461, 100, 144, 145, 5, 146, 718, 719, 720, 721, 722, 723, 724, 725, 726, 727, 728, 729, 730, 731, 732, 733, 734, 735] (by decide +kernel) (by decide +kernel)
set_option maxRecDepth 20000 in
theorem gL_law_X8_type : GoodIn wsL_law (wsV RL 94 RX8 yX8_type wsX8_type) := goodIn_app (goodIn_of _ (by decide +kernel)) ggL_law_X8_type
set_option maxRecDepth 20000 in
theorem ggL_law_X7_clearText : GoodIn wsL_law wsX7_clearText := goodIn_r _ [581, 37, 445, 706, 707, 708, 709, 710, 711, 712, 713, 714, 715, 716, 717, 749, 750] (by decide +kernel) (by decide +kernel)
set_option maxRecDepth 20000 in
theorem gL_law_X7_clearText : GoodIn wsL_law (wsV RL 95 RX7 yX7_clearText wsX7_clearText) := goodIn_app (goodIn_of _ (by decide +kernel)) ggL_law_X7_clearText
set_option maxRecDepth 20000 in
theorem ggL_law_X8_clearText : GoodIn wsL_law wsX8_clearText := goodIn_r _ [585, 461, 718, 719, 720, 721, 722, 723, 724, 725, 726, 727, 728, 729, 730, 731, 732, 733, 734, 735] (by decide +kernel) (by decide +kernel)
set_option maxRecDepth 20000 in
theorem gL_law_X8_clearText : GoodIn wsL_law (wsV RL 98 RX8 yX8_clearText wsX8_clearText) := goodIn_app (goodIn_of _ (by decide +kernel)) ggL_law_X8_clearText
set_option maxRecDepth 20000 in
theorem ggL_law_X7_fault : GoodIn wsL_law wsX7_fault := goodIn_r _ [589, 41, 37, 15, 17, 590, 591, 592, 112, 113, 2, 114, 593, 594, 595, 40, 596, 597, 598, 599, 600, 601, 88, 602, 603, 126, 127, 14, 128, 47, 129, 130, 131, 132, 48, 49, 50, 51, 604, 605, 606, 87, 607, 608, 609, 610, 611, 612, 613, 614, 36, 615, 80, 79, 616, 617, 618, 619, 620, 621, 622, 623, 624, 625, 626, 627, 628, 629, 630, 631, 632, 633, 634, 635, 636, 637, 638, 639, 640, 641, 642, 643, 644, 645, 646, 647, 648, 649, 161, 162, 108, 109, 110, 111, 118, 119, 120, 650, 134, 135, 136, 651, 183, 184, 185, 706, 707, 708, 709, 710, 711, 712, 713, 714, 715, 716, 717, 751, 752, 753, 754, 755, 749, 750, 756, 757, 758, 759, 760, 761, 762, 736, 737, 738, 739, 740] (by decide +kernel) (by decide +kernel)
set_option maxRecDepth 20000 in
theorem gL_law_X7_fault : GoodIn wsL_law (wsV RL 99 RX7 yX7_fault wsX7_fault) := goodIn_app (goodIn_of _ (by decide +kernel)) ggL_law_X7_fault
set_option maxRecDepth 20000 in
theorem ggL_law_X8_fault : GoodIn wsL_law wsX8_fault := goodIn_r _ [655, 96, 99, 656, 657, 658, 144, 145, 5, 146, 535, 536, 537, 659, 660, 661, 662, 151, 663, 664, 461, 665, 666, 667, 668, 100, 669, 670, 671, 672, 673, 674, 675, 676, 677, 103, 678, 679, 680, 681, 682, 683, 684, 685, 686, 687, 688, 689, 690, 691, 692, 693, 694, 138, 139, 140, 141, 142, 143, 147, 148, 149, 150, 152, 97, 153, 154, 155, 695, 168, 169, 170, 171, 172, 173, 174, 696, 200, 201, 202, 203, 204, 205, 206, 207, 208, 209, 210, 211, 212, 213, 718, 719, 720, 721, 722, 723, 724, 725, 726, 727, 728, 729, 730, 731, 732, 733, 734, 735] (by decide +kernel) (by decide +kernel)
set_option maxRecDepth 20000 in
theorem gL_law_X8_fault : GoodIn wsL_law (wsV RL 102 RX8 yX8_fault wsX8_fault) := goodIn_app (goodIn_of _ (by decide +kernel)) ggL_law_X8_fault
set_option maxRecDepth 20000 in
theorem ggL_law_X7_play : GoodIn wsL_law wsX7_play := goodIn_r _ [700, 41, 37, 15, 17, 590, 22, 701, 593, 594, 595, 40, 596, 597, 598, 599, 600, 601, 88, 602, 603, 126, 127, 14, 128, 47, 129, 130, 131, 132, 48, 49, 50, 51, 604, 605, 606, 87, 607, 608, 609, 610, 611, 612, 613, 614, 36, 615, 80, 79, 616, 617, 618, 619, 620, 621, 622, 623, 624, 625, 626, 627, 628, 629, 630, 631, 632, 633, 634, 635, 636, 637, 638, 639, 640, 641, 642, 643, 644, 645, 646, 647, 648, 649, 161, 2, 162, 108, 109, 110, 111, 112, 113, 114, 118, 119, 120, 650, 134, 135, 136, 651, 183, 184, 185, 121, 122, 123, 21, 124, 57, 58, 59, 125, 280, 706, 707, 708, 709, 710, 711, 712, 713, 714, 715, 716, 717, 751, 752, 753, 754, 755, 749, 750, 756, 757, 758, 759, 760, 761, 762, 736, 737, 738, 739, 740, 741, 742, 743] (by decide +kernel) (by decide +kernel)
set_option maxRecDepth 20000 in
theorem gL_law_X7_play : GoodIn wsL_law (wsV RL 103 RX7 yX7_play wsX7_play) := goodIn_app (goodIn_of _ (by decide +kernel)) ggL_law_X7_play
set_option maxRecDepth 20000 in
theorem ggL_law_X8_play : GoodIn wsL_law wsX8_play := goodIn_r _ [705, 96, 99, 664, 535, 536, 5, 537, 659, 660, 661, 662, 151, 663, 656, 461, 658, 657, 665, 666, 667, 668, 100, 669, 670, 671, 672, 673, 144, 145, 146, 674, 675, 676, 677, 103, 678, 679, 680, 681, 682, 683, 684, 685, 686, 687, 688, 689, 690, 691, 692, 693, 694, 138, 139, 140, 141, 142, 143, 147, 148, 149, 150, 152, 97, 153, 154, 155, 695, 168, 169, 170, 171, 172, 173, 174, 696, 200, 201, 202, 203, 204, 205, 206, 207, 208, 209, 210, 211, 212, 213, 718, 719, 720, 721, 722, 723, 724, 725, 726, 727, 728, 729, 730, 731, 732, 733, 734, 735] (by decide +kernel) (by decide +kernel)
set_option maxRecDepth 20000 in
theorem gL_law_X8_play : GoodIn wsL_law (wsV RL 106 RX8 yX8_play wsX8_play) := goodIn_app (goodIn_of _ (by decide +kernel)) ggL_law_X8_play
theorem dL_law_0 : decode cL_law 0 = .ok (.new 7, 3) := by decide +kernel
theorem dL_law_3 : decode cL_law 3 = .ok (.dup, 1) := by decide +kernel
theorem dL_law_4 : decode cL_law 4 = .ok (.invokespecial 9, 3) := by decide +kernel
theorem dL_law_7 : decode cL_law 7 = .ok (.astore_n 1, 1) := by decide +kernel
theorem dL_law_8 : decode cL_law 8 = .ok (.new 10, 3) := by decide +kernel
theorem dL_law_11 : decode cL_law 11 = .ok (.dup, 1) := by decide +kernel
theorem dL_law_12 : decode cL_law 12 = .ok (.invokespecial 12, 3) := by decide +kernel
theorem dL_law_15 : decode cL_law 15 = .ok (.astore_n 2, 1) := by decide +kernel
theorem dL_law_16 : decode cL_law 16 = .ok (.iconst 0, 1) := by decide +kernel
theorem dL_law_17 : decode cL_law 17 = .ok (.istore_n 3, 1) := by decide +kernel
theorem dL_law_18 : decode cL_law 18 = .ok (.iload_n 3, 1) := by decide +kernel
theorem dL_law_19 : decode cL_law 19 = .ok (.aload_n 0, 1) := by decide +kernel
theorem dL_law_20 : decode cL_law 20 = .ok (.arraylength, 1) := by decide +kernel
theorem dL_law_21 : decode cL_law 21 = .ok (.bipush 6, 2) := by decide +kernel
theorem dL_law_23 : decode cL_law 23 = .ok (.isub, 1) := by decide +kernel
theorem dL_law_24 : decode cL_law 24 = .ok (.if_icmp .gt 844, 3) := by decide +kernel
theorem dL_law_27 : decode cL_law 27 = .ok (.aload_n 0, 1) := by decide +kernel
theorem dL_law_28 : decode cL_law 28 = .ok (.iload_n 3, 1) := by decide +kernel
theorem dL_law_29 : decode cL_law 29 = .ok (.iaload, 1) := by decide +kernel
theorem dL_law_30 : decode cL_law 30 = .ok (.bipush 31, 2) := by decide +kernel
theorem dL_law_32 : decode cL_law 32 = .ok (.iand, 1) := by decide +kernel
theorem dL_law_33 : decode cL_law 33 = .ok (.tableswitch 829 0 21 #[103, 166, 199, 252, 315, 348, 371, 414, 467, 500, 523, 556, 609, 662, 705, 718, 731, 744, 757, 780, 793, 816], 103) := by decide +kernel
theorem dL_law_136 : decode cL_law 136 = .ok (.aload_n 1, 1) := by decide +kernel
theorem dL_law_137 : decode cL_law 137 = .ok (.aload_n 0, 1) := by decide +kernel
theorem dL_law_138 : decode cL_law 138 = .ok (.iload_n 3, 1) := by decide +kernel
theorem dL_law_139 : decode cL_law 139 = .ok (.iconst 1, 1) := by decide +kernel
theorem dL_law_140 : decode cL_law 140 = .ok (.iadd, 1) := by decide +kernel
theorem dL_law_141 : decode cL_law 141 = .ok (.iaload, 1) := by decide +kernel
theorem dL_law_142 : decode cL_law 142 = .ok (.aload_n 0, 1) := by decide +kernel
theorem dL_law_143 : decode cL_law 143 = .ok (.iload_n 3, 1) := by decide +kernel
theorem dL_law_144 : decode cL_law 144 = .ok (.iconst 2, 1) := by decide +kernel
theorem dL_law_145 : decode cL_law 145 = .ok (.iadd, 1) := by decide +kernel
theorem dL_law_146 : decode cL_law 146 = .ok (.iaload, 1) := by decide +kernel
theorem dL_law_147 : decode cL_law 147 = .ok (.aload_n 0, 1) := by decide +kernel
theorem dL_law_148 : decode cL_law 148 = .ok (.iload_n 3, 1) := by decide +kernel
theorem dL_law_149 : decode cL_law 149 = .ok (.iconst 3, 1) := by decide +kernel
theorem dL_law_150 : decode cL_law 150 = .ok (.iadd, 1) := by decide +kernel
theorem dL_law_151 : decode cL_law 151 = .ok (.iaload, 1) := by decide +kernel
theorem dL_law_152 : decode cL_law 152 = .ok (.aload_n 0, 1) := by decide +kernel
theorem dL_law_153 : decode cL_law 153 = .ok (.iload_n 3, 1) := by decide +kernel
theorem dL_law_154 : decode cL_law 154 = .ok (.iconst 4, 1) := by decide +kernel
theorem dL_law_155 : decode cL_law 155 = .ok (.iadd, 1) := by decide +kernel
theorem dL_law_156 : decode cL_law 156 = .ok (.iaload, 1) := by decide +kernel
theorem dL_law_157 : decode cL_law 157 = .ok (.aload_n 0, 1) := by decide +kernel
theorem dL_law_158 : decode cL_law 158 = .ok (.iload_n 3, 1) := by decide +kernel
theorem dL_law_159 : decode cL_law 159 = .ok (.iconst 5, 1) := by decide +kernel
theorem dL_law_160 : decode cL_law 160 = .ok (.iadd, 1) := by decide +kernel
theorem dL_law_161 : decode cL_law 161 = .ok (.iaload, 1) := by decide +kernel
theorem dL_law_162 : decode cL_law 162 = .ok (.invokevirtual 13, 3) := by decide +kernel
theorem dL_law_165 : decode cL_law 165 = .ok (.aload_n 2, 1) := by decide +kernel
theorem dL_law_166 : decode cL_law 166 = .ok (.aload_n 0, 1) := by decide +kernel
theorem dL_law_167 : decode cL_law 167 = .ok (.iload_n 3, 1) := by decide +kernel
theorem dL_law_168 : decode cL_law 168 = .ok (.iconst 1, 1) := by decide +kernel
theorem dL_law_169 : decode cL_law 169 = .ok (.iadd, 1) := by decide +kernel
theorem dL_law_170 : decode cL_law 170 = .ok (.iaload, 1) := by decide +kernel
theorem dL_law_171 : decode cL_law 171 = .ok (.aload_n 0, 1) := by decide +kernel
theorem dL_law_172 : decode cL_law 172 = .ok (.iload_n 3, 1) := by decide +kernel
theorem dL_law_173 : decode cL_law 173 = .ok (.iconst 2, 1) := by decide +kernel
theorem dL_law_174 : decode cL_law 174 = .ok (.iadd, 1) := by decide +kernel
theorem dL_law_175 : decode cL_law 175 = .ok (.iaload, 1) := by decide +kernel
theorem dL_law_176 : decode cL_law 176 = .ok (.aload_n 0, 1) := by decide +kernel
theorem dL_law_177 : decode cL_law 177 = .ok (.iload_n 3, 1) := by decide +kernel
theorem dL_law_178 : decode cL_law 178 = .ok (.iconst 3, 1) := by decide +kernel
theorem dL_law_179 : decode cL_law 179 = .ok (.iadd, 1) := by decide +kernel
theorem dL_law_180 : decode cL_law 180 = .ok (.iaload, 1) := by decide +kernel
theorem dL_law_181 : decode cL_law 181 = .ok (.aload_n 0, 1) := by decide +kernel
theorem dL_law_182 : decode cL_law 182 = .ok (.iload_n 3, 1) := by decide +kernel
theorem dL_law_183 : decode cL_law 183 = .ok (.iconst 4, 1) := by decide +kernel
theorem dL_law_184 : decode cL_law 184 = .ok (.iadd, 1) := by decide +kernel
theorem dL_law_185 : decode cL_law 185 = .ok (.iaload, 1) := by decide +kernel
theorem dL_law_186 : decode cL_law 186 = .ok (.aload_n 0, 1) := by decide +kernel
theorem dL_law_187 : decode cL_law 187 = .ok (.iload_n 3, 1) := by decide +kernel
theorem dL_law_188 : decode cL_law 188 = .ok (.iconst 5, 1) := by decide +kernel
theorem dL_law_189 : decode cL_law 189 = .ok (.iadd, 1) := by decide +kernel
theorem dL_law_190 : decode cL_law 190 = .ok (.iaload, 1) := by decide +kernel
theorem dL_law_191 : decode cL_law 191 = .ok (.invokevirtual 17, 3) := by decide +kernel
theorem dL_law_194 : decode cL_law 194 = .ok (.if_icmp .eq 668, 3) := by decide +kernel
theorem dL_law_197 : decode cL_law 197 = .ok (.iconst 0, 1) := by decide +kernel
theorem dL_law_198 : decode cL_law 198 = .ok (.ireturn, 1) := by decide +kernel
theorem dL_law_199 : decode cL_law 199 = .ok (.aload_n 1, 1) := by decide +kernel
theorem dL_law_200 : decode cL_law 200 = .ok (.aload_n 0, 1) := by decide +kernel
theorem dL_law_201 : decode cL_law 201 = .ok (.iload_n 3, 1) := by decide +kernel
theorem dL_law_202 : decode cL_law 202 = .ok (.iconst 1, 1) := by decide +kernel
theorem dL_law_203 : decode cL_law 203 = .ok (.iadd, 1) := by decide +kernel
theorem dL_law_204 : decode cL_law 204 = .ok (.iaload, 1) := by decide +kernel
theorem dL_law_205 : decode cL_law 205 = .ok (.aload_n 0, 1) := by decide +kernel
theorem dL_law_206 : decode cL_law 206 = .ok (.iload_n 3, 1) := by decide +kernel
theorem dL_law_207 : decode cL_law 207 = .ok (.iconst 2, 1) := by decide +kernel
theorem dL_law_208 : decode cL_law 208 = .ok (.iadd, 1) := by decide +kernel
theorem dL_law_209 : decode cL_law 209 = .ok (.iaload, 1) := by decide +kernel
theorem dL_law_210 : decode cL_law 210 = .ok (.invokevirtual 18, 3) := by decide +kernel
theorem dL_law_213 : decode cL_law 213 = .ok (.aload_n 2, 1) := by decide +kernel
theorem dL_law_214 : decode cL_law 214 = .ok (.aload_n 0, 1) := by decide +kernel
theorem dL_law_215 : decode cL_law 215 = .ok (.iload_n 3, 1) := by decide +kernel
theorem dL_law_216 : decode cL_law 216 = .ok (.iconst 1, 1) := by decide +kernel
theorem dL_law_217 : decode cL_law 217 = .ok (.iadd, 1) := by decide +kernel
theorem dL_law_218 : decode cL_law 218 = .ok (.iaload, 1) := by decide +kernel
theorem dL_law_219 : decode cL_law 219 = .ok (.aload_n 0, 1) := by decide +kernel
theorem dL_law_220 : decode cL_law 220 = .ok (.iload_n 3, 1) := by decide +kernel
theorem dL_law_221 : decode cL_law 221 = .ok (.iconst 2, 1) := by decide +kernel
theorem dL_law_222 : decode cL_law 222 = .ok (.iadd, 1) := by decide +kernel
theorem dL_law_223 : decode cL_law 223 = .ok (.iaload, 1) := by decide +kernel
theorem dL_law_224 : decode cL_law 224 = .ok (.invokevirtual 22, 3) := by decide +kernel
theorem dL_law_227 : decode cL_law 227 = .ok (.if_icmp .eq 635, 3) := by decide +kernel
theorem dL_law_230 : decode cL_law 230 = .ok (.iconst 0, 1) := by decide +kernel
theorem dL_law_231 : decode cL_law 231 = .ok (.ireturn, 1) := by decide +kernel
theorem dL_law_232 : decode cL_law 232 = .ok (.aload_n 1, 1) := by decide +kernel
theorem dL_law_233 : decode cL_law 233 = .ok (.aload_n 0, 1) := by decide +kernel
theorem dL_law_234 : decode cL_law 234 = .ok (.iload_n 3, 1) := by decide +kernel
theorem dL_law_235 : decode cL_law 235 = .ok (.iconst 1, 1) := by decide +kernel
theorem dL_law_236 : decode cL_law 236 = .ok (.iadd, 1) := by decide +kernel
theorem dL_law_237 : decode cL_law 237 = .ok (.iaload, 1) := by decide +kernel
theorem dL_law_238 : decode cL_law 238 = .ok (.aload_n 0, 1) := by decide +kernel
theorem dL_law_239 : decode cL_law 239 = .ok (.iload_n 3, 1) := by decide +kernel
theorem dL_law_240 : decode cL_law 240 = .ok (.iconst 2, 1) := by decide +kernel
theorem dL_law_241 : decode cL_law 241 = .ok (.iadd, 1) := by decide +kernel
theorem dL_law_242 : decode cL_law 242 = .ok (.iaload, 1) := by decide +kernel
theorem dL_law_243 : decode cL_law 243 = .ok (.aload_n 0, 1) := by decide +kernel
theorem dL_law_244 : decode cL_law 244 = .ok (.iload_n 3, 1) := by decide +kernel
theorem dL_law_245 : decode cL_law 245 = .ok (.iconst 3, 1) := by decide +kernel
theorem dL_law_246 : decode cL_law 246 = .ok (.iadd, 1) := by decide +kernel
theorem dL_law_247 : decode cL_law 247 = .ok (.iaload, 1) := by decide +kernel
theorem dL_law_248 : decode cL_law 248 = .ok (.aload_n 0, 1) := by decide +kernel
theorem dL_law_249 : decode cL_law 249 = .ok (.iload_n 3, 1) := by decide +kernel
theorem dL_law_250 : decode cL_law 250 = .ok (.iconst 4, 1) := by decide +kernel
theorem dL_law_251 : decode cL_law 251 = .ok (.iadd, 1) := by decide +kernel
theorem dL_law_252 : decode cL_law 252 = .ok (.iaload, 1) := by decide +kernel
theorem dL_law_253 : decode cL_law 253 = .ok (.invokevirtual 23, 3) := by decide +kernel
theorem dL_law_256 : decode cL_law 256 = .ok (.aload_n 2, 1) := by decide +kernel
theorem dL_law_257 : decode cL_law 257 = .ok (.aload_n 0, 1) := by decide +kernel
theorem dL_law_258 : decode cL_law 258 = .ok (.iload_n 3, 1) := by decide +kernel
theorem dL_law_259 : decode cL_law 259 = .ok (.iconst 1, 1) := by decide +kernel
theorem dL_law_260 : decode cL_law 260 = .ok (.iadd, 1) := by decide +kernel
theorem dL_law_261 : decode cL_law 261 = .ok (.iaload, 1) := by decide +kernel
theorem dL_law_262 : decode cL_law 262 = .ok (.aload_n 0, 1) := by decide +kernel
theorem dL_law_263 : decode cL_law 263 = .ok (.iload_n 3, 1) := by decide +kernel
theorem dL_law_264 : decode cL_law 264 = .ok (.iconst 2, 1) := by decide +kernel
theorem dL_law_265 : decode cL_law 265 = .ok (.iadd, 1) := by decide +kernel
theorem dL_law_266 : decode cL_law 266 = .ok (.iaload, 1) := by decide +kernel
theorem dL_law_267 : decode cL_law 267 = .ok (.aload_n 0, 1) := by decide +kernel
theorem dL_law_268 : decode cL_law 268 = .ok (.iload_n 3, 1) := by decide +kernel
theorem dL_law_269 : decode cL_law 269 = .ok (.iconst 3, 1) := by decide +kernel
theorem dL_law_270 : decode cL_law 270 = .ok (.iadd, 1) := by decide +kernel
theorem dL_law_271 : decode cL_law 271 = .ok (.iaload, 1) := by decide +kernel
theorem dL_law_272 : decode cL_law 272 = .ok (.aload_n 0, 1) := by decide +kernel
theorem dL_law_273 : decode cL_law 273 = .ok (.iload_n 3, 1) := by decide +kernel
theorem dL_law_274 : decode cL_law 274 = .ok (.iconst 4, 1) := by decide +kernel
theorem dL_law_275 : decode cL_law 275 = .ok (.iadd, 1) := by decide +kernel
theorem dL_law_276 : decode cL_law 276 = .ok (.iaload, 1) := by decide +kernel
theorem dL_law_277 : decode cL_law 277 = .ok (.invokevirtual 27, 3) := by decide +kernel
theorem dL_law_280 : decode cL_law 280 = .ok (.if_icmp .eq 582, 3) := by decide +kernel
theorem dL_law_283 : decode cL_law 283 = .ok (.iconst 0, 1) := by decide +kernel
theorem dL_law_284 : decode cL_law 284 = .ok (.ireturn, 1) := by decide +kernel
theorem dL_law_285 : decode cL_law 285 = .ok (.aload_n 1, 1) := by decide +kernel
theorem dL_law_286 : decode cL_law 286 = .ok (.aload_n 0, 1) := by decide +kernel
theorem dL_law_287 : decode cL_law 287 = .ok (.iload_n 3, 1) := by decide +kernel
theorem dL_law_288 : decode cL_law 288 = .ok (.iconst 1, 1) := by decide +kernel
theorem dL_law_289 : decode cL_law 289 = .ok (.iadd, 1) := by decide +kernel
theorem dL_law_290 : decode cL_law 290 = .ok (.iaload, 1) := by decide +kernel
theorem dL_law_291 : decode cL_law 291 = .ok (.aload_n 0, 1) := by decide +kernel
theorem dL_law_292 : decode cL_law 292 = .ok (.iload_n 3, 1) := by decide +kernel
theorem dL_law_293 : decode cL_law 293 = .ok (.iconst 2, 1) := by decide +kernel
theorem dL_law_294 : decode cL_law 294 = .ok (.iadd, 1) := by decide +kernel
theorem dL_law_295 : decode cL_law 295 = .ok (.iaload, 1) := by decide +kernel
theorem dL_law_296 : decode cL_law 296 = .ok (.aload_n 0, 1) := by decide +kernel
theorem dL_law_297 : decode cL_law 297 = .ok (.iload_n 3, 1) := by decide +kernel
theorem dL_law_298 : decode cL_law 298 = .ok (.iconst 3, 1) := by decide +kernel
theorem dL_law_299 : decode cL_law 299 = .ok (.iadd, 1) := by decide +kernel
theorem dL_law_300 : decode cL_law 300 = .ok (.iaload, 1) := by decide +kernel
theorem dL_law_301 : decode cL_law 301 = .ok (.aload_n 0, 1) := by decide +kernel
theorem dL_law_302 : decode cL_law 302 = .ok (.iload_n 3, 1) := by decide +kernel
theorem dL_law_303 : decode cL_law 303 = .ok (.iconst 4, 1) := by decide +kernel
theorem dL_law_304 : decode cL_law 304 = .ok (.iadd, 1) := by decide +kernel
theorem dL_law_305 : decode cL_law 305 = .ok (.iaload, 1) := by decide +kernel
theorem dL_law_306 : decode cL_law 306 = .ok (.aload_n 0, 1) := by decide +kernel
theorem dL_law_307 : decode cL_law 307 = .ok (.iload_n 3, 1) := by decide +kernel
theorem dL_law_308 : decode cL_law 308 = .ok (.iconst 5, 1) := by decide +kernel
theorem dL_law_309 : decode cL_law 309 = .ok (.iadd, 1) := by decide +kernel
theorem dL_law_310 : decode cL_law 310 = .ok (.iaload, 1) := by decide +kernel
theorem dL_law_311 : decode cL_law 311 = .ok (.invokevirtual 28, 3) := by decide +kernel
theorem dL_law_314 : decode cL_law 314 = .ok (.aload_n 2, 1) := by decide +kernel
theorem dL_law_315 : decode cL_law 315 = .ok (.aload_n 0, 1) := by decide +kernel
theorem dL_law_316 : decode cL_law 316 = .ok (.iload_n 3, 1) := by decide +kernel
theorem dL_law_317 : decode cL_law 317 = .ok (.iconst 1, 1) := by decide +kernel
theorem dL_law_318 : decode cL_law 318 = .ok (.iadd, 1) := by decide +kernel
theorem dL_law_319 : decode cL_law 319 = .ok (.iaload, 1) := by decide +kernel
theorem dL_law_320 : decode cL_law 320 = .ok (.aload_n 0, 1) := by decide +kernel
theorem dL_law_321 : decode cL_law 321 = .ok (.iload_n 3, 1) := by decide +kernel
theorem dL_law_322 : decode cL_law 322 = .ok (.iconst 2, 1) := by decide +kernel
theorem dL_law_323 : decode cL_law 323 = .ok (.iadd, 1) := by decide +kernel
theorem dL_law_324 : decode cL_law 324 = .ok (.iaload, 1) := by decide +kernel
theorem dL_law_325 : decode cL_law 325 = .ok (.aload_n 0, 1) := by decide +kernel
theorem dL_law_326 : decode cL_law 326 = .ok (.iload_n 3, 1) := by decide +kernel
theorem dL_law_327 : decode cL_law 327 = .ok (.iconst 3, 1) := by decide +kernel
theorem dL_law_328 : decode cL_law 328 = .ok (.iadd, 1) := by decide +kernel
theorem dL_law_329 : decode cL_law 329 = .ok (.iaload, 1) := by decide +kernel
theorem dL_law_330 : decode cL_law 330 = .ok (.aload_n 0, 1) := by decide +kernel
theorem dL_law_331 : decode cL_law 331 = .ok (.iload_n 3, 1) := by decide +kernel
theorem dL_law_332 : decode cL_law 332 = .ok (.iconst 4, 1) := by decide +kernel
theorem dL_law_333 : decode cL_law 333 = .ok (.iadd, 1) := by decide +kernel
theorem dL_law_334 : decode cL_law 334 = .ok (.iaload, 1) := by decide +kernel
theorem dL_law_335 : decode cL_law 335 = .ok (.aload_n 0, 1) := by decide +kernel
theorem dL_law_336 : decode cL_law 336 = .ok (.iload_n 3, 1) := by decide +kernel
theorem dL_law_337 : decode cL_law 337 = .ok (.iconst 5, 1) := by decide +kernel
theorem dL_law_338 : decode cL_law 338 = .ok (.iadd, 1) := by decide +kernel
theorem dL_law_339 : decode cL_law 339 = .ok (.iaload, 1) := by decide +kernel
theorem dL_law_340 : decode cL_law 340 = .ok (.invokevirtual 31, 3) := by decide +kernel
theorem dL_law_343 : decode cL_law 343 = .ok (.if_icmp .eq 519, 3) := by decide +kernel
theorem dL_law_346 : decode cL_law 346 = .ok (.iconst 0, 1) := by decide +kernel
theorem dL_law_347 : decode cL_law 347 = .ok (.ireturn, 1) := by decide +kernel
theorem dL_law_348 : decode cL_law 348 = .ok (.aload_n 1, 1) := by decide +kernel
theorem dL_law_349 : decode cL_law 349 = .ok (.aload_n 0, 1) := by decide +kernel
theorem dL_law_350 : decode cL_law 350 = .ok (.iload_n 3, 1) := by decide +kernel
theorem dL_law_351 : decode cL_law 351 = .ok (.iconst 1, 1) := by decide +kernel
theorem dL_law_352 : decode cL_law 352 = .ok (.iadd, 1) := by decide +kernel
theorem dL_law_353 : decode cL_law 353 = .ok (.iaload, 1) := by decide +kernel
theorem dL_law_354 : decode cL_law 354 = .ok (.aload_n 0, 1) := by decide +kernel
theorem dL_law_355 : decode cL_law 355 = .ok (.iload_n 3, 1) := by decide +kernel
theorem dL_law_356 : decode cL_law 356 = .ok (.iconst 2, 1) := by decide +kernel
theorem dL_law_357 : decode cL_law 357 = .ok (.iadd, 1) := by decide +kernel
theorem dL_law_358 : decode cL_law 358 = .ok (.iaload, 1) := by decide +kernel
theorem dL_law_359 : decode cL_law 359 = .ok (.invokevirtual 32, 3) := by decide +kernel
theorem dL_law_362 : decode cL_law 362 = .ok (.aload_n 2, 1) := by decide +kernel
theorem dL_law_363 : decode cL_law 363 = .ok (.aload_n 0, 1) := by decide +kernel
theorem dL_law_364 : decode cL_law 364 = .ok (.iload_n 3, 1) := by decide +kernel
theorem dL_law_365 : decode cL_law 365 = .ok (.iconst 1, 1) := by decide +kernel
theorem dL_law_366 : decode cL_law 366 = .ok (.iadd, 1) := by decide +kernel
theorem dL_law_367 : decode cL_law 367 = .ok (.iaload, 1) := by decide +kernel
theorem dL_law_368 : decode cL_law 368 = .ok (.aload_n 0, 1) := by decide +kernel
theorem dL_law_369 : decode cL_law 369 = .ok (.iload_n 3, 1) := by decide +kernel
theorem dL_law_370 : decode cL_law 370 = .ok (.iconst 2, 1) := by decide +kernel
theorem dL_law_371 : decode cL_law 371 = .ok (.iadd, 1) := by decide +kernel
theorem dL_law_372 : decode cL_law 372 = .ok (.iaload, 1) := by decide +kernel
theorem dL_law_373 : decode cL_law 373 = .ok (.invokevirtual 35, 3) := by decide +kernel
theorem dL_law_376 : decode cL_law 376 = .ok (.if_icmp .eq 486, 3) := by decide +kernel
theorem dL_law_379 : decode cL_law 379 = .ok (.iconst 0, 1) := by decide +kernel
theorem dL_law_380 : decode cL_law 380 = .ok (.ireturn, 1) := by decide +kernel
theorem dL_law_381 : decode cL_law 381 = .ok (.aload_n 1, 1) := by decide +kernel
theorem dL_law_382 : decode cL_law 382 = .ok (.aload_n 0, 1) := by decide +kernel
theorem dL_law_383 : decode cL_law 383 = .ok (.iload_n 3, 1) := by decide +kernel
theorem dL_law_384 : decode cL_law 384 = .ok (.iconst 1, 1) := by decide +kernel
theorem dL_law_385 : decode cL_law 385 = .ok (.iadd, 1) := by decide +kernel
theorem dL_law_386 : decode cL_law 386 = .ok (.iaload, 1) := by decide +kernel
theorem dL_law_387 : decode cL_law 387 = .ok (.invokevirtual 36, 3) := by decide +kernel
theorem dL_law_390 : decode cL_law 390 = .ok (.aload_n 2, 1) := by decide +kernel
theorem dL_law_391 : decode cL_law 391 = .ok (.aload_n 0, 1) := by decide +kernel
theorem dL_law_392 : decode cL_law 392 = .ok (.iload_n 3, 1) := by decide +kernel
theorem dL_law_393 : decode cL_law 393 = .ok (.iconst 1, 1) := by decide +kernel
theorem dL_law_394 : decode cL_law 394 = .ok (.iadd, 1) := by decide +kernel
theorem dL_law_395 : decode cL_law 395 = .ok (.iaload, 1) := by decide +kernel
theorem dL_law_396 : decode cL_law 396 = .ok (.invokevirtual 40, 3) := by decide +kernel
theorem dL_law_399 : decode cL_law 399 = .ok (.if_icmp .eq 463, 3) := by decide +kernel
theorem dL_law_402 : decode cL_law 402 = .ok (.iconst 0, 1) := by decide +kernel
theorem dL_law_403 : decode cL_law 403 = .ok (.ireturn, 1) := by decide +kernel
theorem dL_law_404 : decode cL_law 404 = .ok (.aload_n 1, 1) := by decide +kernel
theorem dL_law_405 : decode cL_law 405 = .ok (.aload_n 0, 1) := by decide +kernel
theorem dL_law_406 : decode cL_law 406 = .ok (.iload_n 3, 1) := by decide +kernel
theorem dL_law_407 : decode cL_law 407 = .ok (.iconst 1, 1) := by decide +kernel
theorem dL_law_408 : decode cL_law 408 = .ok (.iadd, 1) := by decide +kernel
theorem dL_law_409 : decode cL_law 409 = .ok (.iaload, 1) := by decide +kernel
theorem dL_law_410 : decode cL_law 410 = .ok (.aload_n 0, 1) := by decide +kernel
theorem dL_law_411 : decode cL_law 411 = .ok (.iload_n 3, 1) := by decide +kernel
theorem dL_law_412 : decode cL_law 412 = .ok (.iconst 2, 1) := by decide +kernel
theorem dL_law_413 : decode cL_law 413 = .ok (.iadd, 1) := by decide +kernel
theorem dL_law_414 : decode cL_law 414 = .ok (.iaload, 1) := by decide +kernel
theorem dL_law_415 : decode cL_law 415 = .ok (.aload_n 0, 1) := by decide +kernel
theorem dL_law_416 : decode cL_law 416 = .ok (.iload_n 3, 1) := by decide +kernel
theorem dL_law_417 : decode cL_law 417 = .ok (.iconst 3, 1) := by decide +kernel
theorem dL_law_418 : decode cL_law 418 = .ok (.iadd, 1) := by decide +kernel
theorem dL_law_419 : decode cL_law 419 = .ok (.iaload, 1) := by decide +kernel
theorem dL_law_420 : decode cL_law 420 = .ok (.invokevirtual 41, 3) := by decide +kernel
theorem dL_law_423 : decode cL_law 423 = .ok (.aload_n 2, 1) := by decide +kernel
theorem dL_law_424 : decode cL_law 424 = .ok (.aload_n 0, 1) := by decide +kernel
theorem dL_law_425 : decode cL_law 425 = .ok (.iload_n 3, 1) := by decide +kernel
theorem dL_law_426 : decode cL_law 426 = .ok (.iconst 1, 1) := by decide +kernel
theorem dL_law_427 : decode cL_law 427 = .ok (.iadd, 1) := by decide +kernel
theorem dL_law_428 : decode cL_law 428 = .ok (.iaload, 1) := by decide +kernel
theorem dL_law_429 : decode cL_law 429 = .ok (.aload_n 0, 1) := by decide +kernel
theorem dL_law_430 : decode cL_law 430 = .ok (.iload_n 3, 1) := by decide +kernel
theorem dL_law_431 : decode cL_law 431 = .ok (.iconst 2, 1) := by decide +kernel
theorem dL_law_432 : decode cL_law 432 = .ok (.iadd, 1) := by decide +kernel
theorem dL_law_433 : decode cL_law 433 = .ok (.iaload, 1) := by decide +kernel
theorem dL_law_434 : decode cL_law 434 = .ok (.aload_n 0, 1) := by decide +kernel
theorem dL_law_435 : decode cL_law 435 = .ok (.iload_n 3, 1) := by decide +kernel
theorem dL_law_436 : decode cL_law 436 = .ok (.iconst 3, 1) := by decide +kernel
theorem dL_law_437 : decode cL_law 437 = .ok (.iadd, 1) := by decide +kernel
theorem dL_law_438 : decode cL_law 438 = .ok (.iaload, 1) := by decide +kernel
theorem dL_law_439 : decode cL_law 439 = .ok (.invokevirtual 45, 3) := by decide +kernel
theorem dL_law_442 : decode cL_law 442 = .ok (.if_icmp .eq 420, 3) := by decide +kernel
theorem dL_law_445 : decode cL_law 445 = .ok (.iconst 0, 1) := by decide +kernel
theorem dL_law_446 : decode cL_law 446 = .ok (.ireturn, 1) := by decide +kernel
theorem dL_law_447 : decode cL_law 447 = .ok (.aload_n 1, 1) := by decide +kernel
theorem dL_law_448 : decode cL_law 448 = .ok (.aload_n 0, 1) := by decide +kernel
theorem dL_law_449 : decode cL_law 449 = .ok (.iload_n 3, 1) := by decide +kernel
theorem dL_law_450 : decode cL_law 450 = .ok (.iconst 1, 1) := by decide +kernel
theorem dL_law_451 : decode cL_law 451 = .ok (.iadd, 1) := by decide +kernel
theorem dL_law_452 : decode cL_law 452 = .ok (.iaload, 1) := by decide +kernel
theorem dL_law_453 : decode cL_law 453 = .ok (.aload_n 0, 1) := by decide +kernel
theorem dL_law_454 : decode cL_law 454 = .ok (.iload_n 3, 1) := by decide +kernel
theorem dL_law_455 : decode cL_law 455 = .ok (.iconst 2, 1) := by decide +kernel
theorem dL_law_456 : decode cL_law 456 = .ok (.iadd, 1) := by decide +kernel
theorem dL_law_457 : decode cL_law 457 = .ok (.iaload, 1) := by decide +kernel
theorem dL_law_458 : decode cL_law 458 = .ok (.aload_n 0, 1) := by decide +kernel
theorem dL_law_459 : decode cL_law 459 = .ok (.iload_n 3, 1) := by decide +kernel
theorem dL_law_460 : decode cL_law 460 = .ok (.iconst 3, 1) := by decide +kernel
theorem dL_law_461 : decode cL_law 461 = .ok (.iadd, 1) := by decide +kernel
theorem dL_law_462 : decode cL_law 462 = .ok (.iaload, 1) := by decide +kernel
theorem dL_law_463 : decode cL_law 463 = .ok (.aload_n 0, 1) := by decide +kernel
theorem dL_law_464 : decode cL_law 464 = .ok (.iload_n 3, 1) := by decide +kernel
theorem dL_law_465 : decode cL_law 465 = .ok (.iconst 4, 1) := by decide +kernel
theorem dL_law_466 : decode cL_law 466 = .ok (.iadd, 1) := by decide +kernel
theorem dL_law_467 : decode cL_law 467 = .ok (.iaload, 1) := by decide +kernel
theorem dL_law_468 : decode cL_law 468 = .ok (.invokevirtual 46, 3) := by decide +kernel
theorem dL_law_471 : decode cL_law 471 = .ok (.aload_n 2, 1) := by decide +kernel
theorem dL_law_472 : decode cL_law 472 = .ok (.aload_n 0, 1) := by decide +kernel
theorem dL_law_473 : decode cL_law 473 = .ok (.iload_n 3, 1) := by decide +kernel
theorem dL_law_474 : decode cL_law 474 = .ok (.iconst 1, 1) := by decide +kernel
theorem dL_law_475 : decode cL_law 475 = .ok (.iadd, 1) := by decide +kernel
theorem dL_law_476 : decode cL_law 476 = .ok (.iaload, 1) := by decide +kernel
theorem dL_law_477 : decode cL_law 477 = .ok (.aload_n 0, 1) := by decide +kernel
theorem dL_law_478 : decode cL_law 478 = .ok (.iload_n 3, 1) := by decide +kernel
theorem dL_law_479 : decode cL_law 479 = .ok (.iconst 2, 1) := by decide +kernel
theorem dL_law_480 : decode cL_law 480 = .ok (.iadd, 1) := by decide +kernel
theorem dL_law_481 : decode cL_law 481 = .ok (.iaload, 1) := by decide +kernel
theorem dL_law_482 : decode cL_law 482 = .ok (.aload_n 0, 1) := by decide +kernel
theorem dL_law_483 : decode cL_law 483 = .ok (.iload_n 3, 1) := by decide +kernel
theorem dL_law_484 : decode cL_law 484 = .ok (.iconst 3, 1) := by decide +kernel
theorem dL_law_485 : decode cL_law 485 = .ok (.iadd, 1) := by decide +kernel
theorem dL_law_486 : decode cL_law 486 = .ok (.iaload, 1) := by decide +kernel
theorem dL_law_487 : decode cL_law 487 = .ok (.aload_n 0, 1) := by decide +kernel
theorem dL_law_488 : decode cL_law 488 = .ok (.iload_n 3, 1) := by decide +kernel
theorem dL_law_489 : decode cL_law 489 = .ok (.iconst 4, 1) := by decide +kernel
theorem dL_law_490 : decode cL_law 490 = .ok (.iadd, 1) := by decide +kernel
theorem dL_law_491 : decode cL_law 491 = .ok (.iaload, 1) := by decide +kernel
theorem dL_law_492 : decode cL_law 492 = .ok (.invokevirtual 49, 3) := by decide +kernel
theorem dL_law_495 : decode cL_law 495 = .ok (.if_icmp .eq 367, 3) := by decide +kernel
theorem dL_law_498 : decode cL_law 498 = .ok (.iconst 0, 1) := by decide +kernel
theorem dL_law_499 : decode cL_law 499 = .ok (.ireturn, 1) := by decide +kernel
theorem dL_law_500 : decode cL_law 500 = .ok (.aload_n 1, 1) := by decide +kernel
theorem dL_law_501 : decode cL_law 501 = .ok (.aload_n 0, 1) := by decide +kernel
theorem dL_law_502 : decode cL_law 502 = .ok (.iload_n 3, 1) := by decide +kernel
theorem dL_law_503 : decode cL_law 503 = .ok (.iconst 1, 1) := by decide +kernel
theorem dL_law_504 : decode cL_law 504 = .ok (.iadd, 1) := by decide +kernel
theorem dL_law_505 : decode cL_law 505 = .ok (.iaload, 1) := by decide +kernel
theorem dL_law_506 : decode cL_law 506 = .ok (.aload_n 0, 1) := by decide +kernel
theorem dL_law_507 : decode cL_law 507 = .ok (.iload_n 3, 1) := by decide +kernel
theorem dL_law_508 : decode cL_law 508 = .ok (.iconst 2, 1) := by decide +kernel
theorem dL_law_509 : decode cL_law 509 = .ok (.iadd, 1) := by decide +kernel
theorem dL_law_510 : decode cL_law 510 = .ok (.iaload, 1) := by decide +kernel
theorem dL_law_511 : decode cL_law 511 = .ok (.invokevirtual 50, 3) := by decide +kernel
theorem dL_law_514 : decode cL_law 514 = .ok (.aload_n 2, 1) := by decide +kernel
theorem dL_law_515 : decode cL_law 515 = .ok (.aload_n 0, 1) := by decide +kernel
theorem dL_law_516 : decode cL_law 516 = .ok (.iload_n 3, 1) := by decide +kernel
theorem dL_law_517 : decode cL_law 517 = .ok (.iconst 1, 1) := by decide +kernel
theorem dL_law_518 : decode cL_law 518 = .ok (.iadd, 1) := by decide +kernel
theorem dL_law_519 : decode cL_law 519 = .ok (.iaload, 1) := by decide +kernel
theorem dL_law_520 : decode cL_law 520 = .ok (.aload_n 0, 1) := by decide +kernel
theorem dL_law_521 : decode cL_law 521 = .ok (.iload_n 3, 1) := by decide +kernel
theorem dL_law_522 : decode cL_law 522 = .ok (.iconst 2, 1) := by decide +kernel
theorem dL_law_523 : decode cL_law 523 = .ok (.iadd, 1) := by decide +kernel
theorem dL_law_524 : decode cL_law 524 = .ok (.iaload, 1) := by decide +kernel
theorem dL_law_525 : decode cL_law 525 = .ok (.invokevirtual 53, 3) := by decide +kernel
theorem dL_law_528 : decode cL_law 528 = .ok (.if_icmp .eq 334, 3) := by decide +kernel
theorem dL_law_531 : decode cL_law 531 = .ok (.iconst 0, 1) := by decide +kernel
theorem dL_law_532 : decode cL_law 532 = .ok (.ireturn, 1) := by decide +kernel
theorem dL_law_533 : decode cL_law 533 = .ok (.aload_n 1, 1) := by decide +kernel
theorem dL_law_534 : decode cL_law 534 = .ok (.aload_n 0, 1) := by decide +kernel
theorem dL_law_535 : decode cL_law 535 = .ok (.iload_n 3, 1) := by decide +kernel
theorem dL_law_536 : decode cL_law 536 = .ok (.iconst 1, 1) := by decide +kernel
theorem dL_law_537 : decode cL_law 537 = .ok (.iadd, 1) := by decide +kernel
theorem dL_law_538 : decode cL_law 538 = .ok (.iaload, 1) := by decide +kernel
theorem dL_law_539 : decode cL_law 539 = .ok (.invokevirtual 54, 3) := by decide +kernel
theorem dL_law_542 : decode cL_law 542 = .ok (.aload_n 2, 1) := by decide +kernel
theorem dL_law_543 : decode cL_law 543 = .ok (.aload_n 0, 1) := by decide +kernel
theorem dL_law_544 : decode cL_law 544 = .ok (.iload_n 3, 1) := by decide +kernel
theorem dL_law_545 : decode cL_law 545 = .ok (.iconst 1, 1) := by decide +kernel
theorem dL_law_546 : decode cL_law 546 = .ok (.iadd, 1) := by decide +kernel
theorem dL_law_547 : decode cL_law 547 = .ok (.iaload, 1) := by decide +kernel
theorem dL_law_548 : decode cL_law 548 = .ok (.invokevirtual 57, 3) := by decide +kernel
theorem dL_law_551 : decode cL_law 551 = .ok (.if_icmp .eq 311, 3) := by decide +kernel
theorem dL_law_554 : decode cL_law 554 = .ok (.iconst 0, 1) := by decide +kernel
theorem dL_law_555 : decode cL_law 555 = .ok (.ireturn, 1) := by decide +kernel
theorem dL_law_556 : decode cL_law 556 = .ok (.aload_n 1, 1) := by decide +kernel
theorem dL_law_557 : decode cL_law 557 = .ok (.aload_n 0, 1) := by decide +kernel
theorem dL_law_558 : decode cL_law 558 = .ok (.iload_n 3, 1) := by decide +kernel
theorem dL_law_559 : decode cL_law 559 = .ok (.iconst 1, 1) := by decide +kernel
theorem dL_law_560 : decode cL_law 560 = .ok (.iadd, 1) := by decide +kernel
theorem dL_law_561 : decode cL_law 561 = .ok (.iaload, 1) := by decide +kernel
theorem dL_law_562 : decode cL_law 562 = .ok (.aload_n 0, 1) := by decide +kernel
theorem dL_law_563 : decode cL_law 563 = .ok (.iload_n 3, 1) := by decide +kernel
theorem dL_law_564 : decode cL_law 564 = .ok (.iconst 2, 1) := by decide +kernel
theorem dL_law_565 : decode cL_law 565 = .ok (.iadd, 1) := by decide +kernel
theorem dL_law_566 : decode cL_law 566 = .ok (.iaload, 1) := by decide +kernel
theorem dL_law_567 : decode cL_law 567 = .ok (.invokevirtual 58, 3) := by decide +kernel
theorem dL_law_570 : decode cL_law 570 = .ok (.aload_n 2, 1) := by decide +kernel
theorem dL_law_571 : decode cL_law 571 = .ok (.aload_n 0, 1) := by decide +kernel
theorem dL_law_572 : decode cL_law 572 = .ok (.iload_n 3, 1) := by decide +kernel
theorem dL_law_573 : decode cL_law 573 = .ok (.iconst 1, 1) := by decide +kernel
theorem dL_law_574 : decode cL_law 574 = .ok (.iadd, 1) := by decide +kernel
theorem dL_law_575 : decode cL_law 575 = .ok (.iaload, 1) := by decide +kernel
theorem dL_law_576 : decode cL_law 576 = .ok (.aload_n 0, 1) := by decide +kernel
theorem dL_law_577 : decode cL_law 577 = .ok (.iload_n 3, 1) := by decide +kernel
theorem dL_law_578 : decode cL_law 578 = .ok (.iconst 2, 1) := by decide +kernel
theorem dL_law_579 : decode cL_law 579 = .ok (.iadd, 1) := by decide +kernel
theorem dL_law_580 : decode cL_law 580 = .ok (.iaload, 1) := by decide +kernel
theorem dL_law_581 : decode cL_law 581 = .ok (.invokevirtual 61, 3) := by decide +kernel
theorem dL_law_584 : decode cL_law 584 = .ok (.if_icmp .eq 278, 3) := by decide +kernel
theorem dL_law_587 : decode cL_law 587 = .ok (.iconst 0, 1) := by decide +kernel
theorem dL_law_588 : decode cL_law 588 = .ok (.ireturn, 1) := by decide +kernel
theorem dL_law_589 : decode cL_law 589 = .ok (.aload_n 1, 1) := by decide +kernel
theorem dL_law_590 : decode cL_law 590 = .ok (.aload_n 0, 1) := by decide +kernel
theorem dL_law_591 : decode cL_law 591 = .ok (.iload_n 3, 1) := by decide +kernel
theorem dL_law_592 : decode cL_law 592 = .ok (.iconst 1, 1) := by decide +kernel
theorem dL_law_593 : decode cL_law 593 = .ok (.iadd, 1) := by decide +kernel
theorem dL_law_594 : decode cL_law 594 = .ok (.iaload, 1) := by decide +kernel
theorem dL_law_595 : decode cL_law 595 = .ok (.aload_n 0, 1) := by decide +kernel
theorem dL_law_596 : decode cL_law 596 = .ok (.iload_n 3, 1) := by decide +kernel
theorem dL_law_597 : decode cL_law 597 = .ok (.iconst 2, 1) := by decide +kernel
theorem dL_law_598 : decode cL_law 598 = .ok (.iadd, 1) := by decide +kernel
theorem dL_law_599 : decode cL_law 599 = .ok (.iaload, 1) := by decide +kernel
theorem dL_law_600 : decode cL_law 600 = .ok (.aload_n 0, 1) := by decide +kernel
theorem dL_law_601 : decode cL_law 601 = .ok (.iload_n 3, 1) := by decide +kernel
theorem dL_law_602 : decode cL_law 602 = .ok (.iconst 3, 1) := by decide +kernel
theorem dL_law_603 : decode cL_law 603 = .ok (.iadd, 1) := by decide +kernel
theorem dL_law_604 : decode cL_law 604 = .ok (.iaload, 1) := by decide +kernel
theorem dL_law_605 : decode cL_law 605 = .ok (.aload_n 0, 1) := by decide +kernel
theorem dL_law_606 : decode cL_law 606 = .ok (.iload_n 3, 1) := by decide +kernel
theorem dL_law_607 : decode cL_law 607 = .ok (.iconst 4, 1) := by decide +kernel
theorem dL_law_608 : decode cL_law 608 = .ok (.iadd, 1) := by decide +kernel
theorem dL_law_609 : decode cL_law 609 = .ok (.iaload, 1) := by decide +kernel
theorem dL_law_610 : decode cL_law 610 = .ok (.invokevirtual 62, 3) := by decide +kernel
theorem dL_law_613 : decode cL_law 613 = .ok (.aload_n 2, 1) := by decide +kernel
theorem dL_law_614 : decode cL_law 614 = .ok (.aload_n 0, 1) := by decide +kernel
theorem dL_law_615 : decode cL_law 615 = .ok (.iload_n 3, 1) := by decide +kernel
theorem dL_law_616 : decode cL_law 616 = .ok (.iconst 1, 1) := by decide +kernel
theorem dL_law_617 : decode cL_law 617 = .ok (.iadd, 1) := by decide +kernel
theorem dL_law_618 : decode cL_law 618 = .ok (.iaload, 1) := by decide +kernel
theorem dL_law_619 : decode cL_law 619 = .ok (.aload_n 0, 1) := by decide +kernel
theorem dL_law_620 : decode cL_law 620 = .ok (.iload_n 3, 1) := by decide +kernel
theorem dL_law_621 : decode cL_law 621 = .ok (.iconst 2, 1) := by decide +kernel
theorem dL_law_622 : decode cL_law 622 = .ok (.iadd, 1) := by decide +kernel
theorem dL_law_623 : decode cL_law 623 = .ok (.iaload, 1) := by decide +kernel
theorem dL_law_624 : decode cL_law 624 = .ok (.aload_n 0, 1) := by decide +kernel
theorem dL_law_625 : decode cL_law 625 = .ok (.iload_n 3, 1) := by decide +kernel
theorem dL_law_626 : decode cL_law 626 = .ok (.iconst 3, 1) := by decide +kernel
theorem dL_law_627 : decode cL_law 627 = .ok (.iadd, 1) := by decide +kernel
theorem dL_law_628 : decode cL_law 628 = .ok (.iaload, 1) := by decide +kernel
theorem dL_law_629 : decode cL_law 629 = .ok (.aload_n 0, 1) := by decide +kernel
theorem dL_law_630 : decode cL_law 630 = .ok (.iload_n 3, 1) := by decide +kernel
theorem dL_law_631 : decode cL_law 631 = .ok (.iconst 4, 1) := by decide +kernel
theorem dL_law_632 : decode cL_law 632 = .ok (.iadd, 1) := by decide +kernel
theorem dL_law_633 : decode cL_law 633 = .ok (.iaload, 1) := by decide +kernel
theorem dL_law_634 : decode cL_law 634 = .ok (.invokevirtual 65, 3) := by decide +kernel
theorem dL_law_637 : decode cL_law 637 = .ok (.if_icmp .eq 225, 3) := by decide +kernel
theorem dL_law_640 : decode cL_law 640 = .ok (.iconst 0, 1) := by decide +kernel
theorem dL_law_641 : decode cL_law 641 = .ok (.ireturn, 1) := by decide +kernel
theorem dL_law_642 : decode cL_law 642 = .ok (.aload_n 1, 1) := by decide +kernel
theorem dL_law_643 : decode cL_law 643 = .ok (.aload_n 0, 1) := by decide +kernel
theorem dL_law_644 : decode cL_law 644 = .ok (.iload_n 3, 1) := by decide +kernel
theorem dL_law_645 : decode cL_law 645 = .ok (.iconst 1, 1) := by decide +kernel
theorem dL_law_646 : decode cL_law 646 = .ok (.iadd, 1) := by decide +kernel
theorem dL_law_647 : decode cL_law 647 = .ok (.iaload, 1) := by decide +kernel
theorem dL_law_648 : decode cL_law 648 = .ok (.aload_n 0, 1) := by decide +kernel
theorem dL_law_649 : decode cL_law 649 = .ok (.iload_n 3, 1) := by decide +kernel
theorem dL_law_650 : decode cL_law 650 = .ok (.iconst 2, 1) := by decide +kernel
theorem dL_law_651 : decode cL_law 651 = .ok (.iadd, 1) := by decide +kernel
theorem dL_law_652 : decode cL_law 652 = .ok (.iaload, 1) := by decide +kernel
theorem dL_law_653 : decode cL_law 653 = .ok (.aload_n 0, 1) := by decide +kernel
theorem dL_law_654 : decode cL_law 654 = .ok (.iload_n 3, 1) := by decide +kernel
theorem dL_law_655 : decode cL_law 655 = .ok (.iconst 3, 1) := by decide +kernel
theorem dL_law_656 : decode cL_law 656 = .ok (.iadd, 1) := by decide +kernel
theorem dL_law_657 : decode cL_law 657 = .ok (.iaload, 1) := by decide +kernel
theorem dL_law_658 : decode cL_law 658 = .ok (.aload_n 0, 1) := by decide +kernel
theorem dL_law_659 : decode cL_law 659 = .ok (.iload_n 3, 1) := by decide +kernel
theorem dL_law_660 : decode cL_law 660 = .ok (.iconst 4, 1) := by decide +kernel
theorem dL_law_661 : decode cL_law 661 = .ok (.iadd, 1) := by decide +kernel
theorem dL_law_662 : decode cL_law 662 = .ok (.iaload, 1) := by decide +kernel
theorem dL_law_663 : decode cL_law 663 = .ok (.invokevirtual 66, 3) := by decide +kernel
theorem dL_law_666 : decode cL_law 666 = .ok (.aload_n 2, 1) := by decide +kernel
theorem dL_law_667 : decode cL_law 667 = .ok (.aload_n 0, 1) := by decide +kernel
theorem dL_law_668 : decode cL_law 668 = .ok (.iload_n 3, 1) := by decide +kernel
theorem dL_law_669 : decode cL_law 669 = .ok (.iconst 1, 1) := by decide +kernel
theorem dL_law_670 : decode cL_law 670 = .ok (.iadd, 1) := by decide +kernel
theorem dL_law_671 : decode cL_law 671 = .ok (.iaload, 1) := by decide +kernel
theorem dL_law_672 : decode cL_law 672 = .ok (.aload_n 0, 1) := by decide +kernel
theorem dL_law_673 : decode cL_law 673 = .ok (.iload_n 3, 1) := by decide +kernel
theorem dL_law_674 : decode cL_law 674 = .ok (.iconst 2, 1) := by decide +kernel
theorem dL_law_675 : decode cL_law 675 = .ok (.iadd, 1) := by decide +kernel
theorem dL_law_676 : decode cL_law 676 = .ok (.iaload, 1) := by decide +kernel
theorem dL_law_677 : decode cL_law 677 = .ok (.aload_n 0, 1) := by decide +kernel
theorem dL_law_678 : decode cL_law 678 = .ok (.iload_n 3, 1) := by decide +kernel
theorem dL_law_679 : decode cL_law 679 = .ok (.iconst 3, 1) := by decide +kernel
theorem dL_law_680 : decode cL_law 680 = .ok (.iadd, 1) := by decide +kernel
theorem dL_law_681 : decode cL_law 681 = .ok (.iaload, 1) := by decide +kernel
theorem dL_law_682 : decode cL_law 682 = .ok (.aload_n 0, 1) := by decide +kernel
theorem dL_law_683 : decode cL_law 683 = .ok (.iload_n 3, 1) := by decide +kernel
theorem dL_law_684 : decode cL_law 684 = .ok (.iconst 4, 1) := by decide +kernel
theorem dL_law_685 : decode cL_law 685 = .ok (.iadd, 1) := by decide +kernel
theorem dL_law_686 : decode cL_law 686 = .ok (.iaload, 1) := by decide +kernel
theorem dL_law_687 : decode cL_law 687 = .ok (.invokevirtual 69, 3) := by decide +kernel
theorem dL_law_690 : decode cL_law 690 = .ok (.if_icmp .eq 172, 3) := by decide +kernel
theorem dL_law_693 : decode cL_law 693 = .ok (.iconst 0, 1) := by decide +kernel
theorem dL_law_694 : decode cL_law 694 = .ok (.ireturn, 1) := by decide +kernel
theorem dL_law_695 : decode cL_law 695 = .ok (.aload_n 1, 1) := by decide +kernel
theorem dL_law_696 : decode cL_law 696 = .ok (.aload_n 0, 1) := by decide +kernel
theorem dL_law_697 : decode cL_law 697 = .ok (.iload_n 3, 1) := by decide +kernel
theorem dL_law_698 : decode cL_law 698 = .ok (.iconst 1, 1) := by decide +kernel
theorem dL_law_699 : decode cL_law 699 = .ok (.iadd, 1) := by decide +kernel
theorem dL_law_700 : decode cL_law 700 = .ok (.iaload, 1) := by decide +kernel
theorem dL_law_701 : decode cL_law 701 = .ok (.aload_n 0, 1) := by decide +kernel
theorem dL_law_702 : decode cL_law 702 = .ok (.iload_n 3, 1) := by decide +kernel
theorem dL_law_703 : decode cL_law 703 = .ok (.iconst 2, 1) := by decide +kernel
theorem dL_law_704 : decode cL_law 704 = .ok (.iadd, 1) := by decide +kernel
theorem dL_law_705 : decode cL_law 705 = .ok (.iaload, 1) := by decide +kernel
theorem dL_law_706 : decode cL_law 706 = .ok (.aload_n 0, 1) := by decide +kernel
theorem dL_law_707 : decode cL_law 707 = .ok (.iload_n 3, 1) := by decide +kernel
theorem dL_law_708 : decode cL_law 708 = .ok (.iconst 3, 1) := by decide +kernel
theorem dL_law_709 : decode cL_law 709 = .ok (.iadd, 1) := by decide +kernel
theorem dL_law_710 : decode cL_law 710 = .ok (.iaload, 1) := by decide +kernel
theorem dL_law_711 : decode cL_law 711 = .ok (.invokevirtual 70, 3) := by decide +kernel
theorem dL_law_714 : decode cL_law 714 = .ok (.aload_n 2, 1) := by decide +kernel
theorem dL_law_715 : decode cL_law 715 = .ok (.aload_n 0, 1) := by decide +kernel
theorem dL_law_716 : decode cL_law 716 = .ok (.iload_n 3, 1) := by decide +kernel
theorem dL_law_717 : decode cL_law 717 = .ok (.iconst 1, 1) := by decide +kernel
theorem dL_law_718 : decode cL_law 718 = .ok (.iadd, 1) := by decide +kernel
theorem dL_law_719 : decode cL_law 719 = .ok (.iaload, 1) := by decide +kernel
theorem dL_law_720 : decode cL_law 720 = .ok (.aload_n 0, 1) := by decide +kernel
theorem dL_law_721 : decode cL_law 721 = .ok (.iload_n 3, 1) := by decide +kernel
theorem dL_law_722 : decode cL_law 722 = .ok (.iconst 2, 1) := by decide +kernel
theorem dL_law_723 : decode cL_law 723 = .ok (.iadd, 1) := by decide +kernel
theorem dL_law_724 : decode cL_law 724 = .ok (.iaload, 1) := by decide +kernel
theorem dL_law_725 : decode cL_law 725 = .ok (.aload_n 0, 1) := by decide +kernel
theorem dL_law_726 : decode cL_law 726 = .ok (.iload_n 3, 1) := by decide +kernel
theorem dL_law_727 : decode cL_law 727 = .ok (.iconst 3, 1) := by decide +kernel
theorem dL_law_728 : decode cL_law 728 = .ok (.iadd, 1) := by decide +kernel
theorem dL_law_729 : decode cL_law 729 = .ok (.iaload, 1) := by decide +kernel
theorem dL_law_730 : decode cL_law 730 = .ok (.invokevirtual 73, 3) := by decide +kernel
theorem dL_law_733 : decode cL_law 733 = .ok (.if_icmp .eq 129, 3) := by decide +kernel
theorem dL_law_736 : decode cL_law 736 = .ok (.iconst 0, 1) := by decide +kernel
theorem dL_law_737 : decode cL_law 737 = .ok (.ireturn, 1) := by decide +kernel
theorem dL_law_738 : decode cL_law 738 = .ok (.aload_n 1, 1) := by decide +kernel
theorem dL_law_739 : decode cL_law 739 = .ok (.invokevirtual 74, 3) := by decide +kernel
theorem dL_law_742 : decode cL_law 742 = .ok (.aload_n 2, 1) := by decide +kernel
theorem dL_law_743 : decode cL_law 743 = .ok (.invokevirtual 78, 3) := by decide +kernel
theorem dL_law_746 : decode cL_law 746 = .ok (.if_icmp .eq 116, 3) := by decide +kernel
theorem dL_law_749 : decode cL_law 749 = .ok (.iconst 0, 1) := by decide +kernel
theorem dL_law_750 : decode cL_law 750 = .ok (.ireturn, 1) := by decide +kernel
theorem dL_law_751 : decode cL_law 751 = .ok (.aload_n 1, 1) := by decide +kernel
theorem dL_law_752 : decode cL_law 752 = .ok (.invokevirtual 79, 3) := by decide +kernel
theorem dL_law_755 : decode cL_law 755 = .ok (.aload_n 2, 1) := by decide +kernel
theorem dL_law_756 : decode cL_law 756 = .ok (.invokevirtual 82, 3) := by decide +kernel
theorem dL_law_759 : decode cL_law 759 = .ok (.if_icmp .eq 103, 3) := by decide +kernel
theorem dL_law_762 : decode cL_law 762 = .ok (.iconst 0, 1) := by decide +kernel
theorem dL_law_763 : decode cL_law 763 = .ok (.ireturn, 1) := by decide +kernel
theorem dL_law_764 : decode cL_law 764 = .ok (.aload_n 1, 1) := by decide +kernel
theorem dL_law_765 : decode cL_law 765 = .ok (.invokevirtual 83, 3) := by decide +kernel
theorem dL_law_768 : decode cL_law 768 = .ok (.aload_n 2, 1) := by decide +kernel
theorem dL_law_769 : decode cL_law 769 = .ok (.invokevirtual 86, 3) := by decide +kernel
theorem dL_law_772 : decode cL_law 772 = .ok (.if_icmp .eq 90, 3) := by decide +kernel
theorem dL_law_775 : decode cL_law 775 = .ok (.iconst 0, 1) := by decide +kernel
theorem dL_law_776 : decode cL_law 776 = .ok (.ireturn, 1) := by decide +kernel
theorem dL_law_777 : decode cL_law 777 = .ok (.aload_n 1, 1) := by decide +kernel
theorem dL_law_778 : decode cL_law 778 = .ok (.invokevirtual 87, 3) := by decide +kernel
theorem dL_law_781 : decode cL_law 781 = .ok (.aload_n 2, 1) := by decide +kernel
theorem dL_law_782 : decode cL_law 782 = .ok (.invokevirtual 90, 3) := by decide +kernel
theorem dL_law_785 : decode cL_law 785 = .ok (.if_icmp .eq 77, 3) := by decide +kernel
theorem dL_law_788 : decode cL_law 788 = .ok (.iconst 0, 1) := by decide +kernel
theorem dL_law_789 : decode cL_law 789 = .ok (.ireturn, 1) := by decide +kernel
theorem dL_law_790 : decode cL_law 790 = .ok (.aload_n 1, 1) := by decide +kernel
theorem dL_law_791 : decode cL_law 791 = .ok (.aload_n 0, 1) := by decide +kernel
theorem dL_law_792 : decode cL_law 792 = .ok (.iload_n 3, 1) := by decide +kernel
theorem dL_law_793 : decode cL_law 793 = .ok (.iconst 1, 1) := by decide +kernel
theorem dL_law_794 : decode cL_law 794 = .ok (.iadd, 1) := by decide +kernel
theorem dL_law_795 : decode cL_law 795 = .ok (.iaload, 1) := by decide +kernel
theorem dL_law_796 : decode cL_law 796 = .ok (.invokevirtual 91, 3) := by decide +kernel
theorem dL_law_799 : decode cL_law 799 = .ok (.aload_n 2, 1) := by decide +kernel
theorem dL_law_800 : decode cL_law 800 = .ok (.aload_n 0, 1) := by decide +kernel
theorem dL_law_801 : decode cL_law 801 = .ok (.iload_n 3, 1) := by decide +kernel
theorem dL_law_802 : decode cL_law 802 = .ok (.iconst 1, 1) := by decide +kernel
theorem dL_law_803 : decode cL_law 803 = .ok (.iadd, 1) := by decide +kernel
theorem dL_law_804 : decode cL_law 804 = .ok (.iaload, 1) := by decide +kernel
theorem dL_law_805 : decode cL_law 805 = .ok (.invokevirtual 94, 3) := by decide +kernel
theorem dL_law_808 : decode cL_law 808 = .ok (.if_icmp .eq 54, 3) := by decide +kernel
theorem dL_law_811 : decode cL_law 811 = .ok (.iconst 0, 1) := by decide +kernel
theorem dL_law_812 : decode cL_law 812 = .ok (.ireturn, 1) := by decide +kernel
theorem dL_law_813 : decode cL_law 813 = .ok (.aload_n 1, 1) := by decide +kernel
theorem dL_law_814 : decode cL_law 814 = .ok (.invokevirtual 95, 3) := by decide +kernel
theorem dL_law_817 : decode cL_law 817 = .ok (.aload_n 2, 1) := by decide +kernel
theorem dL_law_818 : decode cL_law 818 = .ok (.invokevirtual 98, 3) := by decide +kernel
theorem dL_law_821 : decode cL_law 821 = .ok (.if_icmp .eq 41, 3) := by decide +kernel
theorem dL_law_824 : decode cL_law 824 = .ok (.iconst 0, 1) := by decide +kernel
theorem dL_law_825 : decode cL_law 825 = .ok (.ireturn, 1) := by decide +kernel
theorem dL_law_826 : decode cL_law 826 = .ok (.aload_n 1, 1) := by decide +kernel
theorem dL_law_827 : decode cL_law 827 = .ok (.aload_n 0, 1) := by decide +kernel
theorem dL_law_828 : decode cL_law 828 = .ok (.iload_n 3, 1) := by decide +kernel
theorem dL_law_829 : decode cL_law 829 = .ok (.iconst 1, 1) := by decide +kernel
theorem dL_law_830 : decode cL_law 830 = .ok (.iadd, 1) := by decide +kernel
theorem dL_law_831 : decode cL_law 831 = .ok (.iaload, 1) := by decide +kernel
theorem dL_law_832 : decode cL_law 832 = .ok (.invokevirtual 99, 3) := by decide +kernel
theorem dL_law_835 : decode cL_law 835 = .ok (.aload_n 2, 1) := by decide +kernel
theorem dL_law_836 : decode cL_law 836 = .ok (.aload_n 0, 1) := by decide +kernel
theorem dL_law_837 : decode cL_law 837 = .ok (.iload_n 3, 1) := by decide +kernel
theorem dL_law_838 : decode cL_law 838 = .ok (.iconst 1, 1) := by decide +kernel
theorem dL_law_839 : decode cL_law 839 = .ok (.iadd, 1) := by decide +kernel
theorem dL_law_840 : decode cL_law 840 = .ok (.iaload, 1) := by decide +kernel
theorem dL_law_841 : decode cL_law 841 = .ok (.invokevirtual 102, 3) := by decide +kernel
theorem dL_law_844 : decode cL_law 844 = .ok (.if_icmp .eq 18, 3) := by decide +kernel
theorem dL_law_847 : decode cL_law 847 = .ok (.iconst 0, 1) := by decide +kernel
theorem dL_law_848 : decode cL_law 848 = .ok (.ireturn, 1) := by decide +kernel
theorem dL_law_849 : decode cL_law 849 = .ok (.aload_n 1, 1) := by decide +kernel
theorem dL_law_850 : decode cL_law 850 = .ok (.invokevirtual 103, 3) := by decide +kernel
theorem dL_law_853 : decode cL_law 853 = .ok (.aload_n 2, 1) := by decide +kernel
theorem dL_law_854 : decode cL_law 854 = .ok (.invokevirtual 106, 3) := by decide +kernel
theorem dL_law_857 : decode cL_law 857 = .ok (.if_icmp .eq 5, 3) := by decide +kernel
theorem dL_law_860 : decode cL_law 860 = .ok (.iconst 0, 1) := by decide +kernel
theorem dL_law_861 : decode cL_law 861 = .ok (.ireturn, 1) := by decide +kernel
theorem dL_law_862 : decode cL_law 862 = .ok (.iinc 3 6, 3) := by decide +kernel
theorem dL_law_865 : decode cL_law 865 = .ok (.goto (-847), 3) := by decide +kernel
theorem dL_law_868 : decode cL_law 868 = .ok (.iconst 1, 1) := by decide +kernel
theorem dL_law_869 : decode cL_law 869 = .ok (.ireturn, 1) := by decide +kernel
abbrev vwCl : List vw_C := [(RX0, TX0, 3), (RX1, TX1, 7), (RX2, TX2, 3), (RX3, TX3, 5), (RX4, TX4, 2), (RX5, TX5, 5), (RX6, TX6, 2), (RX7, TX7, 12), (RX8, TX8, 18)]
