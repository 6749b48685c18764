theorem dX7_loadBothBlends_25 : decode cX7_loadBothBlends 25 = .ok (.iload_n 1, 1) := by decide +kernel
theorem dX7_loadBothBlends_26 : decode cX7_loadBothBlends 26 = .ok (.iconst 1, 1) := by decide +kernel
theorem dX7_loadBothBlends_27 : decode cX7_loadBothBlends 27 = .ok (.iadd, 1) := by decide +kernel
theorem dX7_loadBothBlends_28 : decode cX7_loadBothBlends 28 = .ok (.goto 6, 3) := by decide +kernel
theorem dX7_loadBothBlends_31 : decode cX7_loadBothBlends 31 = .ok (.iload_n 1, 1) := by decide +kernel
theorem dX7_loadBothBlends_32 : decode cX7_loadBothBlends 32 = .ok (.iconst 4, 1) := by decide +kernel
theorem dX7_loadBothBlends_33 : decode cX7_loadBothBlends 33 = .ok (.iadd, 1) := by decide +kernel
theorem dX7_loadBothBlends_34 : decode cX7_loadBothBlends 34 = .ok (.iload_n 3, 1) := by decide +kernel
theorem dX7_loadBothBlends_35 : decode cX7_loadBothBlends 35 = .ok (.invokevirtual 160, 3) := by decide +kernel
theorem dX7_loadBothBlends_38 : decode cX7_loadBothBlends 38 = .ok (.return_, 1) := by decide +kernel
theorem dX7_isWithin_0 : decode cX7_isWithin 0 = .ok (.iload_n 0, 1) := by decide +kernel
theorem dX7_isWithin_1 : decode cX7_isWithin 1 = .ok (.iload_n 1, 1) := by decide +kernel
theorem dX7_isWithin_2 : decode cX7_isWithin 2 = .ok (.if_icmp .lt 12, 3) := by decide +kernel
theorem dX7_isWithin_5 : decode cX7_isWithin 5 = .ok (.iload_n 0, 1) := by decide +kernel
theorem dX7_isWithin_6 : decode cX7_isWithin 6 = .ok (.iload_n 2, 1) := by decide +kernel
theorem dX7_isWithin_7 : decode cX7_isWithin 7 = .ok (.if_icmp .gt 7, 3) := by decide +kernel
theorem dX7_isWithin_10 : decode cX7_isWithin 10 = .ok (.iconst 1, 1) := by decide +kernel
theorem dX7_isWithin_11 : decode cX7_isWithin 11 = .ok (.goto 4, 3) := by decide +kernel
theorem dX7_isWithin_14 : decode cX7_isWithin 14 = .ok (.iconst 0, 1) := by decide +kernel
theorem dX7_isWithin_15 : decode cX7_isWithin 15 = .ok (.ireturn, 1) := by decide +kernel
set_option maxRecDepth 20000 in
theorem ggX7_isCorner_X7_isWithin : GoodIn wsX7_isCorner wsX7_isWithin := goodIn_r _ [4] (by decide +kernel) (by decide +kernel)
set_option maxRecDepth 20000 in
theorem gX7_isCorner_X7_isWithin : GoodIn wsX7_isCorner (va_wsS RX7 112 yX7_isWithin wsX7_isWithin) := goodIn_app (goodIn_of _ (by decide +kernel)) ggX7_isCorner_X7_isWithin
theorem dX7_isCorner_0 : decode cX7_isCorner 0 = .ok (.iload_n 0, 1) := by decide +kernel
theorem dX7_isCorner_1 : decode cX7_isCorner 1 = .ok (.iconst 0, 1) := by decide +kernel
theorem dX7_isCorner_2 : decode cX7_isCorner 2 = .ok (.iconst 4, 1) := by decide +kernel
theorem dX7_isCorner_3 : decode cX7_isCorner 3 = .ok (.invokestatic 112, 3) := by decide +kernel
theorem dX7_isCorner_6 : decode cX7_isCorner 6 = .ok (.ifCond .eq 16, 3) := by decide +kernel
theorem dX7_isCorner_9 : decode cX7_isCorner 9 = .ok (.iload_n 1, 1) := by decide +kernel
theorem dX7_isCorner_10 : decode cX7_isCorner 10 = .ok (.iconst 0, 1) := by decide +kernel
theorem dX7_isCorner_11 : decode cX7_isCorner 11 = .ok (.iconst 3, 1) := by decide +kernel
theorem dX7_isCorner_12 : decode cX7_isCorner 12 = .ok (.invokestatic 112, 3) := by decide +kernel
theorem dX7_isCorner_15 : decode cX7_isCorner 15 = .ok (.ifCond .eq 7, 3) := by decide +kernel
theorem dX7_isCorner_18 : decode cX7_isCorner 18 = .ok (.iconst 1, 1) := by decide +kernel
theorem dX7_isCorner_19 : decode cX7_isCorner 19 = .ok (.goto 4, 3) := by decide +kernel
theorem dX7_isCorner_22 : decode cX7_isCorner 22 = .ok (.iconst 0, 1) := by decide +kernel
theorem dX7_isCorner_23 : decode cX7_isCorner 23 = .ok (.ireturn, 1) := by decide +kernel
set_option maxRecDepth 20000 in
theorem ggX7_isPatch_X7_isWithin : GoodIn wsX7_isPatch wsX7_isWithin := goodIn_r _ [4] (by decide +kernel) (by decide +kernel)
set_option maxRecDepth 20000 in
theorem gX7_isPatch_X7_isWithin : GoodIn wsX7_isPatch (va_wsS RX7 112 yX7_isWithin wsX7_isWithin) := goodIn_app (goodIn_of _ (by decide +kernel)) ggX7_isPatch_X7_isWithin
theorem dX7_isPatch_0 : decode cX7_isPatch 0 = .ok (.iload_n 0, 1) := by decide +kernel
theorem dX7_isPatch_1 : decode cX7_isPatch 1 = .ok (.iconst 0, 1) := by decide +kernel
theorem dX7_isPatch_2 : decode cX7_isPatch 2 = .ok (.bipush 11, 2) := by decide +kernel
theorem dX7_isPatch_4 : decode cX7_isPatch 4 = .ok (.invokestatic 112, 3) := by decide +kernel
theorem dX7_isPatch_7 : decode cX7_isPatch 7 = .ok (.ireturn, 1) := by decide +kernel
set_option maxRecDepth 20000 in
theorem ggX7_isSide_X7_isWithin : GoodIn wsX7_isSide wsX7_isWithin := goodIn_r _ [4] (by decide +kernel) (by decide +kernel)
set_option maxRecDepth 20000 in
theorem gX7_isSide_X7_isWithin : GoodIn wsX7_isSide (va_wsS RX7 112 yX7_isWithin wsX7_isWithin) := goodIn_app (goodIn_of _ (by decide +kernel)) ggX7_isSide_X7_isWithin
theorem dX7_isSide_0 : decode cX7_isSide 0 = .ok (.iload_n 0, 1) := by decide +kernel
theorem dX7_isSide_1 : decode cX7_isSide 1 = .ok (.iconst 0, 1) := by decide +kernel
theorem dX7_isSide_2 : decode cX7_isSide 2 = .ok (.iconst 1, 1) := by decide +kernel
theorem dX7_isSide_3 : decode cX7_isSide 3 = .ok (.invokestatic 112, 3) := by decide +kernel
theorem dX7_isSide_6 : decode cX7_isSide 6 = .ok (.ireturn, 1) := by decide +kernel
set_option maxRecDepth 20000 in
theorem ggX7_isStep_X7_isWithin : GoodIn wsX7_isStep wsX7_isWithin := goodIn_r _ [4] (by decide +kernel) (by decide +kernel)
set_option maxRecDepth 20000 in
theorem gX7_isStep_X7_isWithin : GoodIn wsX7_isStep (va_wsS RX7 112 yX7_isWithin wsX7_isWithin) := goodIn_app (goodIn_of _ (by decide +kernel)) ggX7_isStep_X7_isWithin
theorem dX7_isStep_0 : decode cX7_isStep 0 = .ok (.iload_n 0, 1) := by decide +kernel
theorem dX7_isStep_1 : decode cX7_isStep 1 = .ok (.iconst 0, 1) := by decide +kernel
theorem dX7_isStep_2 : decode cX7_isStep 2 = .ok (.bipush 8, 2) := by decide +kernel
theorem dX7_isStep_4 : decode cX7_isStep 4 = .ok (.invokestatic 112, 3) := by decide +kernel
theorem dX7_isStep_7 : decode cX7_isStep 7 = .ok (.ireturn, 1) := by decide +kernel
set_option maxRecDepth 20000 in
theorem ggX7_isPart_X7_isWithin : GoodIn wsX7_isPart wsX7_isWithin := goodIn_r _ [4] (by decide +kernel) (by decide +kernel)
set_option maxRecDepth 20000 in
theorem gX7_isPart_X7_isWithin : GoodIn wsX7_isPart (va_wsS RX7 112 yX7_isWithin wsX7_isWithin) := goodIn_app (goodIn_of _ (by decide +kernel)) ggX7_isPart_X7_isWithin
theorem dX7_isPart_0 : decode cX7_isPart 0 = .ok (.iload_n 0, 1) := by decide +kernel
theorem dX7_isPart_1 : decode cX7_isPart 1 = .ok (.iconst 0, 1) := by decide +kernel
theorem dX7_isPart_2 : decode cX7_isPart 2 = .ok (.iconst 2, 1) := by decide +kernel
theorem dX7_isPart_3 : decode cX7_isPart 3 = .ok (.invokestatic 112, 3) := by decide +kernel
theorem dX7_isPart_6 : decode cX7_isPart 6 = .ok (.ireturn, 1) := by decide +kernel
set_option maxRecDepth 20000 in
theorem ggX7_isPartValue_X7_isWithin : GoodIn wsX7_isPartValue wsX7_isWithin := goodIn_r _ [4] (by decide +kernel) (by decide +kernel)
set_option maxRecDepth 20000 in
theorem gX7_isPartValue_X7_isWithin : GoodIn wsX7_isPartValue (va_wsS RX7 112 yX7_isWithin wsX7_isWithin) := goodIn_app (goodIn_of _ (by decide +kernel)) ggX7_isPartValue_X7_isWithin
theorem dX7_isPartValue_0 : decode cX7_isPartValue 0 = .ok (.iload_n 0, 1) := by decide +kernel
theorem dX7_isPartValue_1 : decode cX7_isPartValue 1 = .ok (.iconst 0, 1) := by decide +kernel
theorem dX7_isPartValue_2 : decode cX7_isPartValue 2 = .ok (.sipush 255, 3) := by decide +kernel
theorem dX7_isPartValue_5 : decode cX7_isPartValue 5 = .ok (.invokestatic 112, 3) := by decide +kernel
theorem dX7_isPartValue_8 : decode cX7_isPartValue 8 = .ok (.ireturn, 1) := by decide +kernel
set_option maxRecDepth 20000 in
theorem ggX7_isPlace_X7_isWithin : GoodIn wsX7_isPlace wsX7_isWithin := goodIn_r _ [4] (by decide +kernel) (by decide +kernel)
set_option maxRecDepth 20000 in
theorem gX7_isPlace_X7_isWithin : GoodIn wsX7_isPlace (va_wsS RX7 112 yX7_isWithin wsX7_isWithin) := goodIn_app (goodIn_of _ (by decide +kernel)) ggX7_isPlace_X7_isWithin
theorem dX7_isPlace_0 : decode cX7_isPlace 0 = .ok (.iload_n 0, 1) := by decide +kernel
theorem dX7_isPlace_1 : decode cX7_isPlace 1 = .ok (.iconst 0, 1) := by decide +kernel
theorem dX7_isPlace_2 : decode cX7_isPlace 2 = .ok (.sipush 999, 3) := by decide +kernel
theorem dX7_isPlace_5 : decode cX7_isPlace 5 = .ok (.invokestatic 112, 3) := by decide +kernel
theorem dX7_isPlace_8 : decode cX7_isPlace 8 = .ok (.ifCond .eq 18, 3) := by decide +kernel
theorem dX7_isPlace_11 : decode cX7_isPlace 11 = .ok (.iload_n 1, 1) := by decide +kernel
theorem dX7_isPlace_12 : decode cX7_isPlace 12 = .ok (.iconst 0, 1) := by decide +kernel
theorem dX7_isPlace_13 : decode cX7_isPlace 13 = .ok (.sipush 999, 3) := by decide +kernel
theorem dX7_isPlace_16 : decode cX7_isPlace 16 = .ok (.invokestatic 112, 3) := by decide +kernel
theorem dX7_isPlace_19 : decode cX7_isPlace 19 = .ok (.ifCond .eq 7, 3) := by decide +kernel
theorem dX7_isPlace_22 : decode cX7_isPlace 22 = .ok (.iconst 1, 1) := by decide +kernel
theorem dX7_isPlace_23 : decode cX7_isPlace 23 = .ok (.goto 4, 3) := by decide +kernel
theorem dX7_isPlace_26 : decode cX7_isPlace 26 = .ok (.iconst 0, 1) := by decide +kernel
theorem dX7_isPlace_27 : decode cX7_isPlace 27 = .ok (.ireturn, 1) := by decide +kernel
theorem dX7_hasPatchBeside_0 : decode cX7_hasPatchBeside 0 = .ok (.iload_n 1, 1) := by decide +kernel
theorem dX7_hasPatchBeside_1 : decode cX7_hasPatchBeside 1 = .ok (.ifCond .ne 18, 3) := by decide +kernel
theorem dX7_hasPatchBeside_4 : decode cX7_hasPatchBeside 4 = .ok (.iload_n 0, 1) := by decide +kernel
theorem dX7_hasPatchBeside_5 : decode cX7_hasPatchBeside 5 = .ok (.iconst 4, 1) := by decide +kernel
theorem dX7_hasPatchBeside_6 : decode cX7_hasPatchBeside 6 = .ok (.irem, 1) := by decide +kernel
theorem dX7_hasPatchBeside_7 : decode cX7_hasPatchBeside 7 = .ok (.iconst 3, 1) := by decide +kernel
theorem dX7_hasPatchBeside_8 : decode cX7_hasPatchBeside 8 = .ok (.if_icmp .ge 7, 3) := by decide +kernel
theorem dX7_hasPatchBeside_11 : decode cX7_hasPatchBeside 11 = .ok (.iconst 1, 1) := by decide +kernel
theorem dX7_hasPatchBeside_12 : decode cX7_hasPatchBeside 12 = .ok (.goto 19, 3) := by decide +kernel
theorem dX7_hasPatchBeside_15 : decode cX7_hasPatchBeside 15 = .ok (.iconst 0, 1) := by decide +kernel
theorem dX7_hasPatchBeside_16 : decode cX7_hasPatchBeside 16 = .ok (.goto 15, 3) := by decide +kernel
theorem dX7_hasPatchBeside_19 : decode cX7_hasPatchBeside 19 = .ok (.iload_n 0, 1) := by decide +kernel
theorem dX7_hasPatchBeside_20 : decode cX7_hasPatchBeside 20 = .ok (.iconst 4, 1) := by decide +kernel
theorem dX7_hasPatchBeside_21 : decode cX7_hasPatchBeside 21 = .ok (.idiv, 1) := by decide +kernel
theorem dX7_hasPatchBeside_22 : decode cX7_hasPatchBeside 22 = .ok (.iconst 2, 1) := by decide +kernel
theorem dX7_hasPatchBeside_23 : decode cX7_hasPatchBeside 23 = .ok (.if_icmp .ge 7, 3) := by decide +kernel
theorem dX7_hasPatchBeside_26 : decode cX7_hasPatchBeside 26 = .ok (.iconst 1, 1) := by decide +kernel
theorem dX7_hasPatchBeside_27 : decode cX7_hasPatchBeside 27 = .ok (.goto 4, 3) := by decide +kernel
theorem dX7_hasPatchBeside_30 : decode cX7_hasPatchBeside 30 = .ok (.iconst 0, 1) := by decide +kernel
theorem dX7_hasPatchBeside_31 : decode cX7_hasPatchBeside 31 = .ok (.ireturn, 1) := by decide +kernel
theorem dX7_cornerAt_0 : decode cX7_cornerAt 0 = .ok (.iload_n 1, 1) := by decide +kernel
theorem dX7_cornerAt_1 : decode cX7_cornerAt 1 = .ok (.iconst 5, 1) := by decide +kernel
theorem dX7_cornerAt_2 : decode cX7_cornerAt 2 = .ok (.imul, 1) := by decide +kernel
theorem dX7_cornerAt_3 : decode cX7_cornerAt 3 = .ok (.iload_n 0, 1) := by decide +kernel
theorem dX7_cornerAt_4 : decode cX7_cornerAt 4 = .ok (.iadd, 1) := by decide +kernel
theorem dX7_cornerAt_5 : decode cX7_cornerAt 5 = .ok (.ireturn, 1) := by decide +kernel
set_option maxRecDepth 20000 in
theorem ggX7_cornerOfPatch_X7_cornerAt : GoodIn wsX7_cornerOfPatch wsX7_cornerAt := goodIn_r _ [4] (by decide +kernel) (by decide +kernel)
set_option maxRecDepth 20000 in
theorem gX7_cornerOfPatch_X7_cornerAt : GoodIn wsX7_cornerOfPatch (va_wsS RX7 79 yX7_cornerAt wsX7_cornerAt) := goodIn_app (goodIn_of _ (by decide +kernel)) ggX7_cornerOfPatch_X7_cornerAt
theorem dX7_cornerOfPatch_0 : decode cX7_cornerOfPatch 0 = .ok (.iload_n 0, 1) := by decide +kernel
theorem dX7_cornerOfPatch_1 : decode cX7_cornerOfPatch 1 = .ok (.iconst 4, 1) := by decide +kernel
theorem dX7_cornerOfPatch_2 : decode cX7_cornerOfPatch 2 = .ok (.irem, 1) := by decide +kernel
theorem dX7_cornerOfPatch_3 : decode cX7_cornerOfPatch 3 = .ok (.iload_n 1, 1) := by decide +kernel
theorem dX7_cornerOfPatch_4 : decode cX7_cornerOfPatch 4 = .ok (.iconst 2, 1) := by decide +kernel
theorem dX7_cornerOfPatch_5 : decode cX7_cornerOfPatch 5 = .ok (.irem, 1) := by decide +kernel
theorem dX7_cornerOfPatch_6 : decode cX7_cornerOfPatch 6 = .ok (.iadd, 1) := by decide +kernel
theorem dX7_cornerOfPatch_7 : decode cX7_cornerOfPatch 7 = .ok (.istore_n 2, 1) := by decide +kernel
theorem dX7_cornerOfPatch_8 : decode cX7_cornerOfPatch 8 = .ok (.iload_n 0, 1) := by decide +kernel
theorem dX7_cornerOfPatch_9 : decode cX7_cornerOfPatch 9 = .ok (.iconst 4, 1) := by decide +kernel
theorem dX7_cornerOfPatch_10 : decode cX7_cornerOfPatch 10 = .ok (.idiv, 1) := by decide +kernel
theorem dX7_cornerOfPatch_11 : decode cX7_cornerOfPatch 11 = .ok (.iload_n 1, 1) := by decide +kernel
theorem dX7_cornerOfPatch_12 : decode cX7_cornerOfPatch 12 = .ok (.iconst 2, 1) := by decide +kernel
theorem dX7_cornerOfPatch_13 : decode cX7_cornerOfPatch 13 = .ok (.idiv, 1) := by decide +kernel
theorem dX7_cornerOfPatch_14 : decode cX7_cornerOfPatch 14 = .ok (.iadd, 1) := by decide +kernel
theorem dX7_cornerOfPatch_15 : decode cX7_cornerOfPatch 15 = .ok (.istore_n 3, 1) := by decide +kernel
theorem dX7_cornerOfPatch_16 : decode cX7_cornerOfPatch 16 = .ok (.iload_n 2, 1) := by decide +kernel
theorem dX7_cornerOfPatch_17 : decode cX7_cornerOfPatch 17 = .ok (.iload_n 3, 1) := by decide +kernel
theorem dX7_cornerOfPatch_18 : decode cX7_cornerOfPatch 18 = .ok (.invokestatic 79, 3) := by decide +kernel
theorem dX7_cornerOfPatch_21 : decode cX7_cornerOfPatch 21 = .ok (.ireturn, 1) := by decide +kernel
set_option maxRecDepth 20000 in
theorem ggX7_cornerAround_X7_cornerOfPatch : GoodIn wsX7_cornerAround wsX7_cornerOfPatch := goodIn_r _ [4, 5, 6, 3, 7] (by decide +kernel) (by decide +kernel)
set_option maxRecDepth 20000 in
theorem gX7_cornerAround_X7_cornerOfPatch : GoodIn wsX7_cornerAround (va_wsS RX7 253 yX7_cornerOfPatch wsX7_cornerOfPatch) := goodIn_app (goodIn_of _ (by decide +kernel)) ggX7_cornerAround_X7_cornerOfPatch
theorem dX7_cornerAround_0 : decode cX7_cornerAround 0 = .ok (.iload_n 1, 1) := by decide +kernel
theorem dX7_cornerAround_1 : decode cX7_cornerAround 1 = .ok (.iconst 4, 1) := by decide +kernel
theorem dX7_cornerAround_2 : decode cX7_cornerAround 2 = .ok (.irem, 1) := by decide +kernel
theorem dX7_cornerAround_3 : decode cX7_cornerAround 3 = .ok (.istore_n 2, 1) := by decide +kernel
theorem dX7_cornerAround_4 : decode cX7_cornerAround 4 = .ok (.iload_n 2, 1) := by decide +kernel
theorem dX7_cornerAround_5 : decode cX7_cornerAround 5 = .ok (.iconst 2, 1) := by decide +kernel
theorem dX7_cornerAround_6 : decode cX7_cornerAround 6 = .ok (.if_icmp .ne 9, 3) := by decide +kernel
theorem dX7_cornerAround_9 : decode cX7_cornerAround 9 = .ok (.iload_n 0, 1) := by decide +kernel
theorem dX7_cornerAround_10 : decode cX7_cornerAround 10 = .ok (.iconst 3, 1) := by decide +kernel
theorem dX7_cornerAround_11 : decode cX7_cornerAround 11 = .ok (.invokestatic 253, 3) := by decide +kernel
theorem dX7_cornerAround_14 : decode cX7_cornerAround 14 = .ok (.ireturn, 1) := by decide +kernel
theorem dX7_cornerAround_15 : decode cX7_cornerAround 15 = .ok (.iload_n 0, 1) := by decide +kernel
theorem dX7_cornerAround_16 : decode cX7_cornerAround 16 = .ok (.iload_n 2, 1) := by decide +kernel
theorem dX7_cornerAround_17 : decode cX7_cornerAround 17 = .ok (.iconst 3, 1) := by decide +kernel
theorem dX7_cornerAround_18 : decode cX7_cornerAround 18 = .ok (.if_icmp .ne 7, 3) := by decide +kernel
theorem dX7_cornerAround_21 : decode cX7_cornerAround 21 = .ok (.iconst 2, 1) := by decide +kernel
theorem dX7_cornerAround_22 : decode cX7_cornerAround 22 = .ok (.goto 4, 3) := by decide +kernel
theorem dX7_cornerAround_25 : decode cX7_cornerAround 25 = .ok (.iload_n 2, 1) := by decide +kernel
theorem dX7_cornerAround_26 : decode cX7_cornerAround 26 = .ok (.invokestatic 253, 3) := by decide +kernel
theorem dX7_cornerAround_29 : decode cX7_cornerAround 29 = .ok (.ireturn, 1) := by decide +kernel
theorem dX7_slopeIndex_0 : decode cX7_slopeIndex 0 = .ok (.iload_n 0, 1) := by decide +kernel
theorem dX7_slopeIndex_1 : decode cX7_slopeIndex 1 = .ok (.bipush 6, 2) := by decide +kernel
theorem dX7_slopeIndex_3 : decode cX7_slopeIndex 3 = .ok (.imul, 1) := by decide +kernel
theorem dX7_slopeIndex_4 : decode cX7_slopeIndex 4 = .ok (.iload_n 1, 1) := by decide +kernel
theorem dX7_slopeIndex_5 : decode cX7_slopeIndex 5 = .ok (.iconst 3, 1) := by decide +kernel
theorem dX7_slopeIndex_6 : decode cX7_slopeIndex 6 = .ok (.imul, 1) := by decide +kernel
theorem dX7_slopeIndex_7 : decode cX7_slopeIndex 7 = .ok (.iadd, 1) := by decide +kernel
theorem dX7_slopeIndex_8 : decode cX7_slopeIndex 8 = .ok (.iload_n 2, 1) := by decide +kernel
theorem dX7_slopeIndex_9 : decode cX7_slopeIndex 9 = .ok (.iadd, 1) := by decide +kernel
theorem dX7_slopeIndex_10 : decode cX7_slopeIndex 10 = .ok (.ireturn, 1) := by decide +kernel
theorem dX7_packedColour_0 : decode cX7_packedColour 0 = .ok (.iload_n 0, 1) := by decide +kernel
theorem dX7_packedColour_1 : decode cX7_packedColour 1 = .ok (.bipush 16, 2) := by decide +kernel
theorem dX7_packedColour_3 : decode cX7_packedColour 3 = .ok (.ishl, 1) := by decide +kernel
theorem dX7_packedColour_4 : decode cX7_packedColour 4 = .ok (.iload_n 1, 1) := by decide +kernel
theorem dX7_packedColour_5 : decode cX7_packedColour 5 = .ok (.bipush 8, 2) := by decide +kernel
theorem dX7_packedColour_7 : decode cX7_packedColour 7 = .ok (.ishl, 1) := by decide +kernel
theorem dX7_packedColour_8 : decode cX7_packedColour 8 = .ok (.ior, 1) := by decide +kernel
theorem dX7_packedColour_9 : decode cX7_packedColour 9 = .ok (.iload_n 2, 1) := by decide +kernel
theorem dX7_packedColour_10 : decode cX7_packedColour 10 = .ok (.ior, 1) := by decide +kernel
theorem dX7_packedColour_11 : decode cX7_packedColour 11 = .ok (.ireturn, 1) := by decide +kernel
set_option maxRecDepth 20000 in
theorem ggX7_refusalOfFreeing_X7_isCorner : GoodIn wsX7_refusalOfFreeing wsX7_isCorner := goodIn_r _ [5, 6, 7, 4, 8] (by decide +kernel) (by decide +kernel)
set_option maxRecDepth 20000 in
theorem gX7_refusalOfFreeing_X7_isCorner : GoodIn wsX7_refusalOfFreeing (va_wsS RX7 71 yX7_isCorner wsX7_isCorner) := goodIn_app (goodIn_of _ (by decide +kernel)) ggX7_refusalOfFreeing_X7_isCorner
set_option maxRecDepth 20000 in
theorem ggX7_refusalOfFreeing_X7_cornerAt : GoodIn wsX7_refusalOfFreeing wsX7_cornerAt := goodIn_r _ [11] (by decide +kernel) (by decide +kernel)
set_option maxRecDepth 20000 in
theorem gX7_refusalOfFreeing_X7_cornerAt : GoodIn wsX7_refusalOfFreeing (va_wsS RX7 79 yX7_cornerAt wsX7_cornerAt) := goodIn_app (goodIn_of _ (by decide +kernel)) ggX7_refusalOfFreeing_X7_cornerAt
theorem dX7_refusalOfFreeing_0 : decode cX7_refusalOfFreeing 0 = .ok (.iload_n 1, 1) := by decide +kernel
theorem dX7_refusalOfFreeing_1 : decode cX7_refusalOfFreeing 1 = .ok (.iload_n 2, 1) := by decide +kernel
theorem dX7_refusalOfFreeing_2 : decode cX7_refusalOfFreeing 2 = .ok (.invokestatic 71, 3) := by decide +kernel
theorem dX7_refusalOfFreeing_5 : decode cX7_refusalOfFreeing 5 = .ok (.ifCond .ne 7, 3) := by decide +kernel
theorem dX7_refusalOfFreeing_8 : decode cX7_refusalOfFreeing 8 = .ok (.sipush (-1001), 3) := by decide +kernel
theorem dX7_refusalOfFreeing_11 : decode cX7_refusalOfFreeing 11 = .ok (.ireturn, 1) := by decide +kernel
theorem dX7_refusalOfFreeing_12 : decode cX7_refusalOfFreeing 12 = .ok (.aload_n 0, 1) := by decide +kernel
theorem dX7_refusalOfFreeing_13 : decode cX7_refusalOfFreeing 13 = .ok (.getfield 83, 3) := by decide +kernel
theorem dX7_refusalOfFreeing_16 : decode cX7_refusalOfFreeing 16 = .ok (.iload_n 1, 1) := by decide +kernel
theorem dX7_refusalOfFreeing_17 : decode cX7_refusalOfFreeing 17 = .ok (.iload_n 2, 1) := by decide +kernel
theorem dX7_refusalOfFreeing_18 : decode cX7_refusalOfFreeing 18 = .ok (.invokestatic 79, 3) := by decide +kernel
theorem dX7_refusalOfFreeing_21 : decode cX7_refusalOfFreeing 21 = .ok (.iaload, 1) := by decide +kernel
theorem dX7_refusalOfFreeing_22 : decode cX7_refusalOfFreeing 22 = .ok (.iconst 1, 1) := by decide +kernel
theorem dX7_refusalOfFreeing_23 : decode cX7_refusalOfFreeing 23 = .ok (.if_icmp .ne 7, 3) := by decide +kernel
theorem dX7_refusalOfFreeing_26 : decode cX7_refusalOfFreeing 26 = .ok (.iconst 0, 1) := by decide +kernel
theorem dX7_refusalOfFreeing_27 : decode cX7_refusalOfFreeing 27 = .ok (.goto 6, 3) := by decide +kernel
theorem dX7_refusalOfFreeing_30 : decode cX7_refusalOfFreeing 30 = .ok (.sipush (-1002), 3) := by decide +kernel
theorem dX7_refusalOfFreeing_33 : decode cX7_refusalOfFreeing 33 = .ok (.ireturn, 1) := by decide +kernel
set_option maxRecDepth 20000 in
theorem ggX7_placeOfPoint_X7_cornerOfPatch : GoodIn wsX7_placeOfPoint wsX7_cornerOfPatch := goodIn_r _ [4, 5, 6, 3, 7] (by decide +kernel) (by decide +kernel)
set_option maxRecDepth 20000 in
theorem gX7_placeOfPoint_X7_cornerOfPatch : GoodIn wsX7_placeOfPoint (va_wsS RX7 253 yX7_cornerOfPatch wsX7_cornerOfPatch) := goodIn_app (goodIn_of _ (by decide +kernel)) ggX7_placeOfPoint_X7_cornerOfPatch
theorem dX7_placeOfPoint_0 : decode cX7_placeOfPoint 0 = .ok (.iconst 0, 1) := by decide +kernel
theorem dX7_placeOfPoint_1 : decode cX7_placeOfPoint 1 = .ok (.istore 4, 2) := by decide +kernel
theorem dX7_placeOfPoint_3 : decode cX7_placeOfPoint 3 = .ok (.iconst 0, 1) := by decide +kernel
theorem dX7_placeOfPoint_4 : decode cX7_placeOfPoint 4 = .ok (.istore 5, 2) := by decide +kernel
theorem dX7_placeOfPoint_6 : decode cX7_placeOfPoint 6 = .ok (.iload 5, 2) := by decide +kernel
theorem dX7_placeOfPoint_8 : decode cX7_placeOfPoint 8 = .ok (.iconst 4, 1) := by decide +kernel
theorem dX7_placeOfPoint_9 : decode cX7_placeOfPoint 9 = .ok (.if_icmp .ge 62, 3) := by decide +kernel
theorem dX7_placeOfPoint_12 : decode cX7_placeOfPoint 12 = .ok (.iload 5, 2) := by decide +kernel
theorem dX7_placeOfPoint_14 : decode cX7_placeOfPoint 14 = .ok (.iconst 2, 1) := by decide +kernel
theorem dX7_placeOfPoint_15 : decode cX7_placeOfPoint 15 = .ok (.irem, 1) := by decide +kernel
theorem dX7_placeOfPoint_16 : decode cX7_placeOfPoint 16 = .ok (.ifCond .ne 10, 3) := by decide +kernel
theorem dX7_placeOfPoint_19 : decode cX7_placeOfPoint 19 = .ok (.bipush 8, 2) := by decide +kernel
theorem dX7_placeOfPoint_21 : decode cX7_placeOfPoint 21 = .ok (.iload_n 2, 1) := by decide +kernel
theorem dX7_placeOfPoint_22 : decode cX7_placeOfPoint 22 = .ok (.isub, 1) := by decide +kernel
theorem dX7_placeOfPoint_23 : decode cX7_placeOfPoint 23 = .ok (.goto 4, 3) := by decide +kernel
theorem dX7_placeOfPoint_26 : decode cX7_placeOfPoint 26 = .ok (.iload_n 2, 1) := by decide +kernel
theorem dX7_placeOfPoint_27 : decode cX7_placeOfPoint 27 = .ok (.istore 6, 2) := by decide +kernel
theorem dX7_placeOfPoint_29 : decode cX7_placeOfPoint 29 = .ok (.iload 5, 2) := by decide +kernel
theorem dX7_placeOfPoint_31 : decode cX7_placeOfPoint 31 = .ok (.iconst 2, 1) := by decide +kernel
theorem dX7_placeOfPoint_32 : decode cX7_placeOfPoint 32 = .ok (.idiv, 1) := by decide +kernel
theorem dX7_placeOfPoint_33 : decode cX7_placeOfPoint 33 = .ok (.ifCond .ne 10, 3) := by decide +kernel
theorem dX7_placeOfPoint_36 : decode cX7_placeOfPoint 36 = .ok (.bipush 8, 2) := by decide +kernel
theorem dX7_placeOfPoint_38 : decode cX7_placeOfPoint 38 = .ok (.iload_n 3, 1) := by decide +kernel
theorem dX7_placeOfPoint_39 : decode cX7_placeOfPoint 39 = .ok (.isub, 1) := by decide +kernel
theorem dX7_placeOfPoint_40 : decode cX7_placeOfPoint 40 = .ok (.goto 4, 3) := by decide +kernel
theorem dX7_placeOfPoint_43 : decode cX7_placeOfPoint 43 = .ok (.iload_n 3, 1) := by decide +kernel
theorem dX7_placeOfPoint_44 : decode cX7_placeOfPoint 44 = .ok (.istore 7, 2) := by decide +kernel
theorem dX7_placeOfPoint_46 : decode cX7_placeOfPoint 46 = .ok (.iload 4, 2) := by decide +kernel
theorem dX7_placeOfPoint_48 : decode cX7_placeOfPoint 48 = .ok (.aload_n 0, 1) := by decide +kernel
theorem dX7_placeOfPoint_49 : decode cX7_placeOfPoint 49 = .ok (.iload_n 1, 1) := by decide +kernel
theorem dX7_placeOfPoint_50 : decode cX7_placeOfPoint 50 = .ok (.iload 5, 2) := by decide +kernel
theorem dX7_placeOfPoint_52 : decode cX7_placeOfPoint 52 = .ok (.invokestatic 253, 3) := by decide +kernel
theorem dX7_placeOfPoint_55 : decode cX7_placeOfPoint 55 = .ok (.iaload, 1) := by decide +kernel
theorem dX7_placeOfPoint_56 : decode cX7_placeOfPoint 56 = .ok (.iload 6, 2) := by decide +kernel
theorem dX7_placeOfPoint_58 : decode cX7_placeOfPoint 58 = .ok (.imul, 1) := by decide +kernel
theorem dX7_placeOfPoint_59 : decode cX7_placeOfPoint 59 = .ok (.iload 7, 2) := by decide +kernel
theorem dX7_placeOfPoint_61 : decode cX7_placeOfPoint 61 = .ok (.imul, 1) := by decide +kernel
theorem dX7_placeOfPoint_62 : decode cX7_placeOfPoint 62 = .ok (.iadd, 1) := by decide +kernel
theorem dX7_placeOfPoint_63 : decode cX7_placeOfPoint 63 = .ok (.istore 4, 2) := by decide +kernel
theorem dX7_placeOfPoint_65 : decode cX7_placeOfPoint 65 = .ok (.iinc 5 1, 3) := by decide +kernel
theorem dX7_placeOfPoint_68 : decode cX7_placeOfPoint 68 = .ok (.goto (-62), 3) := by decide +kernel
theorem dX7_placeOfPoint_71 : decode cX7_placeOfPoint 71 = .ok (.iload 4, 2) := by decide +kernel
theorem dX7_placeOfPoint_73 : decode cX7_placeOfPoint 73 = .ok (.bipush 64, 2) := by decide +kernel
theorem dX7_placeOfPoint_75 : decode cX7_placeOfPoint 75 = .ok (.idiv, 1) := by decide +kernel
theorem dX7_placeOfPoint_76 : decode cX7_placeOfPoint 76 = .ok (.ireturn, 1) := by decide +kernel
set_option maxRecDepth 20000 in
theorem ggX7_unlikeNumbers_X7_standsAhead : GoodIn wsX7_unlikeNumbers wsX7_standsAhead := goodIn_r _ [4] (by decide +kernel) (by decide +kernel)
set_option maxRecDepth 20000 in
theorem gX7_unlikeNumbers_X7_standsAhead : GoodIn wsX7_unlikeNumbers (va_wsS RX7 256 yX7_standsAhead wsX7_standsAhead) := goodIn_app (goodIn_of _ (by decide +kernel)) ggX7_unlikeNumbers_X7_standsAhead
theorem dX7_unlikeNumbers_0 : decode cX7_unlikeNumbers 0 = .ok (.iconst 0, 1) := by decide +kernel
theorem dX7_unlikeNumbers_1 : decode cX7_unlikeNumbers 1 = .ok (.istore_n 1, 1) := by decide +kernel
theorem dX7_unlikeNumbers_2 : decode cX7_unlikeNumbers 2 = .ok (.iconst 0, 1) := by decide +kernel
theorem dX7_unlikeNumbers_3 : decode cX7_unlikeNumbers 3 = .ok (.istore_n 2, 1) := by decide +kernel
theorem dX7_unlikeNumbers_4 : decode cX7_unlikeNumbers 4 = .ok (.iload_n 2, 1) := by decide +kernel
theorem dX7_unlikeNumbers_5 : decode cX7_unlikeNumbers 5 = .ok (.aload_n 0, 1) := by decide +kernel
theorem dX7_unlikeNumbers_6 : decode cX7_unlikeNumbers 6 = .ok (.arraylength, 1) := by decide +kernel
theorem dX7_unlikeNumbers_7 : decode cX7_unlikeNumbers 7 = .ok (.if_icmp .ge 20, 3) := by decide +kernel
theorem dX7_unlikeNumbers_10 : decode cX7_unlikeNumbers 10 = .ok (.aload_n 0, 1) := by decide +kernel
theorem dX7_unlikeNumbers_11 : decode cX7_unlikeNumbers 11 = .ok (.iload_n 2, 1) := by decide +kernel
theorem dX7_unlikeNumbers_12 : decode cX7_unlikeNumbers 12 = .ok (.invokestatic 256, 3) := by decide +kernel
theorem dX7_unlikeNumbers_15 : decode cX7_unlikeNumbers 15 = .ok (.ifCond .ne 6, 3) := by decide +kernel
theorem dX7_unlikeNumbers_18 : decode cX7_unlikeNumbers 18 = .ok (.iinc 1 1, 3) := by decide +kernel
theorem dX7_unlikeNumbers_21 : decode cX7_unlikeNumbers 21 = .ok (.iinc 2 1, 3) := by decide +kernel
theorem dX7_unlikeNumbers_24 : decode cX7_unlikeNumbers 24 = .ok (.goto (-20), 3) := by decide +kernel
theorem dX7_unlikeNumbers_27 : decode cX7_unlikeNumbers 27 = .ok (.iload_n 1, 1) := by decide +kernel
theorem dX7_unlikeNumbers_28 : decode cX7_unlikeNumbers 28 = .ok (.ireturn, 1) := by decide +kernel
theorem dX7_standsAhead_0 : decode cX7_standsAhead 0 = .ok (.iconst 0, 1) := by decide +kernel
theorem dX7_standsAhead_1 : decode cX7_standsAhead 1 = .ok (.istore_n 2, 1) := by decide +kernel
theorem dX7_standsAhead_2 : decode cX7_standsAhead 2 = .ok (.iload_n 2, 1) := by decide +kernel
theorem dX7_standsAhead_3 : decode cX7_standsAhead 3 = .ok (.iload_n 1, 1) := by decide +kernel
theorem dX7_standsAhead_4 : decode cX7_standsAhead 4 = .ok (.if_icmp .ge 20, 3) := by decide +kernel
theorem dX7_standsAhead_7 : decode cX7_standsAhead 7 = .ok (.aload_n 0, 1) := by decide +kernel
theorem dX7_standsAhead_8 : decode cX7_standsAhead 8 = .ok (.iload_n 2, 1) := by decide +kernel
theorem dX7_standsAhead_9 : decode cX7_standsAhead 9 = .ok (.iaload, 1) := by decide +kernel
theorem dX7_standsAhead_10 : decode cX7_standsAhead 10 = .ok (.aload_n 0, 1) := by decide +kernel
theorem dX7_standsAhead_11 : decode cX7_standsAhead 11 = .ok (.iload_n 1, 1) := by decide +kernel
theorem dX7_standsAhead_12 : decode cX7_standsAhead 12 = .ok (.iaload, 1) := by decide +kernel
theorem dX7_standsAhead_13 : decode cX7_standsAhead 13 = .ok (.if_icmp .ne 5, 3) := by decide +kernel
theorem dX7_standsAhead_16 : decode cX7_standsAhead 16 = .ok (.iconst 1, 1) := by decide +kernel
theorem dX7_standsAhead_17 : decode cX7_standsAhead 17 = .ok (.ireturn, 1) := by decide +kernel
theorem dX7_standsAhead_18 : decode cX7_standsAhead 18 = .ok (.iinc 2 1, 3) := by decide +kernel
theorem dX7_standsAhead_21 : decode cX7_standsAhead 21 = .ok (.goto (-19), 3) := by decide +kernel
theorem dX7_standsAhead_24 : decode cX7_standsAhead 24 = .ok (.iconst 0, 1) := by decide +kernel
theorem dX7_standsAhead_25 : decode cX7_standsAhead 25 = .ok (.ireturn, 1) := by decide +kernel
theorem dX8_init_0 : decode cX8_init 0 = .ok (.aload_n 0, 1) := by decide +kernel
theorem dX8_init_1 : decode cX8_init 1 = .ok (.invokespecial 1, 3) := by decide +kernel
theorem dX8_init_4 : decode cX8_init 4 = .ok (.aload_n 0, 1) := by decide +kernel
theorem dX8_init_5 : decode cX8_init 5 = .ok (.sipush 240, 3) := by decide +kernel
theorem dX8_init_8 : decode cX8_init 8 = .ok (.newarray .int, 2) := by decide +kernel
theorem dX8_init_10 : decode cX8_init 10 = .ok (.putfield 7, 3) := by decide +kernel
theorem dX8_init_13 : decode cX8_init 13 = .ok (.aload_n 0, 1) := by decide +kernel
theorem dX8_init_14 : decode cX8_init 14 = .ok (.sipush 960, 3) := by decide +kernel
theorem dX8_init_17 : decode cX8_init 17 = .ok (.newarray .int, 2) := by decide +kernel
theorem dX8_init_19 : decode cX8_init 19 = .ok (.putfield 13, 3) := by decide +kernel
theorem dX8_init_22 : decode cX8_init 22 = .ok (.aload_n 0, 1) := by decide +kernel
theorem dX8_init_23 : decode cX8_init 23 = .ok (.sipush 240, 3) := by decide +kernel
theorem dX8_init_26 : decode cX8_init 26 = .ok (.newarray .int, 2) := by decide +kernel
theorem dX8_init_28 : decode cX8_init 28 = .ok (.putfield 16, 3) := by decide +kernel
theorem dX8_init_31 : decode cX8_init 31 = .ok (.aload_n 0, 1) := by decide +kernel
theorem dX8_init_32 : decode cX8_init 32 = .ok (.sipush 240, 3) := by decide +kernel
theorem dX8_init_35 : decode cX8_init 35 = .ok (.newarray .int, 2) := by decide +kernel
theorem dX8_init_37 : decode cX8_init 37 = .ok (.putfield 19, 3) := by decide +kernel
theorem dX8_init_40 : decode cX8_init 40 = .ok (.aload_n 0, 1) := by decide +kernel
theorem dX8_init_41 : decode cX8_init 41 = .ok (.bipush 60, 2) := by decide +kernel
theorem dX8_init_43 : decode cX8_init 43 = .ok (.newarray .int, 2) := by decide +kernel
theorem dX8_init_45 : decode cX8_init 45 = .ok (.putfield 22, 3) := by decide +kernel
theorem dX8_init_48 : decode cX8_init 48 = .ok (.aload_n 0, 1) := by decide +kernel
theorem dX8_init_49 : decode cX8_init 49 = .ok (.bipush 60, 2) := by decide +kernel
theorem dX8_init_51 : decode cX8_init 51 = .ok (.newarray .int, 2) := by decide +kernel
theorem dX8_init_53 : decode cX8_init 53 = .ok (.putfield 25, 3) := by decide +kernel
theorem dX8_init_56 : decode cX8_init 56 = .ok (.aload_n 0, 1) := by decide +kernel
theorem dX8_init_57 : decode cX8_init 57 = .ok (.bipush 81, 2) := by decide +kernel
theorem dX8_init_59 : decode cX8_init 59 = .ok (.newarray .int, 2) := by decide +kernel
theorem dX8_init_61 : decode cX8_init 61 = .ok (.putfield 28, 3) := by decide +kernel
theorem dX8_init_64 : decode cX8_init 64 = .ok (.aload_n 0, 1) := by decide +kernel
theorem dX8_init_65 : decode cX8_init 65 = .ok (.iconst 5, 1) := by decide +kernel
theorem dX8_init_66 : decode cX8_init 66 = .ok (.newarray .int, 2) := by decide +kernel
theorem dX8_init_68 : decode cX8_init 68 = .ok (.putfield 31, 3) := by decide +kernel
theorem dX8_init_71 : decode cX8_init 71 = .ok (.iconst 0, 1) := by decide +kernel
theorem dX8_init_72 : decode cX8_init 72 = .ok (.istore_n 1, 1) := by decide +kernel
theorem dX8_init_73 : decode cX8_init 73 = .ok (.iload_n 1, 1) := by decide +kernel
theorem dX8_init_74 : decode cX8_init 74 = .ok (.bipush 20, 2) := by decide +kernel
theorem dX8_init_76 : decode cX8_init 76 = .ok (.if_icmp .ge 110, 3) := by decide +kernel
theorem dX8_init_79 : decode cX8_init 79 = .ok (.aload_n 0, 1) := by decide +kernel
theorem dX8_init_80 : decode cX8_init 80 = .ok (.getfield 7, 3) := by decide +kernel
theorem dX8_init_83 : decode cX8_init 83 = .ok (.bipush 12, 2) := by decide +kernel
theorem dX8_init_85 : decode cX8_init 85 = .ok (.iload_n 1, 1) := by decide +kernel
theorem dX8_init_86 : decode cX8_init 86 = .ok (.imul, 1) := by decide +kernel
theorem dX8_init_87 : decode cX8_init 87 = .ok (.iconst 0, 1) := by decide +kernel
theorem dX8_init_88 : decode cX8_init 88 = .ok (.iadd, 1) := by decide +kernel
theorem dX8_init_89 : decode cX8_init 89 = .ok (.sipush 200, 3) := by decide +kernel
theorem dX8_init_92 : decode cX8_init 92 = .ok (.iload_n 1, 1) := by decide +kernel
theorem dX8_init_93 : decode cX8_init 93 = .ok (.iconst 5, 1) := by decide +kernel
theorem dX8_init_94 : decode cX8_init 94 = .ok (.irem, 1) := by decide +kernel
theorem dX8_init_95 : decode cX8_init 95 = .ok (.imul, 1) := by decide +kernel
theorem dX8_init_96 : decode cX8_init 96 = .ok (.iastore, 1) := by decide +kernel
theorem dX8_init_97 : decode cX8_init 97 = .ok (.aload_n 0, 1) := by decide +kernel
theorem dX8_init_98 : decode cX8_init 98 = .ok (.getfield 7, 3) := by decide +kernel
theorem dX8_init_101 : decode cX8_init 101 = .ok (.bipush 12, 2) := by decide +kernel
theorem dX8_init_103 : decode cX8_init 103 = .ok (.iload_n 1, 1) := by decide +kernel
theorem dX8_init_104 : decode cX8_init 104 = .ok (.imul, 1) := by decide +kernel
theorem dX8_init_105 : decode cX8_init 105 = .ok (.iconst 1, 1) := by decide +kernel
theorem dX8_init_106 : decode cX8_init 106 = .ok (.iadd, 1) := by decide +kernel
theorem dX8_init_107 : decode cX8_init 107 = .ok (.sipush 200, 3) := by decide +kernel
theorem dX8_init_110 : decode cX8_init 110 = .ok (.iload_n 1, 1) := by decide +kernel
theorem dX8_init_111 : decode cX8_init 111 = .ok (.iconst 5, 1) := by decide +kernel
theorem dX8_init_112 : decode cX8_init 112 = .ok (.idiv, 1) := by decide +kernel
theorem dX8_init_113 : decode cX8_init 113 = .ok (.imul, 1) := by decide +kernel
theorem dX8_init_114 : decode cX8_init 114 = .ok (.iastore, 1) := by decide +kernel
theorem dX8_init_115 : decode cX8_init 115 = .ok (.iconst 0, 1) := by decide +kernel
theorem dX8_init_116 : decode cX8_init 116 = .ok (.istore_n 2, 1) := by decide +kernel
theorem dX8_init_117 : decode cX8_init 117 = .ok (.iload_n 2, 1) := by decide +kernel
theorem dX8_init_118 : decode cX8_init 118 = .ok (.iconst 3, 1) := by decide +kernel
theorem dX8_init_119 : decode cX8_init 119 = .ok (.if_icmp .ge 61, 3) := by decide +kernel
theorem dX8_init_122 : decode cX8_init 122 = .ok (.aload_n 0, 1) := by decide +kernel
theorem dX8_init_123 : decode cX8_init 123 = .ok (.getfield 7, 3) := by decide +kernel
theorem dX8_init_126 : decode cX8_init 126 = .ok (.bipush 12, 2) := by decide +kernel
theorem dX8_init_128 : decode cX8_init 128 = .ok (.iload_n 1, 1) := by decide +kernel
theorem dX8_init_129 : decode cX8_init 129 = .ok (.imul, 1) := by decide +kernel
theorem dX8_init_130 : decode cX8_init 130 = .ok (.iconst 2, 1) := by decide +kernel
theorem dX8_init_131 : decode cX8_init 131 = .ok (.iadd, 1) := by decide +kernel
theorem dX8_init_132 : decode cX8_init 132 = .ok (.iload_n 2, 1) := by decide +kernel
theorem dX8_init_133 : decode cX8_init 133 = .ok (.iadd, 1) := by decide +kernel
theorem dX8_init_134 : decode cX8_init 134 = .ok (.sipush 128, 3) := by decide +kernel
theorem dX8_init_137 : decode cX8_init 137 = .ok (.iastore, 1) := by decide +kernel
theorem dX8_init_138 : decode cX8_init 138 = .ok (.aload_n 0, 1) := by decide +kernel
theorem dX8_init_139 : decode cX8_init 139 = .ok (.getfield 7, 3) := by decide +kernel
theorem dX8_init_142 : decode cX8_init 142 = .ok (.bipush 12, 2) := by decide +kernel
theorem dX8_init_144 : decode cX8_init 144 = .ok (.iload_n 1, 1) := by decide +kernel
theorem dX8_init_145 : decode cX8_init 145 = .ok (.imul, 1) := by decide +kernel
theorem dX8_init_146 : decode cX8_init 146 = .ok (.bipush 6, 2) := by decide +kernel
theorem dX8_init_148 : decode cX8_init 148 = .ok (.iadd, 1) := by decide +kernel
theorem dX8_init_149 : decode cX8_init 149 = .ok (.iload_n 2, 1) := by decide +kernel
theorem dX8_init_150 : decode cX8_init 150 = .ok (.iadd, 1) := by decide +kernel
theorem dX8_init_151 : decode cX8_init 151 = .ok (.sipush 999, 3) := by decide +kernel
theorem dX8_init_154 : decode cX8_init 154 = .ok (.iastore, 1) := by decide +kernel
theorem dX8_init_155 : decode cX8_init 155 = .ok (.aload_n 0, 1) := by decide +kernel
theorem dX8_init_156 : decode cX8_init 156 = .ok (.getfield 7, 3) := by decide +kernel
theorem dX8_init_159 : decode cX8_init 159 = .ok (.bipush 12, 2) := by decide +kernel
theorem dX8_init_161 : decode cX8_init 161 = .ok (.iload_n 1, 1) := by decide +kernel
theorem dX8_init_162 : decode cX8_init 162 = .ok (.imul, 1) := by decide +kernel
theorem dX8_init_163 : decode cX8_init 163 = .ok (.bipush 6, 2) := by decide +kernel
theorem dX8_init_165 : decode cX8_init 165 = .ok (.iadd, 1) := by decide +kernel
theorem dX8_init_166 : decode cX8_init 166 = .ok (.iconst 3, 1) := by decide +kernel
theorem dX8_init_167 : decode cX8_init 167 = .ok (.iadd, 1) := by decide +kernel
theorem dX8_init_168 : decode cX8_init 168 = .ok (.iload_n 2, 1) := by decide +kernel
theorem dX8_init_169 : decode cX8_init 169 = .ok (.iadd, 1) := by decide +kernel
theorem dX8_init_170 : decode cX8_init 170 = .ok (.sipush 999, 3) := by decide +kernel
theorem dX8_init_173 : decode cX8_init 173 = .ok (.iastore, 1) := by decide +kernel
theorem dX8_init_174 : decode cX8_init 174 = .ok (.iinc 2 1, 3) := by decide +kernel
theorem dX8_init_177 : decode cX8_init 177 = .ok (.goto (-60), 3) := by decide +kernel
theorem dX8_init_180 : decode cX8_init 180 = .ok (.iinc 1 1, 3) := by decide +kernel
theorem dX8_init_183 : decode cX8_init 183 = .ok (.goto (-110), 3) := by decide +kernel
theorem dX8_init_186 : decode cX8_init 186 = .ok (.return_, 1) := by decide +kernel
theorem dX8_in_0 : decode cX8_in 0 = .ok (.iload_n 0, 1) := by decide +kernel
theorem dX8_in_1 : decode cX8_in 1 = .ok (.iload_n 1, 1) := by decide +kernel
theorem dX8_in_2 : decode cX8_in 2 = .ok (.if_icmp .lt 12, 3) := by decide +kernel
theorem dX8_in_5 : decode cX8_in 5 = .ok (.iload_n 0, 1) := by decide +kernel
theorem dX8_in_6 : decode cX8_in 6 = .ok (.iload_n 2, 1) := by decide +kernel
theorem dX8_in_7 : decode cX8_in 7 = .ok (.if_icmp .gt 7, 3) := by decide +kernel
theorem dX8_in_10 : decode cX8_in 10 = .ok (.iconst 1, 1) := by decide +kernel
theorem dX8_in_11 : decode cX8_in 11 = .ok (.goto 4, 3) := by decide +kernel
theorem dX8_in_14 : decode cX8_in 14 = .ok (.iconst 0, 1) := by decide +kernel
theorem dX8_in_15 : decode cX8_in 15 = .ok (.ireturn, 1) := by decide +kernel
theorem dX8_copies_0 : decode cX8_copies 0 = .ok (.iconst 0, 1) := by decide +kernel
theorem dX8_copies_1 : decode cX8_copies 1 = .ok (.istore_n 2, 1) := by decide +kernel
theorem dX8_copies_2 : decode cX8_copies 2 = .ok (.iload_n 2, 1) := by decide +kernel
theorem dX8_copies_3 : decode cX8_copies 3 = .ok (.sipush 240, 3) := by decide +kernel
theorem dX8_copies_6 : decode cX8_copies 6 = .ok (.if_icmp .ge 15, 3) := by decide +kernel
theorem dX8_copies_9 : decode cX8_copies 9 = .ok (.aload_n 1, 1) := by decide +kernel
theorem dX8_copies_10 : decode cX8_copies 10 = .ok (.iload_n 2, 1) := by decide +kernel
theorem dX8_copies_11 : decode cX8_copies 11 = .ok (.aload_n 0, 1) := by decide +kernel
theorem dX8_copies_12 : decode cX8_copies 12 = .ok (.iload_n 2, 1) := by decide +kernel
theorem dX8_copies_13 : decode cX8_copies 13 = .ok (.iaload, 1) := by decide +kernel
theorem dX8_copies_14 : decode cX8_copies 14 = .ok (.iastore, 1) := by decide +kernel
theorem dX8_copies_15 : decode cX8_copies 15 = .ok (.iinc 2 1, 3) := by decide +kernel
theorem dX8_copies_18 : decode cX8_copies 18 = .ok (.goto (-16), 3) := by decide +kernel
theorem dX8_copies_21 : decode cX8_copies 21 = .ok (.return_, 1) := by decide +kernel
theorem dX8_changes_0 : decode cX8_changes 0 = .ok (.aload_n 0, 1) := by decide +kernel
theorem dX8_changes_1 : decode cX8_changes 1 = .ok (.getfield 34, 3) := by decide +kernel
theorem dX8_changes_4 : decode cX8_changes 4 = .ok (.ifCond .eq 4, 3) := by decide +kernel
theorem dX8_changes_7 : decode cX8_changes 7 = .ok (.return_, 1) := by decide +kernel
theorem dX8_changes_8 : decode cX8_changes 8 = .ok (.aload_n 0, 1) := by decide +kernel
theorem dX8_changes_9 : decode cX8_changes 9 = .ok (.getfield 38, 3) := by decide +kernel
theorem dX8_changes_12 : decode cX8_changes 12 = .ok (.iconst 4, 1) := by decide +kernel
theorem dX8_changes_13 : decode cX8_changes 13 = .ok (.if_icmp .ne 44, 3) := by decide +kernel
theorem dX8_changes_16 : decode cX8_changes 16 = .ok (.iconst 0, 1) := by decide +kernel
theorem dX8_changes_17 : decode cX8_changes 17 = .ok (.istore_n 1, 1) := by decide +kernel
theorem dX8_changes_18 : decode cX8_changes 18 = .ok (.iload_n 1, 1) := by decide +kernel
theorem dX8_changes_19 : decode cX8_changes 19 = .ok (.sipush 720, 3) := by decide +kernel
theorem dX8_changes_22 : decode cX8_changes 22 = .ok (.if_icmp .ge 25, 3) := by decide +kernel
theorem dX8_changes_25 : decode cX8_changes 25 = .ok (.aload_n 0, 1) := by decide +kernel
theorem dX8_changes_26 : decode cX8_changes 26 = .ok (.getfield 13, 3) := by decide +kernel
theorem dX8_changes_29 : decode cX8_changes 29 = .ok (.iload_n 1, 1) := by decide +kernel
theorem dX8_changes_30 : decode cX8_changes 30 = .ok (.aload_n 0, 1) := by decide +kernel
theorem dX8_changes_31 : decode cX8_changes 31 = .ok (.getfield 13, 3) := by decide +kernel
theorem dX8_changes_34 : decode cX8_changes 34 = .ok (.iload_n 1, 1) := by decide +kernel
theorem dX8_changes_35 : decode cX8_changes 35 = .ok (.sipush 240, 3) := by decide +kernel
theorem dX8_changes_38 : decode cX8_changes 38 = .ok (.iadd, 1) := by decide +kernel
theorem dX8_changes_39 : decode cX8_changes 39 = .ok (.iaload, 1) := by decide +kernel
theorem dX8_changes_40 : decode cX8_changes 40 = .ok (.iastore, 1) := by decide +kernel
theorem dX8_changes_41 : decode cX8_changes 41 = .ok (.iinc 1 1, 3) := by decide +kernel
theorem dX8_changes_44 : decode cX8_changes 44 = .ok (.goto (-26), 3) := by decide +kernel
theorem dX8_changes_47 : decode cX8_changes 47 = .ok (.aload_n 0, 1) := by decide +kernel
theorem dX8_changes_48 : decode cX8_changes 48 = .ok (.dup, 1) := by decide +kernel
theorem dX8_changes_49 : decode cX8_changes 49 = .ok (.getfield 38, 3) := by decide +kernel
theorem dX8_changes_52 : decode cX8_changes 52 = .ok (.iconst 1, 1) := by decide +kernel
theorem dX8_changes_53 : decode cX8_changes 53 = .ok (.isub, 1) := by decide +kernel
theorem dX8_changes_54 : decode cX8_changes 54 = .ok (.putfield 38, 3) := by decide +kernel
theorem dX8_changes_57 : decode cX8_changes 57 = .ok (.iconst 0, 1) := by decide +kernel
theorem dX8_changes_58 : decode cX8_changes 58 = .ok (.istore_n 1, 1) := by decide +kernel
theorem dX8_changes_59 : decode cX8_changes 59 = .ok (.iload_n 1, 1) := by decide +kernel
theorem dX8_changes_60 : decode cX8_changes 60 = .ok (.sipush 240, 3) := by decide +kernel
theorem dX8_changes_63 : decode cX8_changes 63 = .ok (.if_icmp .ge 30, 3) := by decide +kernel
theorem dX8_changes_66 : decode cX8_changes 66 = .ok (.aload_n 0, 1) := by decide +kernel
theorem dX8_changes_67 : decode cX8_changes 67 = .ok (.getfield 13, 3) := by decide +kernel
theorem dX8_changes_70 : decode cX8_changes 70 = .ok (.sipush 240, 3) := by decide +kernel
theorem dX8_changes_73 : decode cX8_changes 73 = .ok (.aload_n 0, 1) := by decide +kernel
theorem dX8_changes_74 : decode cX8_changes 74 = .ok (.getfield 38, 3) := by decide +kernel
theorem dX8_changes_77 : decode cX8_changes 77 = .ok (.imul, 1) := by decide +kernel
theorem dX8_changes_78 : decode cX8_changes 78 = .ok (.iload_n 1, 1) := by decide +kernel
theorem dX8_changes_79 : decode cX8_changes 79 = .ok (.iadd, 1) := by decide +kernel
theorem dX8_changes_80 : decode cX8_changes 80 = .ok (.aload_n 0, 1) := by decide +kernel
theorem dX8_changes_81 : decode cX8_changes 81 = .ok (.getfield 7, 3) := by decide +kernel
theorem dX8_changes_84 : decode cX8_changes 84 = .ok (.iload_n 1, 1) := by decide +kernel
theorem dX8_changes_85 : decode cX8_changes 85 = .ok (.iaload, 1) := by decide +kernel
theorem dX8_changes_86 : decode cX8_changes 86 = .ok (.iastore, 1) := by decide +kernel
theorem dX8_changes_87 : decode cX8_changes 87 = .ok (.iinc 1 1, 3) := by decide +kernel
theorem dX8_changes_90 : decode cX8_changes 90 = .ok (.goto (-31), 3) := by decide +kernel
theorem dX8_changes_93 : decode cX8_changes 93 = .ok (.aload_n 0, 1) := by decide +kernel
theorem dX8_changes_94 : decode cX8_changes 94 = .ok (.dup, 1) := by decide +kernel
theorem dX8_changes_95 : decode cX8_changes 95 = .ok (.getfield 38, 3) := by decide +kernel
theorem dX8_changes_98 : decode cX8_changes 98 = .ok (.iconst 1, 1) := by decide +kernel
theorem dX8_changes_99 : decode cX8_changes 99 = .ok (.iadd, 1) := by decide +kernel
theorem dX8_changes_100 : decode cX8_changes 100 = .ok (.putfield 38, 3) := by decide +kernel
theorem dX8_changes_103 : decode cX8_changes 103 = .ok (.return_, 1) := by decide +kernel
set_option maxRecDepth 20000 in
theorem ggX8_isCorner_X8_in : GoodIn wsX8_isCorner wsX8_in := goodIn_r _ [4] (by decide +kernel) (by decide +kernel)
set_option maxRecDepth 20000 in
theorem gX8_isCorner_X8_in : GoodIn wsX8_isCorner (va_wsS RX8 42 yX8_in wsX8_in) := goodIn_app (goodIn_of _ (by decide +kernel)) ggX8_isCorner_X8_in
theorem dX8_isCorner_0 : decode cX8_isCorner 0 = .ok (.iload_n 0, 1) := by decide +kernel
theorem dX8_isCorner_1 : decode cX8_isCorner 1 = .ok (.iconst 0, 1) := by decide +kernel
theorem dX8_isCorner_2 : decode cX8_isCorner 2 = .ok (.iconst 4, 1) := by decide +kernel
theorem dX8_isCorner_3 : decode cX8_isCorner 3 = .ok (.invokestatic 42, 3) := by decide +kernel
theorem dX8_isCorner_6 : decode cX8_isCorner 6 = .ok (.ifCond .eq 16, 3) := by decide +kernel
theorem dX8_isCorner_9 : decode cX8_isCorner 9 = .ok (.iload_n 1, 1) := by decide +kernel
theorem dX8_isCorner_10 : decode cX8_isCorner 10 = .ok (.iconst 0, 1) := by decide +kernel
theorem dX8_isCorner_11 : decode cX8_isCorner 11 = .ok (.iconst 3, 1) := by decide +kernel
theorem dX8_isCorner_12 : decode cX8_isCorner 12 = .ok (.invokestatic 42, 3) := by decide +kernel
theorem dX8_isCorner_15 : decode cX8_isCorner 15 = .ok (.ifCond .eq 7, 3) := by decide +kernel
theorem dX8_isCorner_18 : decode cX8_isCorner 18 = .ok (.iconst 1, 1) := by decide +kernel
theorem dX8_isCorner_19 : decode cX8_isCorner 19 = .ok (.goto 4, 3) := by decide +kernel
theorem dX8_isCorner_22 : decode cX8_isCorner 22 = .ok (.iconst 0, 1) := by decide +kernel
theorem dX8_isCorner_23 : decode cX8_isCorner 23 = .ok (.ireturn, 1) := by decide +kernel
theorem dX8_at_0 : decode cX8_at 0 = .ok (.bipush 12, 2) := by decide +kernel
theorem dX8_at_2 : decode cX8_at 2 = .ok (.iconst 5, 1) := by decide +kernel
theorem dX8_at_3 : decode cX8_at 3 = .ok (.iload_n 1, 1) := by decide +kernel
theorem dX8_at_4 : decode cX8_at 4 = .ok (.imul, 1) := by decide +kernel
theorem dX8_at_5 : decode cX8_at 5 = .ok (.iload_n 0, 1) := by decide +kernel
theorem dX8_at_6 : decode cX8_at 6 = .ok (.iadd, 1) := by decide +kernel
theorem dX8_at_7 : decode cX8_at 7 = .ok (.imul, 1) := by decide +kernel
theorem dX8_at_8 : decode cX8_at 8 = .ok (.ireturn, 1) := by decide +kernel
theorem dX8_floor_0 : decode cX8_floor 0 = .ok (.iload_n 0, 1) := by decide +kernel
theorem dX8_floor_1 : decode cX8_floor 1 = .ok (.ifCond .lt 9, 3) := by decide +kernel
theorem dX8_floor_4 : decode cX8_floor 4 = .ok (.iload_n 0, 1) := by decide +kernel
theorem dX8_floor_5 : decode cX8_floor 5 = .ok (.iload_n 1, 1) := by decide +kernel
theorem dX8_floor_6 : decode cX8_floor 6 = .ok (.idiv, 1) := by decide +kernel
theorem dX8_floor_7 : decode cX8_floor 7 = .ok (.goto 11, 3) := by decide +kernel
theorem dX8_floor_10 : decode cX8_floor 10 = .ok (.iload_n 1, 1) := by decide +kernel
theorem dX8_floor_11 : decode cX8_floor 11 = .ok (.iconst 1, 1) := by decide +kernel
theorem dX8_floor_12 : decode cX8_floor 12 = .ok (.isub, 1) := by decide +kernel
theorem dX8_floor_13 : decode cX8_floor 13 = .ok (.iload_n 0, 1) := by decide +kernel
theorem dX8_floor_14 : decode cX8_floor 14 = .ok (.isub, 1) := by decide +kernel
theorem dX8_floor_15 : decode cX8_floor 15 = .ok (.iload_n 1, 1) := by decide +kernel
theorem dX8_floor_16 : decode cX8_floor 16 = .ok (.idiv, 1) := by decide +kernel
theorem dX8_floor_17 : decode cX8_floor 17 = .ok (.ineg, 1) := by decide +kernel
theorem dX8_floor_18 : decode cX8_floor 18 = .ok (.ireturn, 1) := by decide +kernel
theorem dX8_heldCorners_0 : decode cX8_heldCorners 0 = .ok (.iconst 0, 1) := by decide +kernel
theorem dX8_heldCorners_1 : decode cX8_heldCorners 1 = .ok (.istore_n 1, 1) := by decide +kernel
theorem dX8_heldCorners_2 : decode cX8_heldCorners 2 = .ok (.iconst 0, 1) := by decide +kernel
theorem dX8_heldCorners_3 : decode cX8_heldCorners 3 = .ok (.istore_n 2, 1) := by decide +kernel
theorem dX8_heldCorners_4 : decode cX8_heldCorners 4 = .ok (.iload_n 2, 1) := by decide +kernel
theorem dX8_heldCorners_5 : decode cX8_heldCorners 5 = .ok (.bipush 20, 2) := by decide +kernel
theorem dX8_heldCorners_7 : decode cX8_heldCorners 7 = .ok (.if_icmp .ge 23, 3) := by decide +kernel
theorem dX8_heldCorners_10 : decode cX8_heldCorners 10 = .ok (.iload_n 1, 1) := by decide +kernel
theorem dX8_heldCorners_11 : decode cX8_heldCorners 11 = .ok (.aload_n 0, 1) := by decide +kernel
theorem dX8_heldCorners_12 : decode cX8_heldCorners 12 = .ok (.getfield 7, 3) := by decide +kernel
theorem dX8_heldCorners_15 : decode cX8_heldCorners 15 = .ok (.bipush 12, 2) := by decide +kernel
theorem dX8_heldCorners_17 : decode cX8_heldCorners 17 = .ok (.iload_n 2, 1) := by decide +kernel
theorem dX8_heldCorners_18 : decode cX8_heldCorners 18 = .ok (.imul, 1) := by decide +kernel
theorem dX8_heldCorners_19 : decode cX8_heldCorners 19 = .ok (.iconst 5, 1) := by decide +kernel
theorem dX8_heldCorners_20 : decode cX8_heldCorners 20 = .ok (.iadd, 1) := by decide +kernel
theorem dX8_heldCorners_21 : decode cX8_heldCorners 21 = .ok (.iaload, 1) := by decide +kernel
theorem dX8_heldCorners_22 : decode cX8_heldCorners 22 = .ok (.iadd, 1) := by decide +kernel
theorem dX8_heldCorners_23 : decode cX8_heldCorners 23 = .ok (.istore_n 1, 1) := by decide +kernel
theorem dX8_heldCorners_24 : decode cX8_heldCorners 24 = .ok (.iinc 2 1, 3) := by decide +kernel
theorem dX8_heldCorners_27 : decode cX8_heldCorners 27 = .ok (.goto (-23), 3) := by decide +kernel
theorem dX8_heldCorners_30 : decode cX8_heldCorners 30 = .ok (.iload_n 1, 1) := by decide +kernel
theorem dX8_heldCorners_31 : decode cX8_heldCorners 31 = .ok (.ireturn, 1) := by decide +kernel
set_option maxRecDepth 20000 in
theorem ggX8_hold_X8_isCorner : GoodIn wsX8_hold wsX8_isCorner := goodIn_r _ [5, 6, 7, 4, 8] (by decide +kernel) (by decide +kernel)
set_option maxRecDepth 20000 in
theorem gX8_hold_X8_isCorner : GoodIn wsX8_hold (va_wsS RX8 46 yX8_isCorner wsX8_isCorner) := goodIn_app (goodIn_of _ (by decide +kernel)) ggX8_hold_X8_isCorner
set_option maxRecDepth 20000 in
theorem ggX8_hold_X8_in : GoodIn wsX8_hold wsX8_in := goodIn_r _ [8] (by decide +kernel) (by decide +kernel)
set_option maxRecDepth 20000 in
theorem gX8_hold_X8_in : GoodIn wsX8_hold (va_wsS RX8 42 yX8_in wsX8_in) := goodIn_app (goodIn_of _ (by decide +kernel)) ggX8_hold_X8_in
set_option maxRecDepth 20000 in
theorem ggX8_hold_X8_changes : GoodIn wsX8_hold wsX8_changes := goodIn_r _ [12, 13, 14, 15, 1, 19, 20, 21, 22, 23, 24, 25, 26, 27, 28, 29, 30, 31, 32, 33, 34, 35, 36] (by decide +kernel) (by decide +kernel)
set_option maxRecDepth 20000 in
theorem gX8_hold_X8_changes : GoodIn wsX8_hold (wsV RX8 50 RX8 yX8_changes wsX8_changes) := goodIn_app (goodIn_of _ (by decide +kernel)) ggX8_hold_X8_changes
set_option maxRecDepth 20000 in
theorem ggX8_hold_X8_at : GoodIn wsX8_hold wsX8_at := goodIn_r _ [18] (by decide +kernel) (by decide +kernel)
set_option maxRecDepth 20000 in
theorem gX8_hold_X8_at : GoodIn wsX8_hold (va_wsS RX8 53 yX8_at wsX8_at) := goodIn_app (goodIn_of _ (by decide +kernel)) ggX8_hold_X8_at
theorem dX8_hold_0 : decode cX8_hold 0 = .ok (.iload_n 1, 1) := by decide +kernel
theorem dX8_hold_1 : decode cX8_hold 1 = .ok (.iload_n 2, 1) := by decide +kernel
theorem dX8_hold_2 : decode cX8_hold 2 = .ok (.invokestatic 46, 3) := by decide +kernel
theorem dX8_hold_5 : decode cX8_hold 5 = .ok (.ifCond .eq 38, 3) := by decide +kernel
theorem dX8_hold_8 : decode cX8_hold 8 = .ok (.iload_n 3, 1) := by decide +kernel
theorem dX8_hold_9 : decode cX8_hold 9 = .ok (.iconst 0, 1) := by decide +kernel
theorem dX8_hold_10 : decode cX8_hold 10 = .ok (.sipush 255, 3) := by decide +kernel
theorem dX8_hold_13 : decode cX8_hold 13 = .ok (.invokestatic 42, 3) := by decide +kernel
theorem dX8_hold_16 : decode cX8_hold 16 = .ok (.ifCond .eq 27, 3) := by decide +kernel
theorem dX8_hold_19 : decode cX8_hold 19 = .ok (.iload 4, 2) := by decide +kernel
theorem dX8_hold_21 : decode cX8_hold 21 = .ok (.iconst 0, 1) := by decide +kernel
theorem dX8_hold_22 : decode cX8_hold 22 = .ok (.sipush 255, 3) := by decide +kernel
theorem dX8_hold_25 : decode cX8_hold 25 = .ok (.invokestatic 42, 3) := by decide +kernel
theorem dX8_hold_28 : decode cX8_hold 28 = .ok (.ifCond .eq 15, 3) := by decide +kernel
theorem dX8_hold_31 : decode cX8_hold 31 = .ok (.iload 5, 2) := by decide +kernel
theorem dX8_hold_33 : decode cX8_hold 33 = .ok (.iconst 0, 1) := by decide +kernel
theorem dX8_hold_34 : decode cX8_hold 34 = .ok (.sipush 255, 3) := by decide +kernel
theorem dX8_hold_37 : decode cX8_hold 37 = .ok (.invokestatic 42, 3) := by decide +kernel
theorem dX8_hold_40 : decode cX8_hold 40 = .ok (.ifCond .ne 7, 3) := by decide +kernel
theorem dX8_hold_43 : decode cX8_hold 43 = .ok (.sipush (-1001), 3) := by decide +kernel
theorem dX8_hold_46 : decode cX8_hold 46 = .ok (.ireturn, 1) := by decide +kernel
theorem dX8_hold_47 : decode cX8_hold 47 = .ok (.aload_n 0, 1) := by decide +kernel
theorem dX8_hold_48 : decode cX8_hold 48 = .ok (.invokevirtual 50, 3) := by decide +kernel
theorem dX8_hold_51 : decode cX8_hold 51 = .ok (.iload_n 1, 1) := by decide +kernel
theorem dX8_hold_52 : decode cX8_hold 52 = .ok (.iload_n 2, 1) := by decide +kernel
theorem dX8_hold_53 : decode cX8_hold 53 = .ok (.invokestatic 53, 3) := by decide +kernel
theorem dX8_hold_56 : decode cX8_hold 56 = .ok (.istore 6, 2) := by decide +kernel
theorem dX8_hold_58 : decode cX8_hold 58 = .ok (.aload_n 0, 1) := by decide +kernel
theorem dX8_hold_59 : decode cX8_hold 59 = .ok (.getfield 7, 3) := by decide +kernel
theorem dX8_hold_62 : decode cX8_hold 62 = .ok (.iload 6, 2) := by decide +kernel
theorem dX8_hold_64 : decode cX8_hold 64 = .ok (.iconst 5, 1) := by decide +kernel
theorem dX8_hold_65 : decode cX8_hold 65 = .ok (.iadd, 1) := by decide +kernel
theorem dX8_hold_66 : decode cX8_hold 66 = .ok (.iaload, 1) := by decide +kernel
theorem dX8_hold_67 : decode cX8_hold 67 = .ok (.istore 7, 2) := by decide +kernel
theorem dX8_hold_69 : decode cX8_hold 69 = .ok (.aload_n 0, 1) := by decide +kernel
theorem dX8_hold_70 : decode cX8_hold 70 = .ok (.getfield 7, 3) := by decide +kernel
theorem dX8_hold_73 : decode cX8_hold 73 = .ok (.iload 6, 2) := by decide +kernel
theorem dX8_hold_75 : decode cX8_hold 75 = .ok (.iconst 2, 1) := by decide +kernel
theorem dX8_hold_76 : decode cX8_hold 76 = .ok (.iadd, 1) := by decide +kernel
theorem dX8_hold_77 : decode cX8_hold 77 = .ok (.iload_n 3, 1) := by decide +kernel
theorem dX8_hold_78 : decode cX8_hold 78 = .ok (.iastore, 1) := by decide +kernel
theorem dX8_hold_79 : decode cX8_hold 79 = .ok (.aload_n 0, 1) := by decide +kernel
theorem dX8_hold_80 : decode cX8_hold 80 = .ok (.getfield 7, 3) := by decide +kernel
theorem dX8_hold_83 : decode cX8_hold 83 = .ok (.iload 6, 2) := by decide +kernel
theorem dX8_hold_85 : decode cX8_hold 85 = .ok (.iconst 2, 1) := by decide +kernel
theorem dX8_hold_86 : decode cX8_hold 86 = .ok (.iadd, 1) := by decide +kernel
theorem dX8_hold_87 : decode cX8_hold 87 = .ok (.iconst 1, 1) := by decide +kernel
theorem dX8_hold_88 : decode cX8_hold 88 = .ok (.iadd, 1) := by decide +kernel
theorem dX8_hold_89 : decode cX8_hold 89 = .ok (.iload 4, 2) := by decide +kernel
theorem dX8_hold_91 : decode cX8_hold 91 = .ok (.iastore, 1) := by decide +kernel
theorem dX8_hold_92 : decode cX8_hold 92 = .ok (.aload_n 0, 1) := by decide +kernel
theorem dX8_hold_93 : decode cX8_hold 93 = .ok (.getfield 7, 3) := by decide +kernel
theorem dX8_hold_96 : decode cX8_hold 96 = .ok (.iload 6, 2) := by decide +kernel
theorem dX8_hold_98 : decode cX8_hold 98 = .ok (.iconst 2, 1) := by decide +kernel
theorem dX8_hold_99 : decode cX8_hold 99 = .ok (.iadd, 1) := by decide +kernel
theorem dX8_hold_100 : decode cX8_hold 100 = .ok (.iconst 2, 1) := by decide +kernel
theorem dX8_hold_101 : decode cX8_hold 101 = .ok (.iadd, 1) := by decide +kernel
theorem dX8_hold_102 : decode cX8_hold 102 = .ok (.iload 5, 2) := by decide +kernel
theorem dX8_hold_104 : decode cX8_hold 104 = .ok (.iastore, 1) := by decide +kernel
theorem dX8_hold_105 : decode cX8_hold 105 = .ok (.aload_n 0, 1) := by decide +kernel
theorem dX8_hold_106 : decode cX8_hold 106 = .ok (.getfield 7, 3) := by decide +kernel
theorem dX8_hold_109 : decode cX8_hold 109 = .ok (.iload 6, 2) := by decide +kernel
theorem dX8_hold_111 : decode cX8_hold 111 = .ok (.iconst 5, 1) := by decide +kernel
theorem dX8_hold_112 : decode cX8_hold 112 = .ok (.iadd, 1) := by decide +kernel
theorem dX8_hold_113 : decode cX8_hold 113 = .ok (.iconst 1, 1) := by decide +kernel
theorem dX8_hold_114 : decode cX8_hold 114 = .ok (.iastore, 1) := by decide +kernel
theorem dX8_hold_115 : decode cX8_hold 115 = .ok (.iload 7, 2) := by decide +kernel
theorem dX8_hold_117 : decode cX8_hold 117 = .ok (.ireturn, 1) := by decide +kernel
set_option maxRecDepth 20000 in
theorem ggX8_free_X8_isCorner : GoodIn wsX8_free wsX8_isCorner := goodIn_r _ [5, 6, 7, 4, 8] (by decide +kernel) (by decide +kernel)
set_option maxRecDepth 20000 in
theorem gX8_free_X8_isCorner : GoodIn wsX8_free (va_wsS RX8 46 yX8_isCorner wsX8_isCorner) := goodIn_app (goodIn_of _ (by decide +kernel)) ggX8_free_X8_isCorner
set_option maxRecDepth 20000 in
theorem ggX8_free_X8_at : GoodIn wsX8_free wsX8_at := goodIn_r _ [11] (by decide +kernel) (by decide +kernel)
set_option maxRecDepth 20000 in
theorem gX8_free_X8_at : GoodIn wsX8_free (va_wsS RX8 53 yX8_at wsX8_at) := goodIn_app (goodIn_of _ (by decide +kernel)) ggX8_free_X8_at
set_option maxRecDepth 20000 in
theorem ggX8_free_X8_changes : GoodIn wsX8_free wsX8_changes := goodIn_r _ [15, 16, 17, 18, 1, 23, 24, 25, 26, 27, 28, 29, 30, 31, 32, 33, 34, 35, 36, 37, 38, 39, 40] (by decide +kernel) (by decide +kernel)
set_option maxRecDepth 20000 in
theorem gX8_free_X8_changes : GoodIn wsX8_free (wsV RX8 50 RX8 yX8_changes wsX8_changes) := goodIn_app (goodIn_of _ (by decide +kernel)) ggX8_free_X8_changes
set_option maxRecDepth 20000 in
theorem ggX8_free_X8_heldCorners : GoodIn wsX8_free wsX8_heldCorners := goodIn_r _ [22, 1, 23, 24, 25, 26, 27, 28, 29, 30, 31, 32, 33, 34, 35, 36, 37, 38, 39, 40] (by decide +kernel) (by decide +kernel)
set_option maxRecDepth 20000 in
theorem gX8_free_X8_heldCorners : GoodIn wsX8_free (wsV RX8 57 RX8 yX8_heldCorners wsX8_heldCorners) := goodIn_app (goodIn_of _ (by decide +kernel)) ggX8_free_X8_heldCorners
theorem dX8_free_0 : decode cX8_free 0 = .ok (.iload_n 1, 1) := by decide +kernel
theorem dX8_free_1 : decode cX8_free 1 = .ok (.iload_n 2, 1) := by decide +kernel
theorem dX8_free_2 : decode cX8_free 2 = .ok (.invokestatic 46, 3) := by decide +kernel
theorem dX8_free_5 : decode cX8_free 5 = .ok (.ifCond .ne 7, 3) := by decide +kernel
theorem dX8_free_8 : decode cX8_free 8 = .ok (.sipush (-1001), 3) := by decide +kernel
theorem dX8_free_11 : decode cX8_free 11 = .ok (.ireturn, 1) := by decide +kernel
theorem dX8_free_12 : decode cX8_free 12 = .ok (.aload_n 0, 1) := by decide +kernel
theorem dX8_free_13 : decode cX8_free 13 = .ok (.getfield 7, 3) := by decide +kernel
theorem dX8_free_16 : decode cX8_free 16 = .ok (.iload_n 1, 1) := by decide +kernel
theorem dX8_free_17 : decode cX8_free 17 = .ok (.iload_n 2, 1) := by decide +kernel
theorem dX8_free_18 : decode cX8_free 18 = .ok (.invokestatic 53, 3) := by decide +kernel
theorem dX8_free_21 : decode cX8_free 21 = .ok (.iconst 5, 1) := by decide +kernel
theorem dX8_free_22 : decode cX8_free 22 = .ok (.iadd, 1) := by decide +kernel
theorem dX8_free_23 : decode cX8_free 23 = .ok (.iaload, 1) := by decide +kernel
theorem dX8_free_24 : decode cX8_free 24 = .ok (.ifCond .ne 7, 3) := by decide +kernel
theorem dX8_free_27 : decode cX8_free 27 = .ok (.sipush (-1002), 3) := by decide +kernel
theorem dX8_free_30 : decode cX8_free 30 = .ok (.ireturn, 1) := by decide +kernel
theorem dX8_free_31 : decode cX8_free 31 = .ok (.aload_n 0, 1) := by decide +kernel
theorem dX8_free_32 : decode cX8_free 32 = .ok (.invokevirtual 50, 3) := by decide +kernel
theorem dX8_free_35 : decode cX8_free 35 = .ok (.aload_n 0, 1) := by decide +kernel
theorem dX8_free_36 : decode cX8_free 36 = .ok (.getfield 7, 3) := by decide +kernel
theorem dX8_free_39 : decode cX8_free 39 = .ok (.iload_n 1, 1) := by decide +kernel
theorem dX8_free_40 : decode cX8_free 40 = .ok (.iload_n 2, 1) := by decide +kernel
theorem dX8_free_41 : decode cX8_free 41 = .ok (.invokestatic 53, 3) := by decide +kernel
theorem dX8_free_44 : decode cX8_free 44 = .ok (.iconst 5, 1) := by decide +kernel
theorem dX8_free_45 : decode cX8_free 45 = .ok (.iadd, 1) := by decide +kernel
theorem dX8_free_46 : decode cX8_free 46 = .ok (.iconst 0, 1) := by decide +kernel
theorem dX8_free_47 : decode cX8_free 47 = .ok (.iastore, 1) := by decide +kernel
theorem dX8_free_48 : decode cX8_free 48 = .ok (.aload_n 0, 1) := by decide +kernel
theorem dX8_free_49 : decode cX8_free 49 = .ok (.invokevirtual 57, 3) := by decide +kernel
theorem dX8_free_52 : decode cX8_free 52 = .ok (.ireturn, 1) := by decide +kernel
set_option maxRecDepth 20000 in
theorem ggX8_move_X8_isCorner : GoodIn wsX8_move wsX8_isCorner := goodIn_r _ [5, 6, 7, 4, 8] (by decide +kernel) (by decide +kernel)
set_option maxRecDepth 20000 in
theorem gX8_move_X8_isCorner : GoodIn wsX8_move (va_wsS RX8 46 yX8_isCorner wsX8_isCorner) := goodIn_app (goodIn_of _ (by decide +kernel)) ggX8_move_X8_isCorner
set_option maxRecDepth 20000 in
theorem ggX8_move_X8_in : GoodIn wsX8_move wsX8_in := goodIn_r _ [8] (by decide +kernel) (by decide +kernel)
set_option maxRecDepth 20000 in
theorem gX8_move_X8_in : GoodIn wsX8_move (va_wsS RX8 42 yX8_in wsX8_in) := goodIn_app (goodIn_of _ (by decide +kernel)) ggX8_move_X8_in
set_option maxRecDepth 20000 in
theorem ggX8_move_X8_changes : GoodIn wsX8_move wsX8_changes := goodIn_r _ [12, 13, 14, 15, 1, 30, 31, 32, 33, 34, 35, 36, 37, 38, 39, 40, 41, 42, 43, 44, 45, 46, 47] (by decide +kernel) (by decide +kernel)
set_option maxRecDepth 20000 in
theorem gX8_move_X8_changes : GoodIn wsX8_move (wsV RX8 50 RX8 yX8_changes wsX8_changes) := goodIn_app (goodIn_of _ (by decide +kernel)) ggX8_move_X8_changes
set_option maxRecDepth 20000 in
theorem ggX8_move_X8_at : GoodIn wsX8_move wsX8_at := goodIn_r _ [18] (by decide +kernel) (by decide +kernel)
set_option maxRecDepth 20000 in
theorem gX8_move_X8_at : GoodIn wsX8_move (va_wsS RX8 53 yX8_at wsX8_at) := goodIn_app (goodIn_of _ (by decide +kernel)) ggX8_move_X8_at
set_option maxRecDepth 20000 in
theorem ggX8_move_X8_folded : GoodIn wsX8_move wsX8_folded := goodIn_r _ [22, 23, 24, 25, 4, 26, 1, 27, 28, 29, 16, 17, 18, 30, 31, 32, 33, 34, 35, 36, 37, 38, 39, 40, 41, 42, 43, 44, 45, 46, 47] (by decide +kernel) (by decide +kernel)
set_option maxRecDepth 20000 in
theorem gX8_move_X8_folded : GoodIn wsX8_move (wsV RX8 61 RX8 yX8_folded wsX8_folded) := goodIn_app (goodIn_of _ (by decide +kernel)) ggX8_move_X8_folded
theorem dX8_move_0 : decode cX8_move 0 = .ok (.iload_n 1, 1) := by decide +kernel
theorem dX8_move_1 : decode cX8_move 1 = .ok (.iload_n 2, 1) := by decide +kernel
theorem dX8_move_2 : decode cX8_move 2 = .ok (.invokestatic 46, 3) := by decide +kernel
theorem dX8_move_5 : decode cX8_move 5 = .ok (.ifCond .eq 26, 3) := by decide +kernel
theorem dX8_move_8 : decode cX8_move 8 = .ok (.iload_n 3, 1) := by decide +kernel
theorem dX8_move_9 : decode cX8_move 9 = .ok (.iconst 0, 1) := by decide +kernel
theorem dX8_move_10 : decode cX8_move 10 = .ok (.sipush 999, 3) := by decide +kernel
theorem dX8_move_13 : decode cX8_move 13 = .ok (.invokestatic 42, 3) := by decide +kernel
theorem dX8_move_16 : decode cX8_move 16 = .ok (.ifCond .eq 15, 3) := by decide +kernel
theorem dX8_move_19 : decode cX8_move 19 = .ok (.iload 4, 2) := by decide +kernel
theorem dX8_move_21 : decode cX8_move 21 = .ok (.iconst 0, 1) := by decide +kernel
theorem dX8_move_22 : decode cX8_move 22 = .ok (.sipush 999, 3) := by decide +kernel
theorem dX8_move_25 : decode cX8_move 25 = .ok (.invokestatic 42, 3) := by decide +kernel
theorem dX8_move_28 : decode cX8_move 28 = .ok (.ifCond .ne 7, 3) := by decide +kernel
theorem dX8_move_31 : decode cX8_move 31 = .ok (.sipush (-1001), 3) := by decide +kernel
theorem dX8_move_34 : decode cX8_move 34 = .ok (.ireturn, 1) := by decide +kernel
theorem dX8_move_35 : decode cX8_move 35 = .ok (.aload_n 0, 1) := by decide +kernel
theorem dX8_move_36 : decode cX8_move 36 = .ok (.invokevirtual 50, 3) := by decide +kernel
theorem dX8_move_39 : decode cX8_move 39 = .ok (.aload_n 0, 1) := by decide +kernel
theorem dX8_move_40 : decode cX8_move 40 = .ok (.getfield 7, 3) := by decide +kernel
theorem dX8_move_43 : decode cX8_move 43 = .ok (.iload_n 1, 1) := by decide +kernel
theorem dX8_move_44 : decode cX8_move 44 = .ok (.iload_n 2, 1) := by decide +kernel
theorem dX8_move_45 : decode cX8_move 45 = .ok (.invokestatic 53, 3) := by decide +kernel
theorem dX8_move_48 : decode cX8_move 48 = .ok (.iconst 0, 1) := by decide +kernel
theorem dX8_move_49 : decode cX8_move 49 = .ok (.iadd, 1) := by decide +kernel
theorem dX8_move_50 : decode cX8_move 50 = .ok (.iload_n 3, 1) := by decide +kernel
theorem dX8_move_51 : decode cX8_move 51 = .ok (.iastore, 1) := by decide +kernel
theorem dX8_move_52 : decode cX8_move 52 = .ok (.aload_n 0, 1) := by decide +kernel
theorem dX8_move_53 : decode cX8_move 53 = .ok (.getfield 7, 3) := by decide +kernel
theorem dX8_move_56 : decode cX8_move 56 = .ok (.iload_n 1, 1) := by decide +kernel
theorem dX8_move_57 : decode cX8_move 57 = .ok (.iload_n 2, 1) := by decide +kernel
theorem dX8_move_58 : decode cX8_move 58 = .ok (.invokestatic 53, 3) := by decide +kernel
theorem dX8_move_61 : decode cX8_move 61 = .ok (.iconst 1, 1) := by decide +kernel
theorem dX8_move_62 : decode cX8_move 62 = .ok (.iadd, 1) := by decide +kernel
theorem dX8_move_63 : decode cX8_move 63 = .ok (.iload 4, 2) := by decide +kernel
theorem dX8_move_65 : decode cX8_move 65 = .ok (.iastore, 1) := by decide +kernel
theorem dX8_move_66 : decode cX8_move 66 = .ok (.aload_n 0, 1) := by decide +kernel
theorem dX8_move_67 : decode cX8_move 67 = .ok (.invokevirtual 61, 3) := by decide +kernel
theorem dX8_move_70 : decode cX8_move 70 = .ok (.ireturn, 1) := by decide +kernel
set_option maxRecDepth 20000 in
theorem ggX8_slopeOf_X8_at : GoodIn wsX8_slopeOf wsX8_at := goodIn_r _ [5] (by decide +kernel) (by decide +kernel)
set_option maxRecDepth 20000 in
theorem gX8_slopeOf_X8_at : GoodIn wsX8_slopeOf (va_wsS RX8 53 yX8_at wsX8_at) := goodIn_app (goodIn_of _ (by decide +kernel)) ggX8_slopeOf_X8_at
set_option maxRecDepth 20000 in
theorem ggX8_slopeOf_X8_floor : GoodIn wsX8_slopeOf wsX8_floor := goodIn_r _ [8] (by decide +kernel) (by decide +kernel)
set_option maxRecDepth 20000 in
theorem gX8_slopeOf_X8_floor : GoodIn wsX8_slopeOf (va_wsS RX8 64 yX8_floor wsX8_floor) := goodIn_app (goodIn_of _ (by decide +kernel)) ggX8_slopeOf_X8_floor
theorem dX8_slopeOf_0 : decode cX8_slopeOf 0 = .ok (.aload_n 0, 1) := by decide +kernel
theorem dX8_slopeOf_1 : decode cX8_slopeOf 1 = .ok (.getfield 7, 3) := by decide +kernel
theorem dX8_slopeOf_4 : decode cX8_slopeOf 4 = .ok (.iload_n 1, 1) := by decide +kernel
theorem dX8_slopeOf_5 : decode cX8_slopeOf 5 = .ok (.iload_n 2, 1) := by decide +kernel
theorem dX8_slopeOf_6 : decode cX8_slopeOf 6 = .ok (.invokestatic 53, 3) := by decide +kernel
theorem dX8_slopeOf_9 : decode cX8_slopeOf 9 = .ok (.bipush 6, 2) := by decide +kernel
theorem dX8_slopeOf_11 : decode cX8_slopeOf 11 = .ok (.iadd, 1) := by decide +kernel
theorem dX8_slopeOf_12 : decode cX8_slopeOf 12 = .ok (.iconst 3, 1) := by decide +kernel
theorem dX8_slopeOf_13 : decode cX8_slopeOf 13 = .ok (.iload_n 3, 1) := by decide +kernel
theorem dX8_slopeOf_14 : decode cX8_slopeOf 14 = .ok (.imul, 1) := by decide +kernel
theorem dX8_slopeOf_15 : decode cX8_slopeOf 15 = .ok (.iadd, 1) := by decide +kernel
theorem dX8_slopeOf_16 : decode cX8_slopeOf 16 = .ok (.iload 4, 2) := by decide +kernel
theorem dX8_slopeOf_18 : decode cX8_slopeOf 18 = .ok (.iadd, 1) := by decide +kernel
theorem dX8_slopeOf_19 : decode cX8_slopeOf 19 = .ok (.iaload, 1) := by decide +kernel
theorem dX8_slopeOf_20 : decode cX8_slopeOf 20 = .ok (.istore 5, 2) := by decide +kernel
theorem dX8_slopeOf_22 : decode cX8_slopeOf 22 = .ok (.iload 5, 2) := by decide +kernel
theorem dX8_slopeOf_24 : decode cX8_slopeOf 24 = .ok (.sipush 999, 3) := by decide +kernel
theorem dX8_slopeOf_27 : decode cX8_slopeOf 27 = .ok (.if_icmp .eq 6, 3) := by decide +kernel
theorem dX8_slopeOf_30 : decode cX8_slopeOf 30 = .ok (.iload 5, 2) := by decide +kernel
theorem dX8_slopeOf_32 : decode cX8_slopeOf 32 = .ok (.ireturn, 1) := by decide +kernel
theorem dX8_slopeOf_33 : decode cX8_slopeOf 33 = .ok (.iload_n 3, 1) := by decide +kernel
theorem dX8_slopeOf_34 : decode cX8_slopeOf 34 = .ok (.ifCond .ne 7, 3) := by decide +kernel
theorem dX8_slopeOf_37 : decode cX8_slopeOf 37 = .ok (.iload_n 1, 1) := by decide +kernel
theorem dX8_slopeOf_38 : decode cX8_slopeOf 38 = .ok (.goto 4, 3) := by decide +kernel
theorem dX8_slopeOf_41 : decode cX8_slopeOf 41 = .ok (.iload_n 2, 1) := by decide +kernel
theorem dX8_slopeOf_42 : decode cX8_slopeOf 42 = .ok (.istore 6, 2) := by decide +kernel
theorem dX8_slopeOf_44 : decode cX8_slopeOf 44 = .ok (.iload_n 3, 1) := by decide +kernel
theorem dX8_slopeOf_45 : decode cX8_slopeOf 45 = .ok (.ifCond .ne 7, 3) := by decide +kernel
theorem dX8_slopeOf_48 : decode cX8_slopeOf 48 = .ok (.iconst 4, 1) := by decide +kernel
theorem dX8_slopeOf_49 : decode cX8_slopeOf 49 = .ok (.goto 4, 3) := by decide +kernel
theorem dX8_slopeOf_52 : decode cX8_slopeOf 52 = .ok (.iconst 3, 1) := by decide +kernel
theorem dX8_slopeOf_53 : decode cX8_slopeOf 53 = .ok (.istore 7, 2) := by decide +kernel
theorem dX8_slopeOf_55 : decode cX8_slopeOf 55 = .ok (.iload 6, 2) := by decide +kernel
theorem dX8_slopeOf_57 : decode cX8_slopeOf 57 = .ok (.ifCond .ne 7, 3) := by decide +kernel
theorem dX8_slopeOf_60 : decode cX8_slopeOf 60 = .ok (.iconst 0, 1) := by decide +kernel
theorem dX8_slopeOf_61 : decode cX8_slopeOf 61 = .ok (.goto 7, 3) := by decide +kernel
theorem dX8_slopeOf_64 : decode cX8_slopeOf 64 = .ok (.iload 6, 2) := by decide +kernel
theorem dX8_slopeOf_66 : decode cX8_slopeOf 66 = .ok (.iconst 1, 1) := by decide +kernel
theorem dX8_slopeOf_67 : decode cX8_slopeOf 67 = .ok (.isub, 1) := by decide +kernel
theorem dX8_slopeOf_68 : decode cX8_slopeOf 68 = .ok (.istore 8, 2) := by decide +kernel
theorem dX8_slopeOf_70 : decode cX8_slopeOf 70 = .ok (.iload 6, 2) := by decide +kernel
theorem dX8_slopeOf_72 : decode cX8_slopeOf 72 = .ok (.iload 7, 2) := by decide +kernel
theorem dX8_slopeOf_74 : decode cX8_slopeOf 74 = .ok (.if_icmp .ne 8, 3) := by decide +kernel
theorem dX8_slopeOf_77 : decode cX8_slopeOf 77 = .ok (.iload 7, 2) := by decide +kernel
theorem dX8_slopeOf_79 : decode cX8_slopeOf 79 = .ok (.goto 7, 3) := by decide +kernel
theorem dX8_slopeOf_82 : decode cX8_slopeOf 82 = .ok (.iload 6, 2) := by decide +kernel
theorem dX8_slopeOf_84 : decode cX8_slopeOf 84 = .ok (.iconst 1, 1) := by decide +kernel
theorem dX8_slopeOf_85 : decode cX8_slopeOf 85 = .ok (.iadd, 1) := by decide +kernel
theorem dX8_slopeOf_86 : decode cX8_slopeOf 86 = .ok (.istore 9, 2) := by decide +kernel
theorem dX8_slopeOf_88 : decode cX8_slopeOf 88 = .ok (.iload_n 3, 1) := by decide +kernel
theorem dX8_slopeOf_89 : decode cX8_slopeOf 89 = .ok (.ifCond .ne 12, 3) := by decide +kernel
theorem dX8_slopeOf_92 : decode cX8_slopeOf 92 = .ok (.iload 8, 2) := by decide +kernel
theorem dX8_slopeOf_94 : decode cX8_slopeOf 94 = .ok (.iload_n 2, 1) := by decide +kernel
theorem dX8_slopeOf_95 : decode cX8_slopeOf 95 = .ok (.invokestatic 53, 3) := by decide +kernel
theorem dX8_slopeOf_98 : decode cX8_slopeOf 98 = .ok (.goto 9, 3) := by decide +kernel
theorem dX8_slopeOf_101 : decode cX8_slopeOf 101 = .ok (.iload_n 1, 1) := by decide +kernel
theorem dX8_slopeOf_102 : decode cX8_slopeOf 102 = .ok (.iload 8, 2) := by decide +kernel
theorem dX8_slopeOf_104 : decode cX8_slopeOf 104 = .ok (.invokestatic 53, 3) := by decide +kernel
theorem dX8_slopeOf_107 : decode cX8_slopeOf 107 = .ok (.istore 10, 2) := by decide +kernel
theorem dX8_slopeOf_109 : decode cX8_slopeOf 109 = .ok (.iload_n 3, 1) := by decide +kernel
theorem dX8_slopeOf_110 : decode cX8_slopeOf 110 = .ok (.ifCond .ne 12, 3) := by decide +kernel
theorem dX8_slopeOf_113 : decode cX8_slopeOf 113 = .ok (.iload 9, 2) := by decide +kernel
theorem dX8_slopeOf_115 : decode cX8_slopeOf 115 = .ok (.iload_n 2, 1) := by decide +kernel
theorem dX8_slopeOf_116 : decode cX8_slopeOf 116 = .ok (.invokestatic 53, 3) := by decide +kernel
theorem dX8_slopeOf_119 : decode cX8_slopeOf 119 = .ok (.goto 9, 3) := by decide +kernel
theorem dX8_slopeOf_122 : decode cX8_slopeOf 122 = .ok (.iload_n 1, 1) := by decide +kernel
theorem dX8_slopeOf_123 : decode cX8_slopeOf 123 = .ok (.iload 9, 2) := by decide +kernel
theorem dX8_slopeOf_125 : decode cX8_slopeOf 125 = .ok (.invokestatic 53, 3) := by decide +kernel
theorem dX8_slopeOf_128 : decode cX8_slopeOf 128 = .ok (.istore 11, 2) := by decide +kernel
theorem dX8_slopeOf_130 : decode cX8_slopeOf 130 = .ok (.aload_n 0, 1) := by decide +kernel
theorem dX8_slopeOf_131 : decode cX8_slopeOf 131 = .ok (.getfield 7, 3) := by decide +kernel
theorem dX8_slopeOf_134 : decode cX8_slopeOf 134 = .ok (.iload 11, 2) := by decide +kernel
theorem dX8_slopeOf_136 : decode cX8_slopeOf 136 = .ok (.iconst 2, 1) := by decide +kernel
theorem dX8_slopeOf_137 : decode cX8_slopeOf 137 = .ok (.iadd, 1) := by decide +kernel
theorem dX8_slopeOf_138 : decode cX8_slopeOf 138 = .ok (.iload 4, 2) := by decide +kernel
theorem dX8_slopeOf_140 : decode cX8_slopeOf 140 = .ok (.iadd, 1) := by decide +kernel
theorem dX8_slopeOf_141 : decode cX8_slopeOf 141 = .ok (.iaload, 1) := by decide +kernel
theorem dX8_slopeOf_142 : decode cX8_slopeOf 142 = .ok (.aload_n 0, 1) := by decide +kernel
theorem dX8_slopeOf_143 : decode cX8_slopeOf 143 = .ok (.getfield 7, 3) := by decide +kernel
theorem dX8_slopeOf_146 : decode cX8_slopeOf 146 = .ok (.iload 10, 2) := by decide +kernel
theorem dX8_slopeOf_148 : decode cX8_slopeOf 148 = .ok (.iconst 2, 1) := by decide +kernel
theorem dX8_slopeOf_149 : decode cX8_slopeOf 149 = .ok (.iadd, 1) := by decide +kernel
theorem dX8_slopeOf_150 : decode cX8_slopeOf 150 = .ok (.iload 4, 2) := by decide +kernel
theorem dX8_slopeOf_152 : decode cX8_slopeOf 152 = .ok (.iadd, 1) := by decide +kernel
theorem dX8_slopeOf_153 : decode cX8_slopeOf 153 = .ok (.iaload, 1) := by decide +kernel
theorem dX8_slopeOf_154 : decode cX8_slopeOf 154 = .ok (.isub, 1) := by decide +kernel
theorem dX8_slopeOf_155 : decode cX8_slopeOf 155 = .ok (.istore 12, 2) := by decide +kernel
theorem dX8_slopeOf_157 : decode cX8_slopeOf 157 = .ok (.iload 9, 2) := by decide +kernel
theorem dX8_slopeOf_159 : decode cX8_slopeOf 159 = .ok (.iload 8, 2) := by decide +kernel
theorem dX8_slopeOf_161 : decode cX8_slopeOf 161 = .ok (.isub, 1) := by decide +kernel
theorem dX8_slopeOf_162 : decode cX8_slopeOf 162 = .ok (.iconst 1, 1) := by decide +kernel
theorem dX8_slopeOf_163 : decode cX8_slopeOf 163 = .ok (.if_icmp .ne 8, 3) := by decide +kernel
theorem dX8_slopeOf_166 : decode cX8_slopeOf 166 = .ok (.iload 12, 2) := by decide +kernel
theorem dX8_slopeOf_168 : decode cX8_slopeOf 168 = .ok (.goto 9, 3) := by decide +kernel
theorem dX8_slopeOf_171 : decode cX8_slopeOf 171 = .ok (.iload 12, 2) := by decide +kernel
theorem dX8_slopeOf_173 : decode cX8_slopeOf 173 = .ok (.iconst 2, 1) := by decide +kernel
theorem dX8_slopeOf_174 : decode cX8_slopeOf 174 = .ok (.invokestatic 64, 3) := by decide +kernel
theorem dX8_slopeOf_177 : decode cX8_slopeOf 177 = .ok (.ireturn, 1) := by decide +kernel
set_option maxRecDepth 20000 in
theorem ggX8_slope_X8_isCorner : GoodIn wsX8_slope wsX8_isCorner := goodIn_r _ [5, 6, 7, 4, 8] (by decide +kernel) (by decide +kernel)
set_option maxRecDepth 20000 in
theorem gX8_slope_X8_isCorner : GoodIn wsX8_slope (va_wsS RX8 46 yX8_isCorner wsX8_isCorner) := goodIn_app (goodIn_of _ (by decide +kernel)) ggX8_slope_X8_isCorner
set_option maxRecDepth 20000 in
theorem ggX8_slope_X8_in : GoodIn wsX8_slope wsX8_in := goodIn_r _ [8] (by decide +kernel) (by decide +kernel)
set_option maxRecDepth 20000 in
theorem gX8_slope_X8_in : GoodIn wsX8_slope (va_wsS RX8 42 yX8_in wsX8_in) := goodIn_app (goodIn_of _ (by decide +kernel)) ggX8_slope_X8_in
set_option maxRecDepth 20000 in
theorem ggX8_slope_X8_changes : GoodIn wsX8_slope wsX8_changes := goodIn_r _ [12, 13, 14, 15, 1, 26, 27, 28, 29, 30, 31, 32, 33, 34, 35, 36, 37, 38, 39, 40, 41, 42, 43] (by decide +kernel) (by decide +kernel)
set_option maxRecDepth 20000 in
theorem gX8_slope_X8_changes : GoodIn wsX8_slope (wsV RX8 50 RX8 yX8_changes wsX8_changes) := goodIn_app (goodIn_of _ (by decide +kernel)) ggX8_slope_X8_changes
set_option maxRecDepth 20000 in
theorem ggX8_slope_X8_slopeOf : GoodIn wsX8_slope wsX8_slopeOf := goodIn_r _ [19, 1, 20, 21, 4, 22, 23, 24, 25, 26, 27, 28, 29, 30, 31, 32, 33, 34, 35, 36, 37, 38, 39, 40, 41, 42, 43] (by decide +kernel) (by decide +kernel)
set_option maxRecDepth 20000 in
theorem gX8_slope_X8_slopeOf : GoodIn wsX8_slope (wsV RX8 67 RX8 yX8_slopeOf wsX8_slopeOf) := goodIn_app (goodIn_of _ (by decide +kernel)) ggX8_slope_X8_slopeOf
set_option maxRecDepth 20000 in
theorem ggX8_slope_X8_at : GoodIn wsX8_slope wsX8_at := goodIn_r _ [22] (by decide +kernel) (by decide +kernel)
set_option maxRecDepth 20000 in
theorem gX8_slope_X8_at : GoodIn wsX8_slope (va_wsS RX8 53 yX8_at wsX8_at) := goodIn_app (goodIn_of _ (by decide +kernel)) ggX8_slope_X8_at
theorem dX8_slope_0 : decode cX8_slope 0 = .ok (.iload_n 1, 1) := by decide +kernel
theorem dX8_slope_1 : decode cX8_slope 1 = .ok (.iload_n 2, 1) := by decide +kernel
theorem dX8_slope_2 : decode cX8_slope 2 = .ok (.invokestatic 46, 3) := by decide +kernel
theorem dX8_slope_5 : decode cX8_slope 5 = .ok (.ifCond .eq 36, 3) := by decide +kernel
theorem dX8_slope_8 : decode cX8_slope 8 = .ok (.iload_n 3, 1) := by decide +kernel
theorem dX8_slope_9 : decode cX8_slope 9 = .ok (.iconst 0, 1) := by decide +kernel
theorem dX8_slope_10 : decode cX8_slope 10 = .ok (.iconst 1, 1) := by decide +kernel
theorem dX8_slope_11 : decode cX8_slope 11 = .ok (.invokestatic 42, 3) := by decide +kernel
theorem dX8_slope_14 : decode cX8_slope 14 = .ok (.ifCond .eq 27, 3) := by decide +kernel
theorem dX8_slope_17 : decode cX8_slope 17 = .ok (.iload 4, 2) := by decide +kernel
theorem dX8_slope_19 : decode cX8_slope 19 = .ok (.iconst 0, 1) := by decide +kernel
theorem dX8_slope_20 : decode cX8_slope 20 = .ok (.iconst 2, 1) := by decide +kernel
theorem dX8_slope_21 : decode cX8_slope 21 = .ok (.invokestatic 42, 3) := by decide +kernel
theorem dX8_slope_24 : decode cX8_slope 24 = .ok (.ifCond .eq 17, 3) := by decide +kernel
theorem dX8_slope_27 : decode cX8_slope 27 = .ok (.iload 5, 2) := by decide +kernel
theorem dX8_slope_29 : decode cX8_slope 29 = .ok (.sipush (-255), 3) := by decide +kernel
theorem dX8_slope_32 : decode cX8_slope 32 = .ok (.sipush 255, 3) := by decide +kernel
theorem dX8_slope_35 : decode cX8_slope 35 = .ok (.invokestatic 42, 3) := by decide +kernel
theorem dX8_slope_38 : decode cX8_slope 38 = .ok (.ifCond .ne 7, 3) := by decide +kernel
theorem dX8_slope_41 : decode cX8_slope 41 = .ok (.sipush (-1001), 3) := by decide +kernel
theorem dX8_slope_44 : decode cX8_slope 44 = .ok (.ireturn, 1) := by decide +kernel
theorem dX8_slope_45 : decode cX8_slope 45 = .ok (.aload_n 0, 1) := by decide +kernel
theorem dX8_slope_46 : decode cX8_slope 46 = .ok (.invokevirtual 50, 3) := by decide +kernel
theorem dX8_slope_49 : decode cX8_slope 49 = .ok (.aload_n 0, 1) := by decide +kernel
theorem dX8_slope_50 : decode cX8_slope 50 = .ok (.iload_n 1, 1) := by decide +kernel
theorem dX8_slope_51 : decode cX8_slope 51 = .ok (.iload_n 2, 1) := by decide +kernel
theorem dX8_slope_52 : decode cX8_slope 52 = .ok (.iload_n 3, 1) := by decide +kernel
theorem dX8_slope_53 : decode cX8_slope 53 = .ok (.iload 4, 2) := by decide +kernel
theorem dX8_slope_55 : decode cX8_slope 55 = .ok (.invokevirtual 67, 3) := by decide +kernel
theorem dX8_slope_58 : decode cX8_slope 58 = .ok (.istore 6, 2) := by decide +kernel
theorem dX8_slope_60 : decode cX8_slope 60 = .ok (.aload_n 0, 1) := by decide +kernel
theorem dX8_slope_61 : decode cX8_slope 61 = .ok (.getfield 7, 3) := by decide +kernel
theorem dX8_slope_64 : decode cX8_slope 64 = .ok (.iload_n 1, 1) := by decide +kernel
theorem dX8_slope_65 : decode cX8_slope 65 = .ok (.iload_n 2, 1) := by decide +kernel
theorem dX8_slope_66 : decode cX8_slope 66 = .ok (.invokestatic 53, 3) := by decide +kernel
theorem dX8_slope_69 : decode cX8_slope 69 = .ok (.bipush 6, 2) := by decide +kernel
theorem dX8_slope_71 : decode cX8_slope 71 = .ok (.iadd, 1) := by decide +kernel
theorem dX8_slope_72 : decode cX8_slope 72 = .ok (.iconst 3, 1) := by decide +kernel
theorem dX8_slope_73 : decode cX8_slope 73 = .ok (.iload_n 3, 1) := by decide +kernel
theorem dX8_slope_74 : decode cX8_slope 74 = .ok (.imul, 1) := by decide +kernel
theorem dX8_slope_75 : decode cX8_slope 75 = .ok (.iadd, 1) := by decide +kernel
theorem dX8_slope_76 : decode cX8_slope 76 = .ok (.iload 4, 2) := by decide +kernel
theorem dX8_slope_78 : decode cX8_slope 78 = .ok (.iadd, 1) := by decide +kernel
theorem dX8_slope_79 : decode cX8_slope 79 = .ok (.iload 5, 2) := by decide +kernel
theorem dX8_slope_81 : decode cX8_slope 81 = .ok (.iastore, 1) := by decide +kernel
theorem dX8_slope_82 : decode cX8_slope 82 = .ok (.iload 6, 2) := by decide +kernel
theorem dX8_slope_84 : decode cX8_slope 84 = .ok (.ireturn, 1) := by decide +kernel
set_option maxRecDepth 20000 in
theorem ggX8_told_X8_at : GoodIn wsX8_told wsX8_at := goodIn_r _ [5] (by decide +kernel) (by decide +kernel)
set_option maxRecDepth 20000 in
theorem gX8_told_X8_at : GoodIn wsX8_told (va_wsS RX8 53 yX8_at wsX8_at) := goodIn_app (goodIn_of _ (by decide +kernel)) ggX8_told_X8_at
theorem dX8_told_0 : decode cX8_told 0 = .ok (.iconst 0, 1) := by decide +kernel
theorem dX8_told_1 : decode cX8_told 1 = .ok (.istore_n 3, 1) := by decide +kernel
theorem dX8_told_2 : decode cX8_told 2 = .ok (.iconst 0, 1) := by decide +kernel
theorem dX8_told_3 : decode cX8_told 3 = .ok (.istore 4, 2) := by decide +kernel
theorem dX8_told_5 : decode cX8_told 5 = .ok (.iload 4, 2) := by decide +kernel
theorem dX8_told_7 : decode cX8_told 7 = .ok (.bipush 6, 2) := by decide +kernel
theorem dX8_told_9 : decode cX8_told 9 = .ok (.if_icmp .ge 39, 3) := by decide +kernel
theorem dX8_told_12 : decode cX8_told 12 = .ok (.iload_n 3, 1) := by decide +kernel
theorem dX8_told_13 : decode cX8_told 13 = .ok (.aload_n 0, 1) := by decide +kernel
theorem dX8_told_14 : decode cX8_told 14 = .ok (.getfield 7, 3) := by decide +kernel
theorem dX8_told_17 : decode cX8_told 17 = .ok (.iload_n 1, 1) := by decide +kernel
theorem dX8_told_18 : decode cX8_told 18 = .ok (.iload_n 2, 1) := by decide +kernel
theorem dX8_told_19 : decode cX8_told 19 = .ok (.invokestatic 53, 3) := by decide +kernel
theorem dX8_told_22 : decode cX8_told 22 = .ok (.bipush 6, 2) := by decide +kernel
theorem dX8_told_24 : decode cX8_told 24 = .ok (.iadd, 1) := by decide +kernel
theorem dX8_told_25 : decode cX8_told 25 = .ok (.iload 4, 2) := by decide +kernel
theorem dX8_told_27 : decode cX8_told 27 = .ok (.iadd, 1) := by decide +kernel
theorem dX8_told_28 : decode cX8_told 28 = .ok (.iaload, 1) := by decide +kernel
theorem dX8_told_29 : decode cX8_told 29 = .ok (.sipush 999, 3) := by decide +kernel
theorem dX8_told_32 : decode cX8_told 32 = .ok (.if_icmp .eq 7, 3) := by decide +kernel
theorem dX8_told_35 : decode cX8_told 35 = .ok (.iconst 1, 1) := by decide +kernel
theorem dX8_told_36 : decode cX8_told 36 = .ok (.goto 4, 3) := by decide +kernel
theorem dX8_told_39 : decode cX8_told 39 = .ok (.iconst 0, 1) := by decide +kernel
theorem dX8_told_40 : decode cX8_told 40 = .ok (.iadd, 1) := by decide +kernel
theorem dX8_told_41 : decode cX8_told 41 = .ok (.istore_n 3, 1) := by decide +kernel
theorem dX8_told_42 : decode cX8_told 42 = .ok (.iinc 4 1, 3) := by decide +kernel
theorem dX8_told_45 : decode cX8_told 45 = .ok (.goto (-40), 3) := by decide +kernel
theorem dX8_told_48 : decode cX8_told 48 = .ok (.iload_n 3, 1) := by decide +kernel
theorem dX8_told_49 : decode cX8_told 49 = .ok (.ireturn, 1) := by decide +kernel
set_option maxRecDepth 20000 in
theorem ggX8_loose_X8_isCorner : GoodIn wsX8_loose wsX8_isCorner := goodIn_r _ [5, 6, 7, 4, 8] (by decide +kernel) (by decide +kernel)
set_option maxRecDepth 20000 in
theorem gX8_loose_X8_isCorner : GoodIn wsX8_loose (va_wsS RX8 46 yX8_isCorner wsX8_isCorner) := goodIn_app (goodIn_of _ (by decide +kernel)) ggX8_loose_X8_isCorner
set_option maxRecDepth 20000 in
theorem ggX8_loose_X8_told : GoodIn wsX8_loose wsX8_told := goodIn_r _ [12, 1, 13, 14, 4, 15, 23, 24, 25, 26, 27, 28, 29, 30, 31, 32, 33, 34, 35, 36, 37, 38, 39, 40] (by decide +kernel) (by decide +kernel)
set_option maxRecDepth 20000 in
theorem gX8_loose_X8_told : GoodIn wsX8_loose (wsV RX8 71 RX8 yX8_told wsX8_told) := goodIn_app (goodIn_of _ (by decide +kernel)) ggX8_loose_X8_told
set_option maxRecDepth 20000 in
theorem ggX8_loose_X8_changes : GoodIn wsX8_loose wsX8_changes := goodIn_r _ [19, 20, 21, 22, 1, 23, 24, 25, 26, 27, 28, 29, 30, 31, 32, 33, 34, 35, 36, 37, 38, 39, 40] (by decide +kernel) (by decide +kernel)
set_option maxRecDepth 20000 in
theorem gX8_loose_X8_changes : GoodIn wsX8_loose (wsV RX8 50 RX8 yX8_changes wsX8_changes) := goodIn_app (goodIn_of _ (by decide +kernel)) ggX8_loose_X8_changes
set_option maxRecDepth 20000 in
theorem ggX8_loose_X8_at : GoodIn wsX8_loose wsX8_at := goodIn_r _ [15] (by decide +kernel) (by decide +kernel)
set_option maxRecDepth 20000 in
theorem gX8_loose_X8_at : GoodIn wsX8_loose (va_wsS RX8 53 yX8_at wsX8_at) := goodIn_app (goodIn_of _ (by decide +kernel)) ggX8_loose_X8_at
theorem dX8_loose_0 : decode cX8_loose 0 = .ok (.iload_n 1, 1) := by decide +kernel
theorem dX8_loose_1 : decode cX8_loose 1 = .ok (.iload_n 2, 1) := by decide +kernel
theorem dX8_loose_2 : decode cX8_loose 2 = .ok (.invokestatic 46, 3) := by decide +kernel
theorem dX8_loose_5 : decode cX8_loose 5 = .ok (.ifCond .ne 7, 3) := by decide +kernel
theorem dX8_loose_8 : decode cX8_loose 8 = .ok (.sipush (-1001), 3) := by decide +kernel
theorem dX8_loose_11 : decode cX8_loose 11 = .ok (.ireturn, 1) := by decide +kernel
theorem dX8_loose_12 : decode cX8_loose 12 = .ok (.aload_n 0, 1) := by decide +kernel
theorem dX8_loose_13 : decode cX8_loose 13 = .ok (.iload_n 1, 1) := by decide +kernel
theorem dX8_loose_14 : decode cX8_loose 14 = .ok (.iload_n 2, 1) := by decide +kernel
theorem dX8_loose_15 : decode cX8_loose 15 = .ok (.invokevirtual 71, 3) := by decide +kernel
theorem dX8_loose_18 : decode cX8_loose 18 = .ok (.istore_n 3, 1) := by decide +kernel
theorem dX8_loose_19 : decode cX8_loose 19 = .ok (.iload_n 3, 1) := by decide +kernel
theorem dX8_loose_20 : decode cX8_loose 20 = .ok (.ifCond .ne 7, 3) := by decide +kernel
theorem dX8_loose_23 : decode cX8_loose 23 = .ok (.sipush (-1002), 3) := by decide +kernel
theorem dX8_loose_26 : decode cX8_loose 26 = .ok (.ireturn, 1) := by decide +kernel
theorem dX8_loose_27 : decode cX8_loose 27 = .ok (.aload_n 0, 1) := by decide +kernel
theorem dX8_loose_28 : decode cX8_loose 28 = .ok (.invokevirtual 50, 3) := by decide +kernel
theorem dX8_loose_31 : decode cX8_loose 31 = .ok (.iconst 0, 1) := by decide +kernel
theorem dX8_loose_32 : decode cX8_loose 32 = .ok (.istore 4, 2) := by decide +kernel
theorem dX8_loose_34 : decode cX8_loose 34 = .ok (.iload 4, 2) := by decide +kernel
theorem dX8_loose_36 : decode cX8_loose 36 = .ok (.bipush 6, 2) := by decide +kernel
theorem dX8_loose_38 : decode cX8_loose 38 = .ok (.if_icmp .ge 28, 3) := by decide +kernel
theorem dX8_loose_41 : decode cX8_loose 41 = .ok (.aload_n 0, 1) := by decide +kernel
theorem dX8_loose_42 : decode cX8_loose 42 = .ok (.getfield 7, 3) := by decide +kernel
theorem dX8_loose_45 : decode cX8_loose 45 = .ok (.iload_n 1, 1) := by decide +kernel
theorem dX8_loose_46 : decode cX8_loose 46 = .ok (.iload_n 2, 1) := by decide +kernel
theorem dX8_loose_47 : decode cX8_loose 47 = .ok (.invokestatic 53, 3) := by decide +kernel
theorem dX8_loose_50 : decode cX8_loose 50 = .ok (.bipush 6, 2) := by decide +kernel
theorem dX8_loose_52 : decode cX8_loose 52 = .ok (.iadd, 1) := by decide +kernel
theorem dX8_loose_53 : decode cX8_loose 53 = .ok (.iload 4, 2) := by decide +kernel
theorem dX8_loose_55 : decode cX8_loose 55 = .ok (.iadd, 1) := by decide +kernel
theorem dX8_loose_56 : decode cX8_loose 56 = .ok (.sipush 999, 3) := by decide +kernel
theorem dX8_loose_59 : decode cX8_loose 59 = .ok (.iastore, 1) := by decide +kernel
theorem dX8_loose_60 : decode cX8_loose 60 = .ok (.iinc 4 1, 3) := by decide +kernel
theorem dX8_loose_63 : decode cX8_loose 63 = .ok (.goto (-29), 3) := by decide +kernel
theorem dX8_loose_66 : decode cX8_loose 66 = .ok (.iload_n 3, 1) := by decide +kernel
theorem dX8_loose_67 : decode cX8_loose 67 = .ok (.ireturn, 1) := by decide +kernel
set_option maxRecDepth 20000 in
theorem ggX8_beside_X8_isCorner : GoodIn wsX8_beside wsX8_isCorner := goodIn_r _ [5, 6, 7, 4, 8] (by decide +kernel) (by decide +kernel)
set_option maxRecDepth 20000 in
theorem gX8_beside_X8_isCorner : GoodIn wsX8_beside (va_wsS RX8 46 yX8_isCorner wsX8_isCorner) := goodIn_app (goodIn_of _ (by decide +kernel)) ggX8_beside_X8_isCorner
set_option maxRecDepth 20000 in
theorem ggX8_beside_X8_at : GoodIn wsX8_beside wsX8_at := goodIn_r _ [11] (by decide +kernel) (by decide +kernel)
set_option maxRecDepth 20000 in
theorem gX8_beside_X8_at : GoodIn wsX8_beside (va_wsS RX8 53 yX8_at wsX8_at) := goodIn_app (goodIn_of _ (by decide +kernel)) ggX8_beside_X8_at
theorem dX8_beside_0 : decode cX8_beside 0 = .ok (.iload_n 1, 1) := by decide +kernel
theorem dX8_beside_1 : decode cX8_beside 1 = .ok (.iload_n 2, 1) := by decide +kernel
theorem dX8_beside_2 : decode cX8_beside 2 = .ok (.invokestatic 46, 3) := by decide +kernel
theorem dX8_beside_5 : decode cX8_beside 5 = .ok (.ifCond .eq 20, 3) := by decide +kernel
theorem dX8_beside_8 : decode cX8_beside 8 = .ok (.aload_n 0, 1) := by decide +kernel
theorem dX8_beside_9 : decode cX8_beside 9 = .ok (.getfield 7, 3) := by decide +kernel
theorem dX8_beside_12 : decode cX8_beside 12 = .ok (.iload_n 1, 1) := by decide +kernel
theorem dX8_beside_13 : decode cX8_beside 13 = .ok (.iload_n 2, 1) := by decide +kernel
theorem dX8_beside_14 : decode cX8_beside 14 = .ok (.invokestatic 53, 3) := by decide +kernel
theorem dX8_beside_17 : decode cX8_beside 17 = .ok (.iconst 2, 1) := by decide +kernel
theorem dX8_beside_18 : decode cX8_beside 18 = .ok (.iadd, 1) := by decide +kernel
theorem dX8_beside_19 : decode cX8_beside 19 = .ok (.iload_n 3, 1) := by decide +kernel
theorem dX8_beside_20 : decode cX8_beside 20 = .ok (.iadd, 1) := by decide +kernel
theorem dX8_beside_21 : decode cX8_beside 21 = .ok (.iaload, 1) := by decide +kernel
theorem dX8_beside_22 : decode cX8_beside 22 = .ok (.goto 4, 3) := by decide +kernel
theorem dX8_beside_25 : decode cX8_beside 25 = .ok (.iconst 0, 1) := by decide +kernel
theorem dX8_beside_26 : decode cX8_beside 26 = .ok (.ireturn, 1) := by decide +kernel
theorem dX8_many_0 : decode cX8_many 0 = .ok (.iload_n 0, 1) := by decide +kernel
theorem dX8_many_1 : decode cX8_many 1 = .ok (.ifCond .le 7, 3) := by decide +kernel
theorem dX8_many_4 : decode cX8_many 4 = .ok (.iconst 1, 1) := by decide +kernel
theorem dX8_many_5 : decode cX8_many 5 = .ok (.goto 4, 3) := by decide +kernel
theorem dX8_many_8 : decode cX8_many 8 = .ok (.iconst 0, 1) := by decide +kernel
theorem dX8_many_9 : decode cX8_many 9 = .ok (.iload_n 0, 1) := by decide +kernel
theorem dX8_many_10 : decode cX8_many 10 = .ok (.iconst 4, 1) := by decide +kernel
theorem dX8_many_11 : decode cX8_many 11 = .ok (.if_icmp .ge 7, 3) := by decide +kernel
theorem dX8_many_14 : decode cX8_many 14 = .ok (.iconst 1, 1) := by decide +kernel
theorem dX8_many_15 : decode cX8_many 15 = .ok (.goto 4, 3) := by decide +kernel
theorem dX8_many_18 : decode cX8_many 18 = .ok (.iconst 0, 1) := by decide +kernel
theorem dX8_many_19 : decode cX8_many 19 = .ok (.iadd, 1) := by decide +kernel
theorem dX8_many_20 : decode cX8_many 20 = .ok (.iload_n 1, 1) := by decide +kernel
theorem dX8_many_21 : decode cX8_many 21 = .ok (.ifCond .le 7, 3) := by decide +kernel
theorem dX8_many_24 : decode cX8_many 24 = .ok (.iconst 1, 1) := by decide +kernel
theorem dX8_many_25 : decode cX8_many 25 = .ok (.goto 4, 3) := by decide +kernel
theorem dX8_many_28 : decode cX8_many 28 = .ok (.iconst 0, 1) := by decide +kernel
theorem dX8_many_29 : decode cX8_many 29 = .ok (.iadd, 1) := by decide +kernel
theorem dX8_many_30 : decode cX8_many 30 = .ok (.iload_n 1, 1) := by decide +kernel
theorem dX8_many_31 : decode cX8_many 31 = .ok (.iconst 3, 1) := by decide +kernel
theorem dX8_many_32 : decode cX8_many 32 = .ok (.if_icmp .ge 7, 3) := by decide +kernel
theorem dX8_many_35 : decode cX8_many 35 = .ok (.iconst 1, 1) := by decide +kernel
theorem dX8_many_36 : decode cX8_many 36 = .ok (.goto 4, 3) := by decide +kernel
theorem dX8_many_39 : decode cX8_many 39 = .ok (.iconst 0, 1) := by decide +kernel
theorem dX8_many_40 : decode cX8_many 40 = .ok (.iadd, 1) := by decide +kernel
theorem dX8_many_41 : decode cX8_many 41 = .ok (.ireturn, 1) := by decide +kernel
set_option maxRecDepth 20000 in
theorem ggX8_round_X8_beside : GoodIn wsX8_round wsX8_beside := goodIn_r _ [7, 2, 8, 9, 6, 10, 11, 12, 13, 14, 15, 16, 20, 21, 22, 23, 24, 25, 26, 27, 28, 29, 30, 31, 32, 33, 34, 35, 36, 37] (by decide +kernel) (by decide +kernel)
set_option maxRecDepth 20000 in
theorem gX8_round_X8_beside : GoodIn wsX8_round (wsV RX8 74 RX8 yX8_beside wsX8_beside) := goodIn_app (goodIn_of _ (by decide +kernel)) ggX8_round_X8_beside
set_option maxRecDepth 20000 in
theorem ggX8_round_X8_many : GoodIn wsX8_round wsX8_many := goodIn_r _ [19] (by decide +kernel) (by decide +kernel)
set_option maxRecDepth 20000 in
theorem gX8_round_X8_many : GoodIn wsX8_round (va_wsS RX8 78 yX8_many wsX8_many) := goodIn_app (goodIn_of _ (by decide +kernel)) ggX8_round_X8_many
theorem dX8_round_0 : decode cX8_round 0 = .ok (.iconst 0, 1) := by decide +kernel
theorem dX8_round_1 : decode cX8_round 1 = .ok (.istore_n 1, 1) := by decide +kernel
theorem dX8_round_2 : decode cX8_round 2 = .ok (.iload_n 1, 1) := by decide +kernel
theorem dX8_round_3 : decode cX8_round 3 = .ok (.bipush 60, 2) := by decide +kernel
theorem dX8_round_5 : decode cX8_round 5 = .ok (.if_icmp .ge 121, 3) := by decide +kernel
theorem dX8_round_8 : decode cX8_round 8 = .ok (.iload_n 1, 1) := by decide +kernel
theorem dX8_round_9 : decode cX8_round 9 = .ok (.iconst 3, 1) := by decide +kernel
theorem dX8_round_10 : decode cX8_round 10 = .ok (.idiv, 1) := by decide +kernel
theorem dX8_round_11 : decode cX8_round 11 = .ok (.iconst 5, 1) := by decide +kernel
theorem dX8_round_12 : decode cX8_round 12 = .ok (.irem, 1) := by decide +kernel
theorem dX8_round_13 : decode cX8_round 13 = .ok (.istore_n 2, 1) := by decide +kernel
theorem dX8_round_14 : decode cX8_round 14 = .ok (.iload_n 1, 1) := by decide +kernel
theorem dX8_round_15 : decode cX8_round 15 = .ok (.iconst 3, 1) := by decide +kernel
theorem dX8_round_16 : decode cX8_round 16 = .ok (.idiv, 1) := by decide +kernel
theorem dX8_round_17 : decode cX8_round 17 = .ok (.iconst 5, 1) := by decide +kernel
theorem dX8_round_18 : decode cX8_round 18 = .ok (.idiv, 1) := by decide +kernel
theorem dX8_round_19 : decode cX8_round 19 = .ok (.istore_n 3, 1) := by decide +kernel
theorem dX8_round_20 : decode cX8_round 20 = .ok (.iload_n 1, 1) := by decide +kernel
theorem dX8_round_21 : decode cX8_round 21 = .ok (.iconst 3, 1) := by decide +kernel
theorem dX8_round_22 : decode cX8_round 22 = .ok (.irem, 1) := by decide +kernel
theorem dX8_round_23 : decode cX8_round 23 = .ok (.istore 4, 2) := by decide +kernel
theorem dX8_round_25 : decode cX8_round 25 = .ok (.aload_n 0, 1) := by decide +kernel
theorem dX8_round_26 : decode cX8_round 26 = .ok (.iload_n 2, 1) := by decide +kernel
theorem dX8_round_27 : decode cX8_round 27 = .ok (.iconst 1, 1) := by decide +kernel
theorem dX8_round_28 : decode cX8_round 28 = .ok (.isub, 1) := by decide +kernel
theorem dX8_round_29 : decode cX8_round 29 = .ok (.iload_n 3, 1) := by decide +kernel
theorem dX8_round_30 : decode cX8_round 30 = .ok (.iload 4, 2) := by decide +kernel
theorem dX8_round_32 : decode cX8_round 32 = .ok (.invokevirtual 74, 3) := by decide +kernel
theorem dX8_round_35 : decode cX8_round 35 = .ok (.aload_n 0, 1) := by decide +kernel
theorem dX8_round_36 : decode cX8_round 36 = .ok (.iload_n 2, 1) := by decide +kernel
theorem dX8_round_37 : decode cX8_round 37 = .ok (.iconst 1, 1) := by decide +kernel
theorem dX8_round_38 : decode cX8_round 38 = .ok (.iadd, 1) := by decide +kernel
theorem dX8_round_39 : decode cX8_round 39 = .ok (.iload_n 3, 1) := by decide +kernel
theorem dX8_round_40 : decode cX8_round 40 = .ok (.iload 4, 2) := by decide +kernel
theorem dX8_round_42 : decode cX8_round 42 = .ok (.invokevirtual 74, 3) := by decide +kernel
theorem dX8_round_45 : decode cX8_round 45 = .ok (.iadd, 1) := by decide +kernel
theorem dX8_round_46 : decode cX8_round 46 = .ok (.aload_n 0, 1) := by decide +kernel
theorem dX8_round_47 : decode cX8_round 47 = .ok (.iload_n 2, 1) := by decide +kernel
theorem dX8_round_48 : decode cX8_round 48 = .ok (.iload_n 3, 1) := by decide +kernel
theorem dX8_round_49 : decode cX8_round 49 = .ok (.iconst 1, 1) := by decide +kernel
theorem dX8_round_50 : decode cX8_round 50 = .ok (.isub, 1) := by decide +kernel
theorem dX8_round_51 : decode cX8_round 51 = .ok (.iload 4, 2) := by decide +kernel
theorem dX8_round_53 : decode cX8_round 53 = .ok (.invokevirtual 74, 3) := by decide +kernel
theorem dX8_round_56 : decode cX8_round 56 = .ok (.iadd, 1) := by decide +kernel
theorem dX8_round_57 : decode cX8_round 57 = .ok (.aload_n 0, 1) := by decide +kernel
theorem dX8_round_58 : decode cX8_round 58 = .ok (.iload_n 2, 1) := by decide +kernel
theorem dX8_round_59 : decode cX8_round 59 = .ok (.iload_n 3, 1) := by decide +kernel
theorem dX8_round_60 : decode cX8_round 60 = .ok (.iconst 1, 1) := by decide +kernel
theorem dX8_round_61 : decode cX8_round 61 = .ok (.iadd, 1) := by decide +kernel
theorem dX8_round_62 : decode cX8_round 62 = .ok (.iload 4, 2) := by decide +kernel
theorem dX8_round_64 : decode cX8_round 64 = .ok (.invokevirtual 74, 3) := by decide +kernel
theorem dX8_round_67 : decode cX8_round 67 = .ok (.iadd, 1) := by decide +kernel
theorem dX8_round_68 : decode cX8_round 68 = .ok (.istore 5, 2) := by decide +kernel
theorem dX8_round_70 : decode cX8_round 70 = .ok (.aload_n 0, 1) := by decide +kernel
theorem dX8_round_71 : decode cX8_round 71 = .ok (.getfield 25, 3) := by decide +kernel
theorem dX8_round_74 : decode cX8_round 74 = .ok (.iload_n 1, 1) := by decide +kernel
theorem dX8_round_75 : decode cX8_round 75 = .ok (.aload_n 0, 1) := by decide +kernel
theorem dX8_round_76 : decode cX8_round 76 = .ok (.getfield 7, 3) := by decide +kernel
theorem dX8_round_79 : decode cX8_round 79 = .ok (.iconst 4, 1) := by decide +kernel
theorem dX8_round_80 : decode cX8_round 80 = .ok (.iload_n 1, 1) := by decide +kernel
theorem dX8_round_81 : decode cX8_round 81 = .ok (.iload 4, 2) := by decide +kernel
theorem dX8_round_83 : decode cX8_round 83 = .ok (.isub, 1) := by decide +kernel
theorem dX8_round_84 : decode cX8_round 84 = .ok (.imul, 1) := by decide +kernel
theorem dX8_round_85 : decode cX8_round 85 = .ok (.iconst 5, 1) := by decide +kernel
theorem dX8_round_86 : decode cX8_round 86 = .ok (.iadd, 1) := by decide +kernel
theorem dX8_round_87 : decode cX8_round 87 = .ok (.iaload, 1) := by decide +kernel
theorem dX8_round_88 : decode cX8_round 88 = .ok (.iconst 1, 1) := by decide +kernel
theorem dX8_round_89 : decode cX8_round 89 = .ok (.if_icmp .ne 22, 3) := by decide +kernel
theorem dX8_round_92 : decode cX8_round 92 = .ok (.aload_n 0, 1) := by decide +kernel
theorem dX8_round_93 : decode cX8_round 93 = .ok (.getfield 7, 3) := by decide +kernel
theorem dX8_round_96 : decode cX8_round 96 = .ok (.iconst 4, 1) := by decide +kernel
theorem dX8_round_97 : decode cX8_round 97 = .ok (.iload_n 1, 1) := by decide +kernel
theorem dX8_round_98 : decode cX8_round 98 = .ok (.iload 4, 2) := by decide +kernel
theorem dX8_round_100 : decode cX8_round 100 = .ok (.isub, 1) := by decide +kernel
theorem dX8_round_101 : decode cX8_round 101 = .ok (.imul, 1) := by decide +kernel
theorem dX8_round_102 : decode cX8_round 102 = .ok (.iconst 2, 1) := by decide +kernel
theorem dX8_round_103 : decode cX8_round 103 = .ok (.iadd, 1) := by decide +kernel
theorem dX8_round_104 : decode cX8_round 104 = .ok (.iload 4, 2) := by decide +kernel
theorem dX8_round_106 : decode cX8_round 106 = .ok (.iadd, 1) := by decide +kernel
theorem dX8_round_107 : decode cX8_round 107 = .ok (.iaload, 1) := by decide +kernel
theorem dX8_round_108 : decode cX8_round 108 = .ok (.goto 11, 3) := by decide +kernel
theorem dX8_round_111 : decode cX8_round 111 = .ok (.iload 5, 2) := by decide +kernel
theorem dX8_round_113 : decode cX8_round 113 = .ok (.iload_n 2, 1) := by decide +kernel
theorem dX8_round_114 : decode cX8_round 114 = .ok (.iload_n 3, 1) := by decide +kernel
theorem dX8_round_115 : decode cX8_round 115 = .ok (.invokestatic 78, 3) := by decide +kernel
theorem dX8_round_118 : decode cX8_round 118 = .ok (.idiv, 1) := by decide +kernel
theorem dX8_round_119 : decode cX8_round 119 = .ok (.iastore, 1) := by decide +kernel
theorem dX8_round_120 : decode cX8_round 120 = .ok (.iinc 1 1, 3) := by decide +kernel
theorem dX8_round_123 : decode cX8_round 123 = .ok (.goto (-121), 3) := by decide +kernel
theorem dX8_round_126 : decode cX8_round 126 = .ok (.iconst 0, 1) := by decide +kernel
theorem dX8_round_127 : decode cX8_round 127 = .ok (.istore_n 1, 1) := by decide +kernel
theorem dX8_round_128 : decode cX8_round 128 = .ok (.iconst 0, 1) := by decide +kernel
theorem dX8_round_129 : decode cX8_round 129 = .ok (.istore_n 2, 1) := by decide +kernel
theorem dX8_round_130 : decode cX8_round 130 = .ok (.iload_n 2, 1) := by decide +kernel
theorem dX8_round_131 : decode cX8_round 131 = .ok (.bipush 20, 2) := by decide +kernel
theorem dX8_round_133 : decode cX8_round 133 = .ok (.if_icmp .ge 101, 3) := by decide +kernel
theorem dX8_round_136 : decode cX8_round 136 = .ok (.iconst 0, 1) := by decide +kernel
theorem dX8_round_137 : decode cX8_round 137 = .ok (.istore_n 3, 1) := by decide +kernel
theorem dX8_round_138 : decode cX8_round 138 = .ok (.iconst 0, 1) := by decide +kernel
theorem dX8_round_139 : decode cX8_round 139 = .ok (.istore 4, 2) := by decide +kernel
theorem dX8_round_141 : decode cX8_round 141 = .ok (.iload 4, 2) := by decide +kernel
theorem dX8_round_143 : decode cX8_round 143 = .ok (.iconst 3, 1) := by decide +kernel
theorem dX8_round_144 : decode cX8_round 144 = .ok (.if_icmp .ge 72, 3) := by decide +kernel
theorem dX8_round_147 : decode cX8_round 147 = .ok (.iload_n 3, 1) := by decide +kernel
theorem dX8_round_148 : decode cX8_round 148 = .ok (.ifCond .ne 31, 3) := by decide +kernel
theorem dX8_round_151 : decode cX8_round 151 = .ok (.aload_n 0, 1) := by decide +kernel
theorem dX8_round_152 : decode cX8_round 152 = .ok (.getfield 7, 3) := by decide +kernel
theorem dX8_round_155 : decode cX8_round 155 = .ok (.bipush 12, 2) := by decide +kernel
theorem dX8_round_157 : decode cX8_round 157 = .ok (.iload_n 2, 1) := by decide +kernel
theorem dX8_round_158 : decode cX8_round 158 = .ok (.imul, 1) := by decide +kernel
theorem dX8_round_159 : decode cX8_round 159 = .ok (.iconst 2, 1) := by decide +kernel
theorem dX8_round_160 : decode cX8_round 160 = .ok (.iadd, 1) := by decide +kernel
theorem dX8_round_161 : decode cX8_round 161 = .ok (.iload 4, 2) := by decide +kernel
theorem dX8_round_163 : decode cX8_round 163 = .ok (.iadd, 1) := by decide +kernel
theorem dX8_round_164 : decode cX8_round 164 = .ok (.iaload, 1) := by decide +kernel
theorem dX8_round_165 : decode cX8_round 165 = .ok (.aload_n 0, 1) := by decide +kernel
theorem dX8_round_166 : decode cX8_round 166 = .ok (.getfield 25, 3) := by decide +kernel
theorem dX8_round_169 : decode cX8_round 169 = .ok (.iconst 3, 1) := by decide +kernel
theorem dX8_round_170 : decode cX8_round 170 = .ok (.iload_n 2, 1) := by decide +kernel
theorem dX8_round_171 : decode cX8_round 171 = .ok (.imul, 1) := by decide +kernel
theorem dX8_round_172 : decode cX8_round 172 = .ok (.iload 4, 2) := by decide +kernel
theorem dX8_round_174 : decode cX8_round 174 = .ok (.iadd, 1) := by decide +kernel
theorem dX8_round_175 : decode cX8_round 175 = .ok (.iaload, 1) := by decide +kernel
theorem dX8_round_176 : decode cX8_round 176 = .ok (.if_icmp .eq 7, 3) := by decide +kernel
theorem dX8_round_179 : decode cX8_round 179 = .ok (.iconst 1, 1) := by decide +kernel
theorem dX8_round_180 : decode cX8_round 180 = .ok (.goto 4, 3) := by decide +kernel
theorem dX8_round_183 : decode cX8_round 183 = .ok (.iconst 0, 1) := by decide +kernel
theorem dX8_round_184 : decode cX8_round 184 = .ok (.istore_n 3, 1) := by decide +kernel
theorem dX8_round_185 : decode cX8_round 185 = .ok (.aload_n 0, 1) := by decide +kernel
theorem dX8_round_186 : decode cX8_round 186 = .ok (.getfield 7, 3) := by decide +kernel
theorem dX8_round_189 : decode cX8_round 189 = .ok (.bipush 12, 2) := by decide +kernel
theorem dX8_round_191 : decode cX8_round 191 = .ok (.iload_n 2, 1) := by decide +kernel
theorem dX8_round_192 : decode cX8_round 192 = .ok (.imul, 1) := by decide +kernel
theorem dX8_round_193 : decode cX8_round 193 = .ok (.iconst 2, 1) := by decide +kernel
theorem dX8_round_194 : decode cX8_round 194 = .ok (.iadd, 1) := by decide +kernel
theorem dX8_round_195 : decode cX8_round 195 = .ok (.iload 4, 2) := by decide +kernel
theorem dX8_round_197 : decode cX8_round 197 = .ok (.iadd, 1) := by decide +kernel
theorem dX8_round_198 : decode cX8_round 198 = .ok (.aload_n 0, 1) := by decide +kernel
theorem dX8_round_199 : decode cX8_round 199 = .ok (.getfield 25, 3) := by decide +kernel
theorem dX8_round_202 : decode cX8_round 202 = .ok (.iconst 3, 1) := by decide +kernel
theorem dX8_round_203 : decode cX8_round 203 = .ok (.iload_n 2, 1) := by decide +kernel
theorem dX8_round_204 : decode cX8_round 204 = .ok (.imul, 1) := by decide +kernel
theorem dX8_round_205 : decode cX8_round 205 = .ok (.iload 4, 2) := by decide +kernel
theorem dX8_round_207 : decode cX8_round 207 = .ok (.iadd, 1) := by decide +kernel
theorem dX8_round_208 : decode cX8_round 208 = .ok (.iaload, 1) := by decide +kernel
theorem dX8_round_209 : decode cX8_round 209 = .ok (.iastore, 1) := by decide +kernel
theorem dX8_round_210 : decode cX8_round 210 = .ok (.iinc 4 1, 3) := by decide +kernel
theorem dX8_round_213 : decode cX8_round 213 = .ok (.goto (-72), 3) := by decide +kernel
theorem dX8_round_216 : decode cX8_round 216 = .ok (.iload_n 1, 1) := by decide +kernel
theorem dX8_round_217 : decode cX8_round 217 = .ok (.iload_n 3, 1) := by decide +kernel
theorem dX8_round_218 : decode cX8_round 218 = .ok (.ifCond .eq 7, 3) := by decide +kernel
theorem dX8_round_221 : decode cX8_round 221 = .ok (.iconst 1, 1) := by decide +kernel
theorem dX8_round_222 : decode cX8_round 222 = .ok (.goto 4, 3) := by decide +kernel
theorem dX8_round_225 : decode cX8_round 225 = .ok (.iconst 0, 1) := by decide +kernel
theorem dX8_round_226 : decode cX8_round 226 = .ok (.iadd, 1) := by decide +kernel
theorem dX8_round_227 : decode cX8_round 227 = .ok (.istore_n 1, 1) := by decide +kernel
theorem dX8_round_228 : decode cX8_round 228 = .ok (.iinc 2 1, 3) := by decide +kernel
theorem dX8_round_231 : decode cX8_round 231 = .ok (.goto (-101), 3) := by decide +kernel
theorem dX8_round_234 : decode cX8_round 234 = .ok (.iload_n 1, 1) := by decide +kernel
theorem dX8_round_235 : decode cX8_round 235 = .ok (.ireturn, 1) := by decide +kernel
set_option maxRecDepth 20000 in
theorem ggX8_spread_X8_in : GoodIn wsX8_spread wsX8_in := goodIn_r _ [4] (by decide +kernel) (by decide +kernel)
set_option maxRecDepth 20000 in
theorem gX8_spread_X8_in : GoodIn wsX8_spread (va_wsS RX8 42 yX8_in wsX8_in) := goodIn_app (goodIn_of _ (by decide +kernel)) ggX8_spread_X8_in
set_option maxRecDepth 20000 in
theorem ggX8_spread_X8_changes : GoodIn wsX8_spread wsX8_changes := goodIn_r _ [8, 9, 10, 11, 12, 31, 32, 33, 34, 35, 36, 37, 38, 39, 40, 41, 42, 43, 44, 45, 46, 47, 48] (by decide +kernel) (by decide +kernel)
set_option maxRecDepth 20000 in
theorem gX8_spread_X8_changes : GoodIn wsX8_spread (wsV RX8 50 RX8 yX8_changes wsX8_changes) := goodIn_app (goodIn_of _ (by decide +kernel)) ggX8_spread_X8_changes
set_option maxRecDepth 20000 in
theorem ggX8_spread_X8_round : GoodIn wsX8_spread wsX8_round := goodIn_r _ [16, 17, 12, 18, 19, 20, 3, 21, 22, 23, 24, 1, 2, 4, 25, 26, 27, 28, 29, 30, 31, 32, 33, 34, 35, 36, 37, 38, 39, 40, 41, 42, 43, 44, 45, 46, 47, 48] (by decide +kernel) (by decide +kernel)
set_option maxRecDepth 20000 in
theorem gX8_spread_X8_round : GoodIn wsX8_spread (wsV RX8 81 RX8 yX8_round wsX8_round) := goodIn_app (goodIn_of _ (by decide +kernel)) ggX8_spread_X8_round
theorem dX8_spread_0 : decode cX8_spread 0 = .ok (.iload_n 1, 1) := by decide +kernel
theorem dX8_spread_1 : decode cX8_spread 1 = .ok (.iconst 1, 1) := by decide +kernel
theorem dX8_spread_2 : decode cX8_spread 2 = .ok (.bipush 20, 2) := by decide +kernel
theorem dX8_spread_4 : decode cX8_spread 4 = .ok (.invokestatic 42, 3) := by decide +kernel
theorem dX8_spread_7 : decode cX8_spread 7 = .ok (.ifCond .ne 7, 3) := by decide +kernel
theorem dX8_spread_10 : decode cX8_spread 10 = .ok (.sipush (-1001), 3) := by decide +kernel
theorem dX8_spread_13 : decode cX8_spread 13 = .ok (.ireturn, 1) := by decide +kernel
theorem dX8_spread_14 : decode cX8_spread 14 = .ok (.aload_n 0, 1) := by decide +kernel
theorem dX8_spread_15 : decode cX8_spread 15 = .ok (.invokevirtual 50, 3) := by decide +kernel
theorem dX8_spread_18 : decode cX8_spread 18 = .ok (.iconst 0, 1) := by decide +kernel
theorem dX8_spread_19 : decode cX8_spread 19 = .ok (.istore_n 2, 1) := by decide +kernel
theorem dX8_spread_20 : decode cX8_spread 20 = .ok (.iconst 0, 1) := by decide +kernel
theorem dX8_spread_21 : decode cX8_spread 21 = .ok (.istore_n 3, 1) := by decide +kernel
theorem dX8_spread_22 : decode cX8_spread 22 = .ok (.iload_n 3, 1) := by decide +kernel
theorem dX8_spread_23 : decode cX8_spread 23 = .ok (.iload_n 1, 1) := by decide +kernel
theorem dX8_spread_24 : decode cX8_spread 24 = .ok (.if_icmp .ge 14, 3) := by decide +kernel
theorem dX8_spread_27 : decode cX8_spread 27 = .ok (.aload_n 0, 1) := by decide +kernel
theorem dX8_spread_28 : decode cX8_spread 28 = .ok (.invokevirtual 81, 3) := by decide +kernel
theorem dX8_spread_31 : decode cX8_spread 31 = .ok (.istore_n 2, 1) := by decide +kernel
theorem dX8_spread_32 : decode cX8_spread 32 = .ok (.iinc 3 1, 3) := by decide +kernel
theorem dX8_spread_35 : decode cX8_spread 35 = .ok (.goto (-13), 3) := by decide +kernel
theorem dX8_spread_38 : decode cX8_spread 38 = .ok (.iload_n 2, 1) := by decide +kernel
theorem dX8_spread_39 : decode cX8_spread 39 = .ok (.ireturn, 1) := by decide +kernel
set_option maxRecDepth 20000 in
theorem ggX8_cornerOf_X8_isCorner : GoodIn wsX8_cornerOf wsX8_isCorner := goodIn_r _ [5, 6, 7, 4, 8] (by decide +kernel) (by decide +kernel)
set_option maxRecDepth 20000 in
theorem gX8_cornerOf_X8_isCorner : GoodIn wsX8_cornerOf (va_wsS RX8 46 yX8_isCorner wsX8_isCorner) := goodIn_app (goodIn_of _ (by decide +kernel)) ggX8_cornerOf_X8_isCorner
set_option maxRecDepth 20000 in
theorem ggX8_cornerOf_X8_in : GoodIn wsX8_cornerOf wsX8_in := goodIn_r _ [8] (by decide +kernel) (by decide +kernel)
set_option maxRecDepth 20000 in
theorem gX8_cornerOf_X8_in : GoodIn wsX8_cornerOf (va_wsS RX8 42 yX8_in wsX8_in) := goodIn_app (goodIn_of _ (by decide +kernel)) ggX8_cornerOf_X8_in
set_option maxRecDepth 20000 in
theorem ggX8_cornerOf_X8_at : GoodIn wsX8_cornerOf wsX8_at := goodIn_r _ [11] (by decide +kernel) (by decide +kernel)
set_option maxRecDepth 20000 in
theorem gX8_cornerOf_X8_at : GoodIn wsX8_cornerOf (va_wsS RX8 53 yX8_at wsX8_at) := goodIn_app (goodIn_of _ (by decide +kernel)) ggX8_cornerOf_X8_at
set_option maxRecDepth 20000 in
theorem ggX8_cornerOf_X8_told : GoodIn wsX8_cornerOf wsX8_told := goodIn_r _ [15, 1, 9, 10, 4, 11, 23, 24, 25, 26, 27, 28, 29, 30, 31, 32, 33, 34, 35, 36, 37, 38, 39, 40] (by decide +kernel) (by decide +kernel)
set_option maxRecDepth 20000 in
theorem gX8_cornerOf_X8_told : GoodIn wsX8_cornerOf (wsV RX8 71 RX8 yX8_told wsX8_told) := goodIn_app (goodIn_of _ (by decide +kernel)) ggX8_cornerOf_X8_told
set_option maxRecDepth 20000 in
theorem ggX8_cornerOf_X8_slopeOf : GoodIn wsX8_cornerOf wsX8_slopeOf := goodIn_r _ [19, 1, 9, 10, 4, 11, 20, 21, 22, 23, 24, 25, 26, 27, 28, 29, 30, 31, 32, 33, 34, 35, 36, 37, 38, 39, 40] (by decide +kernel) (by decide +kernel)
set_option maxRecDepth 20000 in
theorem gX8_cornerOf_X8_slopeOf : GoodIn wsX8_cornerOf (wsV RX8 67 RX8 yX8_slopeOf wsX8_slopeOf) := goodIn_app (goodIn_of _ (by decide +kernel)) ggX8_cornerOf_X8_slopeOf
theorem dX8_cornerOf_0 : decode cX8_cornerOf 0 = .ok (.iload_n 1, 1) := by decide +kernel
theorem dX8_cornerOf_1 : decode cX8_cornerOf 1 = .ok (.iload_n 2, 1) := by decide +kernel
theorem dX8_cornerOf_2 : decode cX8_cornerOf 2 = .ok (.invokestatic 46, 3) := by decide +kernel
theorem dX8_cornerOf_5 : decode cX8_cornerOf 5 = .ok (.ifCond .eq 13, 3) := by decide +kernel
theorem dX8_cornerOf_8 : decode cX8_cornerOf 8 = .ok (.iload_n 3, 1) := by decide +kernel
theorem dX8_cornerOf_9 : decode cX8_cornerOf 9 = .ok (.iconst 0, 1) := by decide +kernel
theorem dX8_cornerOf_10 : decode cX8_cornerOf 10 = .ok (.bipush 12, 2) := by decide +kernel
theorem dX8_cornerOf_12 : decode cX8_cornerOf 12 = .ok (.invokestatic 42, 3) := by decide +kernel
theorem dX8_cornerOf_15 : decode cX8_cornerOf 15 = .ok (.ifCond .ne 7, 3) := by decide +kernel
theorem dX8_cornerOf_18 : decode cX8_cornerOf 18 = .ok (.sipush (-1001), 3) := by decide +kernel
theorem dX8_cornerOf_21 : decode cX8_cornerOf 21 = .ok (.ireturn, 1) := by decide +kernel
theorem dX8_cornerOf_22 : decode cX8_cornerOf 22 = .ok (.iload_n 3, 1) := by decide +kernel
theorem dX8_cornerOf_23 : decode cX8_cornerOf 23 = .ok (.bipush 6, 2) := by decide +kernel
theorem dX8_cornerOf_25 : decode cX8_cornerOf 25 = .ok (.if_icmp .ge 18, 3) := by decide +kernel
theorem dX8_cornerOf_28 : decode cX8_cornerOf 28 = .ok (.aload_n 0, 1) := by decide +kernel
theorem dX8_cornerOf_29 : decode cX8_cornerOf 29 = .ok (.getfield 7, 3) := by decide +kernel
theorem dX8_cornerOf_32 : decode cX8_cornerOf 32 = .ok (.iload_n 1, 1) := by decide +kernel
theorem dX8_cornerOf_33 : decode cX8_cornerOf 33 = .ok (.iload_n 2, 1) := by decide +kernel
theorem dX8_cornerOf_34 : decode cX8_cornerOf 34 = .ok (.invokestatic 53, 3) := by decide +kernel
theorem dX8_cornerOf_37 : decode cX8_cornerOf 37 = .ok (.iload_n 3, 1) := by decide +kernel
theorem dX8_cornerOf_38 : decode cX8_cornerOf 38 = .ok (.iadd, 1) := by decide +kernel
theorem dX8_cornerOf_39 : decode cX8_cornerOf 39 = .ok (.iaload, 1) := by decide +kernel
theorem dX8_cornerOf_40 : decode cX8_cornerOf 40 = .ok (.goto 33, 3) := by decide +kernel
theorem dX8_cornerOf_43 : decode cX8_cornerOf 43 = .ok (.iload_n 3, 1) := by decide +kernel
theorem dX8_cornerOf_44 : decode cX8_cornerOf 44 = .ok (.bipush 12, 2) := by decide +kernel
theorem dX8_cornerOf_46 : decode cX8_cornerOf 46 = .ok (.if_icmp .ne 12, 3) := by decide +kernel
theorem dX8_cornerOf_49 : decode cX8_cornerOf 49 = .ok (.aload_n 0, 1) := by decide +kernel
theorem dX8_cornerOf_50 : decode cX8_cornerOf 50 = .ok (.iload_n 1, 1) := by decide +kernel
theorem dX8_cornerOf_51 : decode cX8_cornerOf 51 = .ok (.iload_n 2, 1) := by decide +kernel
theorem dX8_cornerOf_52 : decode cX8_cornerOf 52 = .ok (.invokevirtual 71, 3) := by decide +kernel
theorem dX8_cornerOf_55 : decode cX8_cornerOf 55 = .ok (.goto 18, 3) := by decide +kernel
theorem dX8_cornerOf_58 : decode cX8_cornerOf 58 = .ok (.aload_n 0, 1) := by decide +kernel
theorem dX8_cornerOf_59 : decode cX8_cornerOf 59 = .ok (.iload_n 1, 1) := by decide +kernel
theorem dX8_cornerOf_60 : decode cX8_cornerOf 60 = .ok (.iload_n 2, 1) := by decide +kernel
theorem dX8_cornerOf_61 : decode cX8_cornerOf 61 = .ok (.iload_n 3, 1) := by decide +kernel
theorem dX8_cornerOf_62 : decode cX8_cornerOf 62 = .ok (.bipush 6, 2) := by decide +kernel
theorem dX8_cornerOf_64 : decode cX8_cornerOf 64 = .ok (.isub, 1) := by decide +kernel
theorem dX8_cornerOf_65 : decode cX8_cornerOf 65 = .ok (.iconst 3, 1) := by decide +kernel
theorem dX8_cornerOf_66 : decode cX8_cornerOf 66 = .ok (.idiv, 1) := by decide +kernel
theorem dX8_cornerOf_67 : decode cX8_cornerOf 67 = .ok (.iload_n 3, 1) := by decide +kernel
theorem dX8_cornerOf_68 : decode cX8_cornerOf 68 = .ok (.iconst 3, 1) := by decide +kernel
theorem dX8_cornerOf_69 : decode cX8_cornerOf 69 = .ok (.irem, 1) := by decide +kernel
theorem dX8_cornerOf_70 : decode cX8_cornerOf 70 = .ok (.invokevirtual 67, 3) := by decide +kernel
theorem dX8_cornerOf_73 : decode cX8_cornerOf 73 = .ok (.ireturn, 1) := by decide +kernel
theorem dX8_cube_0 : decode cX8_cube 0 = .ok (.iload_n 0, 1) := by decide +kernel
theorem dX8_cube_1 : decode cX8_cube 1 = .ok (.tableswitch 79 0 2 #[27, 46, 61], 27) := by decide +kernel
theorem dX8_cube_28 : decode cX8_cube 28 = .ok (.iconst 2, 1) := by decide +kernel
theorem dX8_cube_29 : decode cX8_cube 29 = .ok (.iload_n 1, 1) := by decide +kernel
theorem dX8_cube_30 : decode cX8_cube 30 = .ok (.imul, 1) := by decide +kernel
theorem dX8_cube_31 : decode cX8_cube 31 = .ok (.iload_n 1, 1) := by decide +kernel
theorem dX8_cube_32 : decode cX8_cube 32 = .ok (.imul, 1) := by decide +kernel
theorem dX8_cube_33 : decode cX8_cube 33 = .ok (.iload_n 1, 1) := by decide +kernel
theorem dX8_cube_34 : decode cX8_cube 34 = .ok (.imul, 1) := by decide +kernel
theorem dX8_cube_35 : decode cX8_cube 35 = .ok (.bipush 24, 2) := by decide +kernel
theorem dX8_cube_37 : decode cX8_cube 37 = .ok (.iload_n 1, 1) := by decide +kernel
theorem dX8_cube_38 : decode cX8_cube 38 = .ok (.imul, 1) := by decide +kernel
theorem dX8_cube_39 : decode cX8_cube 39 = .ok (.iload_n 1, 1) := by decide +kernel
theorem dX8_cube_40 : decode cX8_cube 40 = .ok (.imul, 1) := by decide +kernel
theorem dX8_cube_41 : decode cX8_cube 41 = .ok (.isub, 1) := by decide +kernel
theorem dX8_cube_42 : decode cX8_cube 42 = .ok (.sipush 512, 3) := by decide +kernel
theorem dX8_cube_45 : decode cX8_cube 45 = .ok (.iadd, 1) := by decide +kernel
theorem dX8_cube_46 : decode cX8_cube 46 = .ok (.ireturn, 1) := by decide +kernel
theorem dX8_cube_47 : decode cX8_cube 47 = .ok (.bipush 24, 2) := by decide +kernel
theorem dX8_cube_49 : decode cX8_cube 49 = .ok (.iload_n 1, 1) := by decide +kernel
theorem dX8_cube_50 : decode cX8_cube 50 = .ok (.imul, 1) := by decide +kernel
theorem dX8_cube_51 : decode cX8_cube 51 = .ok (.iload_n 1, 1) := by decide +kernel
theorem dX8_cube_52 : decode cX8_cube 52 = .ok (.imul, 1) := by decide +kernel
theorem dX8_cube_53 : decode cX8_cube 53 = .ok (.iconst 2, 1) := by decide +kernel
theorem dX8_cube_54 : decode cX8_cube 54 = .ok (.iload_n 1, 1) := by decide +kernel
theorem dX8_cube_55 : decode cX8_cube 55 = .ok (.imul, 1) := by decide +kernel
theorem dX8_cube_56 : decode cX8_cube 56 = .ok (.iload_n 1, 1) := by decide +kernel
theorem dX8_cube_57 : decode cX8_cube 57 = .ok (.imul, 1) := by decide +kernel
theorem dX8_cube_58 : decode cX8_cube 58 = .ok (.iload_n 1, 1) := by decide +kernel
theorem dX8_cube_59 : decode cX8_cube 59 = .ok (.imul, 1) := by decide +kernel
theorem dX8_cube_60 : decode cX8_cube 60 = .ok (.isub, 1) := by decide +kernel
theorem dX8_cube_61 : decode cX8_cube 61 = .ok (.ireturn, 1) := by decide +kernel
theorem dX8_cube_62 : decode cX8_cube 62 = .ok (.iload_n 1, 1) := by decide +kernel
theorem dX8_cube_63 : decode cX8_cube 63 = .ok (.iload_n 1, 1) := by decide +kernel
theorem dX8_cube_64 : decode cX8_cube 64 = .ok (.imul, 1) := by decide +kernel
theorem dX8_cube_65 : decode cX8_cube 65 = .ok (.iload_n 1, 1) := by decide +kernel
theorem dX8_cube_66 : decode cX8_cube 66 = .ok (.imul, 1) := by decide +kernel
theorem dX8_cube_67 : decode cX8_cube 67 = .ok (.bipush 16, 2) := by decide +kernel
theorem dX8_cube_69 : decode cX8_cube 69 = .ok (.iload_n 1, 1) := by decide +kernel
theorem dX8_cube_70 : decode cX8_cube 70 = .ok (.imul, 1) := by decide +kernel
theorem dX8_cube_71 : decode cX8_cube 71 = .ok (.iload_n 1, 1) := by decide +kernel
theorem dX8_cube_72 : decode cX8_cube 72 = .ok (.imul, 1) := by decide +kernel
theorem dX8_cube_73 : decode cX8_cube 73 = .ok (.isub, 1) := by decide +kernel
theorem dX8_cube_74 : decode cX8_cube 74 = .ok (.bipush 64, 2) := by decide +kernel
theorem dX8_cube_76 : decode cX8_cube 76 = .ok (.iload_n 1, 1) := by decide +kernel
theorem dX8_cube_77 : decode cX8_cube 77 = .ok (.imul, 1) := by decide +kernel
theorem dX8_cube_78 : decode cX8_cube 78 = .ok (.iadd, 1) := by decide +kernel
theorem dX8_cube_79 : decode cX8_cube 79 = .ok (.ireturn, 1) := by decide +kernel
theorem dX8_cube_80 : decode cX8_cube 80 = .ok (.iload_n 1, 1) := by decide +kernel
theorem dX8_cube_81 : decode cX8_cube 81 = .ok (.iload_n 1, 1) := by decide +kernel
theorem dX8_cube_82 : decode cX8_cube 82 = .ok (.imul, 1) := by decide +kernel
theorem dX8_cube_83 : decode cX8_cube 83 = .ok (.iload_n 1, 1) := by decide +kernel
theorem dX8_cube_84 : decode cX8_cube 84 = .ok (.imul, 1) := by decide +kernel
theorem dX8_cube_85 : decode cX8_cube 85 = .ok (.bipush 8, 2) := by decide +kernel
theorem dX8_cube_87 : decode cX8_cube 87 = .ok (.iload_n 1, 1) := by decide +kernel
theorem dX8_cube_88 : decode cX8_cube 88 = .ok (.imul, 1) := by decide +kernel
theorem dX8_cube_89 : decode cX8_cube 89 = .ok (.iload_n 1, 1) := by decide +kernel
theorem dX8_cube_90 : decode cX8_cube 90 = .ok (.imul, 1) := by decide +kernel
theorem dX8_cube_91 : decode cX8_cube 91 = .ok (.isub, 1) := by decide +kernel
theorem dX8_cube_92 : decode cX8_cube 92 = .ok (.ireturn, 1) := by decide +kernel
set_option maxRecDepth 20000 in
theorem ggX8_colour_X8_at : GoodIn wsX8_colour wsX8_at := goodIn_r _ [6] (by decide +kernel) (by decide +kernel)
set_option maxRecDepth 20000 in
theorem gX8_colour_X8_at : GoodIn wsX8_colour (va_wsS RX8 53 yX8_at wsX8_at) := goodIn_app (goodIn_of _ (by decide +kernel)) ggX8_colour_X8_at
set_option maxRecDepth 20000 in
theorem ggX8_colour_X8_cube : GoodIn wsX8_colour wsX8_cube := goodIn_r _ [9] (by decide +kernel) (by decide +kernel)
set_option maxRecDepth 20000 in
theorem gX8_colour_X8_cube : GoodIn wsX8_colour (va_wsS RX8 84 yX8_cube wsX8_cube) := goodIn_app (goodIn_of _ (by decide +kernel)) ggX8_colour_X8_cube
set_option maxRecDepth 20000 in
theorem ggX8_colour_X8_slopeOf : GoodIn wsX8_colour wsX8_slopeOf := goodIn_r _ [13, 1, 3, 4, 5, 6, 14, 15, 16, 17, 18, 19, 20, 21, 22, 23, 24, 25, 26, 27, 28, 29, 30, 31, 32, 33, 34] (by decide +kernel) (by decide +kernel)
set_option maxRecDepth 20000 in
theorem gX8_colour_X8_slopeOf : GoodIn wsX8_colour (wsV RX8 67 RX8 yX8_slopeOf wsX8_slopeOf) := goodIn_app (goodIn_of _ (by decide +kernel)) ggX8_colour_X8_slopeOf
set_option maxRecDepth 20000 in
theorem ggX8_colour_X8_floor : GoodIn wsX8_colour wsX8_floor := goodIn_r _ [16] (by decide +kernel) (by decide +kernel)
set_option maxRecDepth 20000 in
theorem gX8_colour_X8_floor : GoodIn wsX8_colour (va_wsS RX8 64 yX8_floor wsX8_floor) := goodIn_app (goodIn_of _ (by decide +kernel)) ggX8_colour_X8_floor
theorem dX8_colour_0 : decode cX8_colour 0 = .ok (.iconst 0, 1) := by decide +kernel
theorem dX8_colour_1 : decode cX8_colour 1 = .ok (.istore 5, 2) := by decide +kernel
theorem dX8_colour_3 : decode cX8_colour 3 = .ok (.iconst 0, 1) := by decide +kernel
theorem dX8_colour_4 : decode cX8_colour 4 = .ok (.istore 6, 2) := by decide +kernel
theorem dX8_colour_6 : decode cX8_colour 6 = .ok (.iload 6, 2) := by decide +kernel
theorem dX8_colour_8 : decode cX8_colour 8 = .ok (.iconst 4, 1) := by decide +kernel
theorem dX8_colour_9 : decode cX8_colour 9 = .ok (.if_icmp .ge 137, 3) := by decide +kernel
theorem dX8_colour_12 : decode cX8_colour 12 = .ok (.iload 6, 2) := by decide +kernel
theorem dX8_colour_14 : decode cX8_colour 14 = .ok (.iconst 2, 1) := by decide +kernel
theorem dX8_colour_15 : decode cX8_colour 15 = .ok (.irem, 1) := by decide +kernel
theorem dX8_colour_16 : decode cX8_colour 16 = .ok (.istore 7, 2) := by decide +kernel
theorem dX8_colour_18 : decode cX8_colour 18 = .ok (.iload 6, 2) := by decide +kernel
theorem dX8_colour_20 : decode cX8_colour 20 = .ok (.iconst 2, 1) := by decide +kernel
theorem dX8_colour_21 : decode cX8_colour 21 = .ok (.idiv, 1) := by decide +kernel
theorem dX8_colour_22 : decode cX8_colour 22 = .ok (.istore 8, 2) := by decide +kernel
theorem dX8_colour_24 : decode cX8_colour 24 = .ok (.iload_n 1, 1) := by decide +kernel
theorem dX8_colour_25 : decode cX8_colour 25 = .ok (.iconst 4, 1) := by decide +kernel
theorem dX8_colour_26 : decode cX8_colour 26 = .ok (.irem, 1) := by decide +kernel
theorem dX8_colour_27 : decode cX8_colour 27 = .ok (.iload 7, 2) := by decide +kernel
theorem dX8_colour_29 : decode cX8_colour 29 = .ok (.iadd, 1) := by decide +kernel
theorem dX8_colour_30 : decode cX8_colour 30 = .ok (.istore 9, 2) := by decide +kernel
theorem dX8_colour_32 : decode cX8_colour 32 = .ok (.iload_n 1, 1) := by decide +kernel
theorem dX8_colour_33 : decode cX8_colour 33 = .ok (.iconst 4, 1) := by decide +kernel
theorem dX8_colour_34 : decode cX8_colour 34 = .ok (.idiv, 1) := by decide +kernel
theorem dX8_colour_35 : decode cX8_colour 35 = .ok (.iload 8, 2) := by decide +kernel
theorem dX8_colour_37 : decode cX8_colour 37 = .ok (.iadd, 1) := by decide +kernel
theorem dX8_colour_38 : decode cX8_colour 38 = .ok (.istore 10, 2) := by decide +kernel
theorem dX8_colour_40 : decode cX8_colour 40 = .ok (.iload 5, 2) := by decide +kernel
theorem dX8_colour_42 : decode cX8_colour 42 = .ok (.aload_n 0, 1) := by decide +kernel
theorem dX8_colour_43 : decode cX8_colour 43 = .ok (.getfield 7, 3) := by decide +kernel
theorem dX8_colour_46 : decode cX8_colour 46 = .ok (.iload 9, 2) := by decide +kernel
theorem dX8_colour_48 : decode cX8_colour 48 = .ok (.iload 10, 2) := by decide +kernel
theorem dX8_colour_50 : decode cX8_colour 50 = .ok (.invokestatic 53, 3) := by decide +kernel
theorem dX8_colour_53 : decode cX8_colour 53 = .ok (.iconst 2, 1) := by decide +kernel
theorem dX8_colour_54 : decode cX8_colour 54 = .ok (.iadd, 1) := by decide +kernel
theorem dX8_colour_55 : decode cX8_colour 55 = .ok (.iload 4, 2) := by decide +kernel
theorem dX8_colour_57 : decode cX8_colour 57 = .ok (.iadd, 1) := by decide +kernel
theorem dX8_colour_58 : decode cX8_colour 58 = .ok (.iaload, 1) := by decide +kernel
theorem dX8_colour_59 : decode cX8_colour 59 = .ok (.iload 7, 2) := by decide +kernel
theorem dX8_colour_61 : decode cX8_colour 61 = .ok (.iload_n 2, 1) := by decide +kernel
theorem dX8_colour_62 : decode cX8_colour 62 = .ok (.invokestatic 84, 3) := by decide +kernel
theorem dX8_colour_65 : decode cX8_colour 65 = .ok (.imul, 1) := by decide +kernel
theorem dX8_colour_66 : decode cX8_colour 66 = .ok (.iload 8, 2) := by decide +kernel
theorem dX8_colour_68 : decode cX8_colour 68 = .ok (.iload_n 3, 1) := by decide +kernel
theorem dX8_colour_69 : decode cX8_colour 69 = .ok (.invokestatic 84, 3) := by decide +kernel
theorem dX8_colour_72 : decode cX8_colour 72 = .ok (.imul, 1) := by decide +kernel
theorem dX8_colour_73 : decode cX8_colour 73 = .ok (.iadd, 1) := by decide +kernel
theorem dX8_colour_74 : decode cX8_colour 74 = .ok (.istore 5, 2) := by decide +kernel
theorem dX8_colour_76 : decode cX8_colour 76 = .ok (.iload 5, 2) := by decide +kernel
theorem dX8_colour_78 : decode cX8_colour 78 = .ok (.aload_n 0, 1) := by decide +kernel
theorem dX8_colour_79 : decode cX8_colour 79 = .ok (.iload 9, 2) := by decide +kernel
theorem dX8_colour_81 : decode cX8_colour 81 = .ok (.iload 10, 2) := by decide +kernel
theorem dX8_colour_83 : decode cX8_colour 83 = .ok (.iconst 0, 1) := by decide +kernel
theorem dX8_colour_84 : decode cX8_colour 84 = .ok (.iload 4, 2) := by decide +kernel
theorem dX8_colour_86 : decode cX8_colour 86 = .ok (.invokevirtual 67, 3) := by decide +kernel
theorem dX8_colour_89 : decode cX8_colour 89 = .ok (.iconst 2, 1) := by decide +kernel
theorem dX8_colour_90 : decode cX8_colour 90 = .ok (.iload 7, 2) := by decide +kernel
theorem dX8_colour_92 : decode cX8_colour 92 = .ok (.iadd, 1) := by decide +kernel
theorem dX8_colour_93 : decode cX8_colour 93 = .ok (.iload_n 2, 1) := by decide +kernel
theorem dX8_colour_94 : decode cX8_colour 94 = .ok (.invokestatic 84, 3) := by decide +kernel
theorem dX8_colour_97 : decode cX8_colour 97 = .ok (.imul, 1) := by decide +kernel
theorem dX8_colour_98 : decode cX8_colour 98 = .ok (.iload 8, 2) := by decide +kernel
theorem dX8_colour_100 : decode cX8_colour 100 = .ok (.iload_n 3, 1) := by decide +kernel
theorem dX8_colour_101 : decode cX8_colour 101 = .ok (.invokestatic 84, 3) := by decide +kernel
theorem dX8_colour_104 : decode cX8_colour 104 = .ok (.imul, 1) := by decide +kernel
theorem dX8_colour_105 : decode cX8_colour 105 = .ok (.iadd, 1) := by decide +kernel
theorem dX8_colour_106 : decode cX8_colour 106 = .ok (.istore 5, 2) := by decide +kernel
theorem dX8_colour_108 : decode cX8_colour 108 = .ok (.iload 5, 2) := by decide +kernel
theorem dX8_colour_110 : decode cX8_colour 110 = .ok (.aload_n 0, 1) := by decide +kernel
theorem dX8_colour_111 : decode cX8_colour 111 = .ok (.iload 9, 2) := by decide +kernel
theorem dX8_colour_113 : decode cX8_colour 113 = .ok (.iload 10, 2) := by decide +kernel
theorem dX8_colour_115 : decode cX8_colour 115 = .ok (.iconst 1, 1) := by decide +kernel
theorem dX8_colour_116 : decode cX8_colour 116 = .ok (.iload 4, 2) := by decide +kernel
theorem dX8_colour_118 : decode cX8_colour 118 = .ok (.invokevirtual 67, 3) := by decide +kernel
theorem dX8_colour_121 : decode cX8_colour 121 = .ok (.iload 7, 2) := by decide +kernel
theorem dX8_colour_123 : decode cX8_colour 123 = .ok (.iload_n 2, 1) := by decide +kernel
theorem dX8_colour_124 : decode cX8_colour 124 = .ok (.invokestatic 84, 3) := by decide +kernel
theorem dX8_colour_127 : decode cX8_colour 127 = .ok (.imul, 1) := by decide +kernel
theorem dX8_colour_128 : decode cX8_colour 128 = .ok (.iconst 2, 1) := by decide +kernel
theorem dX8_colour_129 : decode cX8_colour 129 = .ok (.iload 8, 2) := by decide +kernel
theorem dX8_colour_131 : decode cX8_colour 131 = .ok (.iadd, 1) := by decide +kernel
theorem dX8_colour_132 : decode cX8_colour 132 = .ok (.iload_n 3, 1) := by decide +kernel
theorem dX8_colour_133 : decode cX8_colour 133 = .ok (.invokestatic 84, 3) := by decide +kernel
theorem dX8_colour_136 : decode cX8_colour 136 = .ok (.imul, 1) := by decide +kernel
theorem dX8_colour_137 : decode cX8_colour 137 = .ok (.iadd, 1) := by decide +kernel
theorem dX8_colour_138 : decode cX8_colour 138 = .ok (.istore 5, 2) := by decide +kernel
theorem dX8_colour_140 : decode cX8_colour 140 = .ok (.iinc 6 1, 3) := by decide +kernel
theorem dX8_colour_143 : decode cX8_colour 143 = .ok (.goto (-137), 3) := by decide +kernel
theorem dX8_colour_146 : decode cX8_colour 146 = .ok (.iload 5, 2) := by decide +kernel
theorem dX8_colour_148 : decode cX8_colour 148 = .ok (.ldc 87, 2) := by decide +kernel
theorem dX8_colour_150 : decode cX8_colour 150 = .ok (.invokestatic 64, 3) := by decide +kernel
theorem dX8_colour_153 : decode cX8_colour 153 = .ok (.istore 6, 2) := by decide +kernel
theorem dX8_colour_155 : decode cX8_colour 155 = .ok (.iload 6, 2) := by decide +kernel
