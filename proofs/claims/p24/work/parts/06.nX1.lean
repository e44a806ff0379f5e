theorem dX1_init_0 : decode cX1_init 0 = .ok (.aload_n 0, 1) := by decide +kernel
theorem dX1_init_1 : decode cX1_init 1 = .ok (.invokespecial 3, 3) := by decide +kernel
theorem dX1_init_4 : decode cX1_init 4 = .ok (.aload_n 0, 1) := by decide +kernel
theorem dX1_init_5 : decode cX1_init 5 = .ok (.bipush 6, 2) := by decide +kernel
theorem dX1_init_7 : decode cX1_init 7 = .ok (.newarray .long, 2) := by decide +kernel
theorem dX1_init_9 : decode cX1_init 9 = .ok (.putfield 9, 3) := by decide +kernel
theorem dX1_init_12 : decode cX1_init 12 = .ok (.aload_n 0, 1) := by decide +kernel
theorem dX1_init_13 : decode cX1_init 13 = .ok (.lconst 1, 1) := by decide +kernel
theorem dX1_init_14 : decode cX1_init 14 = .ok (.putfield 15, 3) := by decide +kernel
theorem dX1_init_17 : decode cX1_init 17 = .ok (.aload_n 0, 1) := by decide +kernel
theorem dX1_init_18 : decode cX1_init 18 = .ok (.iconst 4, 1) := by decide +kernel
theorem dX1_init_19 : decode cX1_init 19 = .ok (.newarray .int, 2) := by decide +kernel
theorem dX1_init_21 : decode cX1_init 21 = .ok (.putfield 19, 3) := by decide +kernel
theorem dX1_init_24 : decode cX1_init 24 = .ok (.aload_n 0, 1) := by decide +kernel
theorem dX1_init_25 : decode cX1_init 25 = .ok (.iconst 4, 1) := by decide +kernel
theorem dX1_init_26 : decode cX1_init 26 = .ok (.newarray .int, 2) := by decide +kernel
theorem dX1_init_28 : decode cX1_init 28 = .ok (.putfield 23, 3) := by decide +kernel
theorem dX1_init_31 : decode cX1_init 31 = .ok (.aload_n 0, 1) := by decide +kernel
theorem dX1_init_32 : decode cX1_init 32 = .ok (.iconst 4, 1) := by decide +kernel
theorem dX1_init_33 : decode cX1_init 33 = .ok (.newarray .int, 2) := by decide +kernel
theorem dX1_init_35 : decode cX1_init 35 = .ok (.putfield 26, 3) := by decide +kernel
theorem dX1_init_38 : decode cX1_init 38 = .ok (.aload_n 0, 1) := by decide +kernel
theorem dX1_init_39 : decode cX1_init 39 = .ok (.iconst 4, 1) := by decide +kernel
theorem dX1_init_40 : decode cX1_init 40 = .ok (.newarray .long, 2) := by decide +kernel
theorem dX1_init_42 : decode cX1_init 42 = .ok (.putfield 29, 3) := by decide +kernel
theorem dX1_init_45 : decode cX1_init 45 = .ok (.aload_n 0, 1) := by decide +kernel
theorem dX1_init_46 : decode cX1_init 46 = .ok (.iconst 4, 1) := by decide +kernel
theorem dX1_init_47 : decode cX1_init 47 = .ok (.newarray .long, 2) := by decide +kernel
theorem dX1_init_49 : decode cX1_init 49 = .ok (.putfield 32, 3) := by decide +kernel
theorem dX1_init_52 : decode cX1_init 52 = .ok (.aload_n 0, 1) := by decide +kernel
theorem dX1_init_53 : decode cX1_init 53 = .ok (.iconst 4, 1) := by decide +kernel
theorem dX1_init_54 : decode cX1_init 54 = .ok (.newarray .long, 2) := by decide +kernel
theorem dX1_init_56 : decode cX1_init 56 = .ok (.putfield 35, 3) := by decide +kernel
theorem dX1_init_59 : decode cX1_init 59 = .ok (.aload_n 0, 1) := by decide +kernel
theorem dX1_init_60 : decode cX1_init 60 = .ok (.iconst 4, 1) := by decide +kernel
theorem dX1_init_61 : decode cX1_init 61 = .ok (.newarray .long, 2) := by decide +kernel
theorem dX1_init_63 : decode cX1_init 63 = .ok (.putfield 38, 3) := by decide +kernel
theorem dX1_init_66 : decode cX1_init 66 = .ok (.aload_n 0, 1) := by decide +kernel
theorem dX1_init_67 : decode cX1_init 67 = .ok (.iconst 4, 1) := by decide +kernel
theorem dX1_init_68 : decode cX1_init 68 = .ok (.newarray .long, 2) := by decide +kernel
theorem dX1_init_70 : decode cX1_init 70 = .ok (.putfield 41, 3) := by decide +kernel
theorem dX1_init_73 : decode cX1_init 73 = .ok (.return_, 1) := by decide +kernel
theorem dX1_upperPlaceOf_0 : decode cX1_upperPlaceOf 0 = .ok (.aload_n 0, 1) := by decide +kernel
theorem dX1_upperPlaceOf_1 : decode cX1_upperPlaceOf 1 = .ok (.getfield 9, 3) := by decide +kernel
theorem dX1_upperPlaceOf_4 : decode cX1_upperPlaceOf 4 = .ok (.iload_n 1, 1) := by decide +kernel
theorem dX1_upperPlaceOf_5 : decode cX1_upperPlaceOf 5 = .ok (.iconst 1, 1) := by decide +kernel
theorem dX1_upperPlaceOf_6 : decode cX1_upperPlaceOf 6 = .ok (.iadd, 1) := by decide +kernel
theorem dX1_upperPlaceOf_7 : decode cX1_upperPlaceOf 7 = .ok (.laload, 1) := by decide +kernel
theorem dX1_upperPlaceOf_8 : decode cX1_upperPlaceOf 8 = .ok (.lreturn, 1) := by decide +kernel
set_option maxRecDepth 20000 in
theorem ggX1_wholePlaceOf_J9_floorDiv_f86c9 : GoodIn wsX1_wholePlaceOf wsJ9_floorDiv_f86c9 := goodIn_r _ [6] (by decide +kernel) (by decide +kernel)
set_option maxRecDepth 20000 in
theorem gX1_wholePlaceOf_J9_floorDiv_f86c9 : GoodIn wsX1_wholePlaceOf (va_wsS RX1 44 yJ9_floorDiv_f86c9 wsJ9_floorDiv_f86c9) := goodIn_app (goodIn_of _ (by decide +kernel)) ggX1_wholePlaceOf_J9_floorDiv_f86c9
theorem dX1_wholePlaceOf_0 : decode cX1_wholePlaceOf 0 = .ok (.aload_n 0, 1) := by decide +kernel
theorem dX1_wholePlaceOf_1 : decode cX1_wholePlaceOf 1 = .ok (.getfield 15, 3) := by decide +kernel
theorem dX1_wholePlaceOf_4 : decode cX1_wholePlaceOf 4 = .ok (.lconst 0, 1) := by decide +kernel
theorem dX1_wholePlaceOf_5 : decode cX1_wholePlaceOf 5 = .ok (.lcmp, 1) := by decide +kernel
theorem dX1_wholePlaceOf_6 : decode cX1_wholePlaceOf 6 = .ok (.ifCond .le 22, 3) := by decide +kernel
theorem dX1_wholePlaceOf_9 : decode cX1_wholePlaceOf 9 = .ok (.aload_n 0, 1) := by decide +kernel
theorem dX1_wholePlaceOf_10 : decode cX1_wholePlaceOf 10 = .ok (.getfield 9, 3) := by decide +kernel
theorem dX1_wholePlaceOf_13 : decode cX1_wholePlaceOf 13 = .ok (.iload_n 1, 1) := by decide +kernel
theorem dX1_wholePlaceOf_14 : decode cX1_wholePlaceOf 14 = .ok (.iconst 1, 1) := by decide +kernel
theorem dX1_wholePlaceOf_15 : decode cX1_wholePlaceOf 15 = .ok (.iadd, 1) := by decide +kernel
theorem dX1_wholePlaceOf_16 : decode cX1_wholePlaceOf 16 = .ok (.laload, 1) := by decide +kernel
theorem dX1_wholePlaceOf_17 : decode cX1_wholePlaceOf 17 = .ok (.aload_n 0, 1) := by decide +kernel
theorem dX1_wholePlaceOf_18 : decode cX1_wholePlaceOf 18 = .ok (.getfield 15, 3) := by decide +kernel
theorem dX1_wholePlaceOf_21 : decode cX1_wholePlaceOf 21 = .ok (.invokestatic 44, 3) := by decide +kernel
theorem dX1_wholePlaceOf_24 : decode cX1_wholePlaceOf 24 = .ok (.l2i, 1) := by decide +kernel
theorem dX1_wholePlaceOf_25 : decode cX1_wholePlaceOf 25 = .ok (.goto 4, 3) := by decide +kernel
theorem dX1_wholePlaceOf_28 : decode cX1_wholePlaceOf 28 = .ok (.iconst 0, 1) := by decide +kernel
theorem dX1_wholePlaceOf_29 : decode cX1_wholePlaceOf 29 = .ok (.ireturn, 1) := by decide +kernel
theorem dX1_isAt_0 : decode cX1_isAt 0 = .ok (.aload_n 0, 1) := by decide +kernel
theorem dX1_isAt_1 : decode cX1_isAt 1 = .ok (.getfield 9, 3) := by decide +kernel
theorem dX1_isAt_4 : decode cX1_isAt 4 = .ok (.iload_n 1, 1) := by decide +kernel
theorem dX1_isAt_5 : decode cX1_isAt 5 = .ok (.iconst 1, 1) := by decide +kernel
theorem dX1_isAt_6 : decode cX1_isAt 6 = .ok (.iadd, 1) := by decide +kernel
theorem dX1_isAt_7 : decode cX1_isAt 7 = .ok (.laload, 1) := by decide +kernel
theorem dX1_isAt_8 : decode cX1_isAt 8 = .ok (.iload_n 2, 1) := by decide +kernel
theorem dX1_isAt_9 : decode cX1_isAt 9 = .ok (.i2l, 1) := by decide +kernel
theorem dX1_isAt_10 : decode cX1_isAt 10 = .ok (.aload_n 0, 1) := by decide +kernel
theorem dX1_isAt_11 : decode cX1_isAt 11 = .ok (.getfield 15, 3) := by decide +kernel
theorem dX1_isAt_14 : decode cX1_isAt 14 = .ok (.lmul, 1) := by decide +kernel
theorem dX1_isAt_15 : decode cX1_isAt 15 = .ok (.lcmp, 1) := by decide +kernel
theorem dX1_isAt_16 : decode cX1_isAt 16 = .ok (.ifCond .ne 7, 3) := by decide +kernel
theorem dX1_isAt_19 : decode cX1_isAt 19 = .ok (.iconst 1, 1) := by decide +kernel
theorem dX1_isAt_20 : decode cX1_isAt 20 = .ok (.goto 4, 3) := by decide +kernel
theorem dX1_isAt_23 : decode cX1_isAt 23 = .ok (.iconst 0, 1) := by decide +kernel
theorem dX1_isAt_24 : decode cX1_isAt 24 = .ok (.ireturn, 1) := by decide +kernel
theorem dX1_touchesNext_0 : decode cX1_touchesNext 0 = .ok (.aload_n 0, 1) := by decide +kernel
theorem dX1_touchesNext_1 : decode cX1_touchesNext 1 = .ok (.getfield 9, 3) := by decide +kernel
theorem dX1_touchesNext_4 : decode cX1_touchesNext 4 = .ok (.iload_n 1, 1) := by decide +kernel
theorem dX1_touchesNext_5 : decode cX1_touchesNext 5 = .ok (.iconst 1, 1) := by decide +kernel
theorem dX1_touchesNext_6 : decode cX1_touchesNext 6 = .ok (.iadd, 1) := by decide +kernel
theorem dX1_touchesNext_7 : decode cX1_touchesNext 7 = .ok (.laload, 1) := by decide +kernel
theorem dX1_touchesNext_8 : decode cX1_touchesNext 8 = .ok (.aload_n 0, 1) := by decide +kernel
theorem dX1_touchesNext_9 : decode cX1_touchesNext 9 = .ok (.getfield 9, 3) := by decide +kernel
theorem dX1_touchesNext_12 : decode cX1_touchesNext 12 = .ok (.iload_n 1, 1) := by decide +kernel
theorem dX1_touchesNext_13 : decode cX1_touchesNext 13 = .ok (.iconst 2, 1) := by decide +kernel
theorem dX1_touchesNext_14 : decode cX1_touchesNext 14 = .ok (.iadd, 1) := by decide +kernel
theorem dX1_touchesNext_15 : decode cX1_touchesNext 15 = .ok (.laload, 1) := by decide +kernel
theorem dX1_touchesNext_16 : decode cX1_touchesNext 16 = .ok (.lcmp, 1) := by decide +kernel
theorem dX1_touchesNext_17 : decode cX1_touchesNext 17 = .ok (.ifCond .ne 7, 3) := by decide +kernel
theorem dX1_touchesNext_20 : decode cX1_touchesNext 20 = .ok (.iconst 1, 1) := by decide +kernel
theorem dX1_touchesNext_21 : decode cX1_touchesNext 21 = .ok (.goto 4, 3) := by decide +kernel
theorem dX1_touchesNext_24 : decode cX1_touchesNext 24 = .ok (.iconst 0, 1) := by decide +kernel
theorem dX1_touchesNext_25 : decode cX1_touchesNext 25 = .ok (.ireturn, 1) := by decide +kernel
theorem dX1_tensionOf_0 : decode cX1_tensionOf 0 = .ok (.aload_n 0, 1) := by decide +kernel
theorem dX1_tensionOf_1 : decode cX1_tensionOf 1 = .ok (.getfield 9, 3) := by decide +kernel
theorem dX1_tensionOf_4 : decode cX1_tensionOf 4 = .ok (.iload_n 2, 1) := by decide +kernel
theorem dX1_tensionOf_5 : decode cX1_tensionOf 5 = .ok (.iconst 1, 1) := by decide +kernel
theorem dX1_tensionOf_6 : decode cX1_tensionOf 6 = .ok (.iadd, 1) := by decide +kernel
theorem dX1_tensionOf_7 : decode cX1_tensionOf 7 = .ok (.laload, 1) := by decide +kernel
theorem dX1_tensionOf_8 : decode cX1_tensionOf 8 = .ok (.aload_n 0, 1) := by decide +kernel
theorem dX1_tensionOf_9 : decode cX1_tensionOf 9 = .ok (.getfield 9, 3) := by decide +kernel
theorem dX1_tensionOf_12 : decode cX1_tensionOf 12 = .ok (.iload_n 2, 1) := by decide +kernel
theorem dX1_tensionOf_13 : decode cX1_tensionOf 13 = .ok (.laload, 1) := by decide +kernel
theorem dX1_tensionOf_14 : decode cX1_tensionOf 14 = .ok (.lsub, 1) := by decide +kernel
theorem dX1_tensionOf_15 : decode cX1_tensionOf 15 = .ok (.lstore_n 3, 1) := by decide +kernel
theorem dX1_tensionOf_16 : decode cX1_tensionOf 16 = .ok (.aload_n 1, 1) := by decide +kernel
theorem dX1_tensionOf_17 : decode cX1_tensionOf 17 = .ok (.getfield 50, 3) := by decide +kernel
theorem dX1_tensionOf_20 : decode cX1_tensionOf 20 = .ok (.iload_n 2, 1) := by decide +kernel
theorem dX1_tensionOf_21 : decode cX1_tensionOf 21 = .ok (.iaload, 1) := by decide +kernel
theorem dX1_tensionOf_22 : decode cX1_tensionOf 22 = .ok (.i2l, 1) := by decide +kernel
theorem dX1_tensionOf_23 : decode cX1_tensionOf 23 = .ok (.lload_n 3, 1) := by decide +kernel
theorem dX1_tensionOf_24 : decode cX1_tensionOf 24 = .ok (.aload_n 1, 1) := by decide +kernel
theorem dX1_tensionOf_25 : decode cX1_tensionOf 25 = .ok (.getfield 55, 3) := by decide +kernel
theorem dX1_tensionOf_28 : decode cX1_tensionOf 28 = .ok (.iload_n 2, 1) := by decide +kernel
theorem dX1_tensionOf_29 : decode cX1_tensionOf 29 = .ok (.iaload, 1) := by decide +kernel
theorem dX1_tensionOf_30 : decode cX1_tensionOf 30 = .ok (.i2l, 1) := by decide +kernel
theorem dX1_tensionOf_31 : decode cX1_tensionOf 31 = .ok (.aload_n 0, 1) := by decide +kernel
theorem dX1_tensionOf_32 : decode cX1_tensionOf 32 = .ok (.getfield 15, 3) := by decide +kernel
theorem dX1_tensionOf_35 : decode cX1_tensionOf 35 = .ok (.lmul, 1) := by decide +kernel
theorem dX1_tensionOf_36 : decode cX1_tensionOf 36 = .ok (.lsub, 1) := by decide +kernel
theorem dX1_tensionOf_37 : decode cX1_tensionOf 37 = .ok (.lmul, 1) := by decide +kernel
theorem dX1_tensionOf_38 : decode cX1_tensionOf 38 = .ok (.lreturn, 1) := by decide +kernel
set_option maxRecDepth 20000 in
theorem ggX1_forceOn_X0_sumOfLoads : GoodIn wsX1_forceOn wsX0_sumOfLoads := goodIn_r _ [6, 7, 26, 27, 28, 29, 30, 31] (by decide +kernel) (by decide +kernel)
set_option maxRecDepth 20000 in
theorem gX1_forceOn_X0_sumOfLoads : GoodIn wsX1_forceOn (wsV RX1 58 RX0 yX0_sumOfLoads wsX0_sumOfLoads) := goodIn_app (goodIn_of _ (by decide +kernel)) ggX1_forceOn_X0_sumOfLoads
set_option maxRecDepth 20000 in
theorem ggX1_forceOn_X1_tensionOf : GoodIn wsX1_forceOn wsX1_tensionOf := goodIn_r _ [12, 13, 14, 15, 1, 16, 17, 18, 19, 20, 21, 22, 23, 24, 25, 26, 27, 28, 29, 30, 31] (by decide +kernel) (by decide +kernel)
set_option maxRecDepth 20000 in
theorem gX1_forceOn_X1_tensionOf : GoodIn wsX1_forceOn (wsV RX1 62 RX1 yX1_tensionOf wsX1_tensionOf) := goodIn_app (goodIn_of _ (by decide +kernel)) ggX1_forceOn_X1_tensionOf
theorem dX1_forceOn_0 : decode cX1_forceOn 0 = .ok (.aload_n 1, 1) := by decide +kernel
theorem dX1_forceOn_1 : decode cX1_forceOn 1 = .ok (.iload_n 2, 1) := by decide +kernel
theorem dX1_forceOn_2 : decode cX1_forceOn 2 = .ok (.iload_n 3, 1) := by decide +kernel
theorem dX1_forceOn_3 : decode cX1_forceOn 3 = .ok (.invokevirtual 58, 3) := by decide +kernel
theorem dX1_forceOn_6 : decode cX1_forceOn 6 = .ok (.i2l, 1) := by decide +kernel
theorem dX1_forceOn_7 : decode cX1_forceOn 7 = .ok (.aload_n 0, 1) := by decide +kernel
theorem dX1_forceOn_8 : decode cX1_forceOn 8 = .ok (.getfield 15, 3) := by decide +kernel
theorem dX1_forceOn_11 : decode cX1_forceOn 11 = .ok (.lmul, 1) := by decide +kernel
theorem dX1_forceOn_12 : decode cX1_forceOn 12 = .ok (.lstore 4, 2) := by decide +kernel
theorem dX1_forceOn_14 : decode cX1_forceOn 14 = .ok (.lload 4, 2) := by decide +kernel
theorem dX1_forceOn_16 : decode cX1_forceOn 16 = .ok (.aload_n 0, 1) := by decide +kernel
theorem dX1_forceOn_17 : decode cX1_forceOn 17 = .ok (.aload_n 1, 1) := by decide +kernel
theorem dX1_forceOn_18 : decode cX1_forceOn 18 = .ok (.iload_n 3, 1) := by decide +kernel
theorem dX1_forceOn_19 : decode cX1_forceOn 19 = .ok (.iconst 1, 1) := by decide +kernel
theorem dX1_forceOn_20 : decode cX1_forceOn 20 = .ok (.iadd, 1) := by decide +kernel
theorem dX1_forceOn_21 : decode cX1_forceOn 21 = .ok (.invokevirtual 62, 3) := by decide +kernel
theorem dX1_forceOn_24 : decode cX1_forceOn 24 = .ok (.ladd, 1) := by decide +kernel
theorem dX1_forceOn_25 : decode cX1_forceOn 25 = .ok (.aload_n 0, 1) := by decide +kernel
theorem dX1_forceOn_26 : decode cX1_forceOn 26 = .ok (.aload_n 1, 1) := by decide +kernel
theorem dX1_forceOn_27 : decode cX1_forceOn 27 = .ok (.iload_n 2, 1) := by decide +kernel
theorem dX1_forceOn_28 : decode cX1_forceOn 28 = .ok (.invokevirtual 62, 3) := by decide +kernel
theorem dX1_forceOn_31 : decode cX1_forceOn 31 = .ok (.lsub, 1) := by decide +kernel
theorem dX1_forceOn_32 : decode cX1_forceOn 32 = .ok (.lreturn, 1) := by decide +kernel
set_option maxRecDepth 20000 in
theorem ggX1_settle_X1_boundPlates : GoodIn wsX1_settle wsX1_boundPlates := goodIn_r _ [6, 1, 7, 8, 9, 10, 11, 12, 13, 14, 15, 16, 17, 18, 19, 20, 21, 22, 23, 24, 25, 26, 27, 28, 29, 30, 31, 97, 98, 99, 100, 101, 102, 103, 104, 105, 106, 107, 108, 109, 110, 111, 112] (by decide +kernel) (by decide +kernel)
set_option maxRecDepth 20000 in
theorem gX1_settle_X1_boundPlates : GoodIn wsX1_settle (wsV RX1 70 RX1 yX1_boundPlates wsX1_boundPlates) := goodIn_app (goodIn_of _ (by decide +kernel)) ggX1_settle_X1_boundPlates
set_option maxRecDepth 20000 in
theorem ggX1_settle_X1_takeGuess : GoodIn wsX1_settle wsX1_takeGuess := goodIn_r _ [35, 1, 36, 97, 98, 99, 100, 101, 102, 103, 104, 105, 106, 107, 108, 109, 110, 111, 112] (by decide +kernel) (by decide +kernel)
set_option maxRecDepth 20000 in
theorem gX1_settle_X1_takeGuess : GoodIn wsX1_settle (wsV RX1 78 RX1 yX1_takeGuess wsX1_takeGuess) := goodIn_app (goodIn_of _ (by decide +kernel)) ggX1_settle_X1_takeGuess
set_option maxRecDepth 20000 in
theorem ggX1_settle_X1_expressPlaces : GoodIn wsX1_settle wsX1_expressPlaces := goodIn_r _ [40, 1, 36, 41, 42, 11, 16, 43, 44, 45, 5, 46, 47, 48, 49, 50, 51, 52, 20, 53, 54, 97, 98, 99, 100, 101, 102, 103, 104, 105, 106, 107, 108, 109, 110, 111, 112] (by decide +kernel) (by decide +kernel)
set_option maxRecDepth 20000 in
theorem gX1_settle_X1_expressPlaces : GoodIn wsX1_settle (wsV RX1 82 RX1 yX1_expressPlaces wsX1_expressPlaces) := goodIn_app (goodIn_of _ (by decide +kernel)) ggX1_settle_X1_expressPlaces
set_option maxRecDepth 20000 in
theorem ggX1_settle_X1_findPlaces : GoodIn wsX1_settle wsX1_findPlaces := goodIn_r _ [58, 12, 1, 47, 48, 49, 11, 16, 59, 60, 61, 62, 63, 64, 65, 9, 66, 97, 98, 99, 100, 101, 102, 103, 104, 105, 106, 107, 108, 109, 110, 111, 112] (by decide +kernel) (by decide +kernel)
set_option maxRecDepth 20000 in
theorem gX1_settle_X1_findPlaces : GoodIn wsX1_settle (wsV RX1 85 RX1 yX1_findPlaces wsX1_findPlaces) := goodIn_app (goodIn_of _ (by decide +kernel)) ggX1_settle_X1_findPlaces
set_option maxRecDepth 20000 in
theorem ggX1_settle_X1_shareLower : GoodIn wsX1_settle wsX1_shareLower := goodIn_r _ [70, 71, 1, 60, 72, 59, 12, 61, 62, 63, 64, 65, 9, 66, 103, 104, 105, 106, 107, 108, 109, 110, 111, 112, 97, 98, 99, 100, 101, 102] (by decide +kernel) (by decide +kernel)
set_option maxRecDepth 20000 in
theorem gX1_settle_X1_shareLower : GoodIn wsX1_settle (wsV RX1 89 RX1 yX1_shareLower wsX1_shareLower) := goodIn_app (goodIn_of _ (by decide +kernel)) ggX1_settle_X1_shareLower
set_option maxRecDepth 20000 in
theorem ggX1_settle_X1_nothingMoves : GoodIn wsX1_settle wsX1_nothingMoves := goodIn_r _ [76, 1, 72, 77, 78, 79, 5, 80, 16, 11, 81, 82, 83, 84, 71, 50, 51, 52, 20, 53, 54, 85, 86, 87, 88, 41, 42, 89, 90, 91, 92, 93, 94, 95, 96, 97, 98, 99, 100, 101, 102, 103, 104, 105, 106, 107, 108, 109, 110, 111, 112] (by decide +kernel) (by decide +kernel)
set_option maxRecDepth 20000 in
theorem gX1_settle_X1_nothingMoves : GoodIn wsX1_settle (wsV RX1 92 RX1 yX1_nothingMoves wsX1_nothingMoves) := goodIn_app (goodIn_of _ (by decide +kernel)) ggX1_settle_X1_nothingMoves
theorem dX1_settle_0 : decode cX1_settle 0 = .ok (.aload_n 0, 1) := by decide +kernel
theorem dX1_settle_1 : decode cX1_settle 1 = .ok (.aload_n 1, 1) := by decide +kernel
theorem dX1_settle_2 : decode cX1_settle 2 = .ok (.invokevirtual 70, 3) := by decide +kernel
theorem dX1_settle_5 : decode cX1_settle 5 = .ok (.aload_n 1, 1) := by decide +kernel
theorem dX1_settle_6 : decode cX1_settle 6 = .ok (.getfield 74, 3) := by decide +kernel
theorem dX1_settle_9 : decode cX1_settle 9 = .ok (.ifCond .ne 7, 3) := by decide +kernel
theorem dX1_settle_12 : decode cX1_settle 12 = .ok (.iconst 1, 1) := by decide +kernel
theorem dX1_settle_13 : decode cX1_settle 13 = .ok (.goto 13, 3) := by decide +kernel
theorem dX1_settle_16 : decode cX1_settle 16 = .ok (.iconst 3, 1) := by decide +kernel
theorem dX1_settle_17 : decode cX1_settle 17 = .ok (.iconst 2, 1) := by decide +kernel
theorem dX1_settle_18 : decode cX1_settle 18 = .ok (.aload_n 1, 1) := by decide +kernel
theorem dX1_settle_19 : decode cX1_settle 19 = .ok (.getfield 74, 3) := by decide +kernel
theorem dX1_settle_22 : decode cX1_settle 22 = .ok (.iconst 1, 1) := by decide +kernel
theorem dX1_settle_23 : decode cX1_settle 23 = .ok (.isub, 1) := by decide +kernel
theorem dX1_settle_24 : decode cX1_settle 24 = .ok (.imul, 1) := by decide +kernel
theorem dX1_settle_25 : decode cX1_settle 25 = .ok (.ishl, 1) := by decide +kernel
theorem dX1_settle_26 : decode cX1_settle 26 = .ok (.istore_n 2, 1) := by decide +kernel
theorem dX1_settle_27 : decode cX1_settle 27 = .ok (.iconst 0, 1) := by decide +kernel
theorem dX1_settle_28 : decode cX1_settle 28 = .ok (.istore_n 3, 1) := by decide +kernel
theorem dX1_settle_29 : decode cX1_settle 29 = .ok (.iload_n 3, 1) := by decide +kernel
theorem dX1_settle_30 : decode cX1_settle 30 = .ok (.iload_n 2, 1) := by decide +kernel
theorem dX1_settle_31 : decode cX1_settle 31 = .ok (.if_icmp .ge 42, 3) := by decide +kernel
theorem dX1_settle_34 : decode cX1_settle 34 = .ok (.aload_n 0, 1) := by decide +kernel
theorem dX1_settle_35 : decode cX1_settle 35 = .ok (.aload_n 1, 1) := by decide +kernel
theorem dX1_settle_36 : decode cX1_settle 36 = .ok (.iload_n 3, 1) := by decide +kernel
theorem dX1_settle_37 : decode cX1_settle 37 = .ok (.invokevirtual 78, 3) := by decide +kernel
theorem dX1_settle_40 : decode cX1_settle 40 = .ok (.aload_n 0, 1) := by decide +kernel
theorem dX1_settle_41 : decode cX1_settle 41 = .ok (.aload_n 1, 1) := by decide +kernel
theorem dX1_settle_42 : decode cX1_settle 42 = .ok (.invokevirtual 82, 3) := by decide +kernel
theorem dX1_settle_45 : decode cX1_settle 45 = .ok (.aload_n 0, 1) := by decide +kernel
theorem dX1_settle_46 : decode cX1_settle 46 = .ok (.aload_n 1, 1) := by decide +kernel
theorem dX1_settle_47 : decode cX1_settle 47 = .ok (.invokevirtual 85, 3) := by decide +kernel
theorem dX1_settle_50 : decode cX1_settle 50 = .ok (.ifCond .eq 17, 3) := by decide +kernel
theorem dX1_settle_53 : decode cX1_settle 53 = .ok (.aload_n 0, 1) := by decide +kernel
theorem dX1_settle_54 : decode cX1_settle 54 = .ok (.aload_n 1, 1) := by decide +kernel
theorem dX1_settle_55 : decode cX1_settle 55 = .ok (.invokevirtual 89, 3) := by decide +kernel
theorem dX1_settle_58 : decode cX1_settle 58 = .ok (.aload_n 0, 1) := by decide +kernel
theorem dX1_settle_59 : decode cX1_settle 59 = .ok (.aload_n 1, 1) := by decide +kernel
theorem dX1_settle_60 : decode cX1_settle 60 = .ok (.invokevirtual 92, 3) := by decide +kernel
theorem dX1_settle_63 : decode cX1_settle 63 = .ok (.ifCond .eq 4, 3) := by decide +kernel
theorem dX1_settle_66 : decode cX1_settle 66 = .ok (.return_, 1) := by decide +kernel
theorem dX1_settle_67 : decode cX1_settle 67 = .ok (.iinc 3 1, 3) := by decide +kernel
theorem dX1_settle_70 : decode cX1_settle 70 = .ok (.goto (-41), 3) := by decide +kernel
theorem dX1_settle_73 : decode cX1_settle 73 = .ok (.return_, 1) := by decide +kernel
set_option maxRecDepth 20000 in
theorem ggX1_boundPlates_X0_leftBoundOf : GoodIn wsX1_boundPlates wsX0_leftBoundOf := goodIn_r _ [16, 17, 18, 19, 15, 20, 21, 27, 28, 29, 30, 31, 32] (by decide +kernel) (by decide +kernel)
set_option maxRecDepth 20000 in
theorem gX1_boundPlates_X0_leftBoundOf : GoodIn wsX1_boundPlates (wsV RX1 95 RX0 yX0_leftBoundOf wsX0_leftBoundOf) := goodIn_app (goodIn_of _ (by decide +kernel)) ggX1_boundPlates_X0_leftBoundOf
set_option maxRecDepth 20000 in
theorem ggX1_boundPlates_X0_rightBoundOf : GoodIn wsX1_boundPlates wsX0_rightBoundOf := goodIn_r _ [25, 26, 17, 18, 19, 15, 20, 21, 27, 28, 29, 30, 31, 32] (by decide +kernel) (by decide +kernel)
set_option maxRecDepth 20000 in
theorem gX1_boundPlates_X0_rightBoundOf : GoodIn wsX1_boundPlates (wsV RX1 105 RX0 yX0_rightBoundOf wsX0_rightBoundOf) := goodIn_app (goodIn_of _ (by decide +kernel)) ggX1_boundPlates_X0_rightBoundOf
theorem dX1_boundPlates_0 : decode cX1_boundPlates 0 = .ok (.iconst 0, 1) := by decide +kernel
theorem dX1_boundPlates_1 : decode cX1_boundPlates 1 = .ok (.istore_n 2, 1) := by decide +kernel
theorem dX1_boundPlates_2 : decode cX1_boundPlates 2 = .ok (.iconst 0, 1) := by decide +kernel
theorem dX1_boundPlates_3 : decode cX1_boundPlates 3 = .ok (.istore_n 3, 1) := by decide +kernel
theorem dX1_boundPlates_4 : decode cX1_boundPlates 4 = .ok (.iload_n 3, 1) := by decide +kernel
theorem dX1_boundPlates_5 : decode cX1_boundPlates 5 = .ok (.aload_n 1, 1) := by decide +kernel
theorem dX1_boundPlates_6 : decode cX1_boundPlates 6 = .ok (.getfield 74, 3) := by decide +kernel
theorem dX1_boundPlates_9 : decode cX1_boundPlates 9 = .ok (.if_icmp .ge 26, 3) := by decide +kernel
theorem dX1_boundPlates_12 : decode cX1_boundPlates 12 = .ok (.iload_n 2, 1) := by decide +kernel
theorem dX1_boundPlates_13 : decode cX1_boundPlates 13 = .ok (.aload_n 1, 1) := by decide +kernel
theorem dX1_boundPlates_14 : decode cX1_boundPlates 14 = .ok (.iload_n 3, 1) := by decide +kernel
theorem dX1_boundPlates_15 : decode cX1_boundPlates 15 = .ok (.invokevirtual 95, 3) := by decide +kernel
theorem dX1_boundPlates_18 : decode cX1_boundPlates 18 = .ok (.invokestatic 99, 3) := by decide +kernel
theorem dX1_boundPlates_21 : decode cX1_boundPlates 21 = .ok (.istore_n 2, 1) := by decide +kernel
theorem dX1_boundPlates_22 : decode cX1_boundPlates 22 = .ok (.aload_n 0, 1) := by decide +kernel
theorem dX1_boundPlates_23 : decode cX1_boundPlates 23 = .ok (.getfield 19, 3) := by decide +kernel
theorem dX1_boundPlates_26 : decode cX1_boundPlates 26 = .ok (.iload_n 3, 1) := by decide +kernel
theorem dX1_boundPlates_27 : decode cX1_boundPlates 27 = .ok (.iload_n 2, 1) := by decide +kernel
theorem dX1_boundPlates_28 : decode cX1_boundPlates 28 = .ok (.iastore, 1) := by decide +kernel
theorem dX1_boundPlates_29 : decode cX1_boundPlates 29 = .ok (.iinc 3 1, 3) := by decide +kernel
theorem dX1_boundPlates_32 : decode cX1_boundPlates 32 = .ok (.goto (-28), 3) := by decide +kernel
theorem dX1_boundPlates_35 : decode cX1_boundPlates 35 = .ok (.aload_n 1, 1) := by decide +kernel
theorem dX1_boundPlates_36 : decode cX1_boundPlates 36 = .ok (.getfield 102, 3) := by decide +kernel
theorem dX1_boundPlates_39 : decode cX1_boundPlates 39 = .ok (.istore_n 2, 1) := by decide +kernel
theorem dX1_boundPlates_40 : decode cX1_boundPlates 40 = .ok (.aload_n 1, 1) := by decide +kernel
theorem dX1_boundPlates_41 : decode cX1_boundPlates 41 = .ok (.getfield 74, 3) := by decide +kernel
theorem dX1_boundPlates_44 : decode cX1_boundPlates 44 = .ok (.iconst 1, 1) := by decide +kernel
theorem dX1_boundPlates_45 : decode cX1_boundPlates 45 = .ok (.isub, 1) := by decide +kernel
theorem dX1_boundPlates_46 : decode cX1_boundPlates 46 = .ok (.istore_n 3, 1) := by decide +kernel
theorem dX1_boundPlates_47 : decode cX1_boundPlates 47 = .ok (.iload_n 3, 1) := by decide +kernel
theorem dX1_boundPlates_48 : decode cX1_boundPlates 48 = .ok (.ifCond .lt 26, 3) := by decide +kernel
theorem dX1_boundPlates_51 : decode cX1_boundPlates 51 = .ok (.iload_n 2, 1) := by decide +kernel
theorem dX1_boundPlates_52 : decode cX1_boundPlates 52 = .ok (.aload_n 1, 1) := by decide +kernel
theorem dX1_boundPlates_53 : decode cX1_boundPlates 53 = .ok (.iload_n 3, 1) := by decide +kernel
theorem dX1_boundPlates_54 : decode cX1_boundPlates 54 = .ok (.invokevirtual 105, 3) := by decide +kernel
theorem dX1_boundPlates_57 : decode cX1_boundPlates 57 = .ok (.invokestatic 108, 3) := by decide +kernel
theorem dX1_boundPlates_60 : decode cX1_boundPlates 60 = .ok (.istore_n 2, 1) := by decide +kernel
theorem dX1_boundPlates_61 : decode cX1_boundPlates 61 = .ok (.aload_n 0, 1) := by decide +kernel
theorem dX1_boundPlates_62 : decode cX1_boundPlates 62 = .ok (.getfield 23, 3) := by decide +kernel
theorem dX1_boundPlates_65 : decode cX1_boundPlates 65 = .ok (.iload_n 3, 1) := by decide +kernel
theorem dX1_boundPlates_66 : decode cX1_boundPlates 66 = .ok (.iload_n 2, 1) := by decide +kernel
theorem dX1_boundPlates_67 : decode cX1_boundPlates 67 = .ok (.iastore, 1) := by decide +kernel
theorem dX1_boundPlates_68 : decode cX1_boundPlates 68 = .ok (.iinc 3 (-1), 3) := by decide +kernel
theorem dX1_boundPlates_71 : decode cX1_boundPlates 71 = .ok (.goto (-24), 3) := by decide +kernel
theorem dX1_boundPlates_74 : decode cX1_boundPlates 74 = .ok (.return_, 1) := by decide +kernel
theorem dX1_takeGuess_0 : decode cX1_takeGuess 0 = .ok (.iconst 0, 1) := by decide +kernel
theorem dX1_takeGuess_1 : decode cX1_takeGuess 1 = .ok (.istore_n 3, 1) := by decide +kernel
theorem dX1_takeGuess_2 : decode cX1_takeGuess 2 = .ok (.iload_n 3, 1) := by decide +kernel
theorem dX1_takeGuess_3 : decode cX1_takeGuess 3 = .ok (.aload_n 1, 1) := by decide +kernel
theorem dX1_takeGuess_4 : decode cX1_takeGuess 4 = .ok (.getfield 74, 3) := by decide +kernel
theorem dX1_takeGuess_7 : decode cX1_takeGuess 7 = .ok (.if_icmp .ge 22, 3) := by decide +kernel
theorem dX1_takeGuess_10 : decode cX1_takeGuess 10 = .ok (.aload_n 0, 1) := by decide +kernel
theorem dX1_takeGuess_11 : decode cX1_takeGuess 11 = .ok (.getfield 26, 3) := by decide +kernel
theorem dX1_takeGuess_14 : decode cX1_takeGuess 14 = .ok (.iload_n 3, 1) := by decide +kernel
theorem dX1_takeGuess_15 : decode cX1_takeGuess 15 = .ok (.iload_n 2, 1) := by decide +kernel
theorem dX1_takeGuess_16 : decode cX1_takeGuess 16 = .ok (.iconst 2, 1) := by decide +kernel
theorem dX1_takeGuess_17 : decode cX1_takeGuess 17 = .ok (.iload_n 3, 1) := by decide +kernel
theorem dX1_takeGuess_18 : decode cX1_takeGuess 18 = .ok (.imul, 1) := by decide +kernel
theorem dX1_takeGuess_19 : decode cX1_takeGuess 19 = .ok (.ishr, 1) := by decide +kernel
theorem dX1_takeGuess_20 : decode cX1_takeGuess 20 = .ok (.iconst 3, 1) := by decide +kernel
theorem dX1_takeGuess_21 : decode cX1_takeGuess 21 = .ok (.iand, 1) := by decide +kernel
theorem dX1_takeGuess_22 : decode cX1_takeGuess 22 = .ok (.iastore, 1) := by decide +kernel
theorem dX1_takeGuess_23 : decode cX1_takeGuess 23 = .ok (.iinc 3 1, 3) := by decide +kernel
theorem dX1_takeGuess_26 : decode cX1_takeGuess 26 = .ok (.goto (-24), 3) := by decide +kernel
theorem dX1_takeGuess_29 : decode cX1_takeGuess 29 = .ok (.return_, 1) := by decide +kernel
set_option maxRecDepth 20000 in
theorem ggX1_expressPlaces_X1_putPlate : GoodIn wsX1_expressPlaces wsX1_putPlate := goodIn_r _ [11, 12, 13, 14, 27, 28, 29, 30, 31, 32, 33, 34, 35, 36] (by decide +kernel) (by decide +kernel)
set_option maxRecDepth 20000 in
theorem gX1_expressPlaces_X1_putPlate : GoodIn wsX1_expressPlaces (wsV RX1 111 RX1 yX1_putPlate wsX1_putPlate) := goodIn_app (goodIn_of _ (by decide +kernel)) ggX1_expressPlaces_X1_putPlate
set_option maxRecDepth 20000 in
theorem ggX1_expressPlaces_X0_sumOfLoads : GoodIn wsX1_expressPlaces wsX0_sumOfLoads := goodIn_r _ [19, 20, 21, 22, 23, 24, 25, 26] (by decide +kernel) (by decide +kernel)
set_option maxRecDepth 20000 in
theorem gX1_expressPlaces_X0_sumOfLoads : GoodIn wsX1_expressPlaces (wsV RX1 58 RX0 yX0_sumOfLoads wsX0_sumOfLoads) := goodIn_app (goodIn_of _ (by decide +kernel)) ggX1_expressPlaces_X0_sumOfLoads
theorem dX1_expressPlaces_0 : decode cX1_expressPlaces 0 = .ok (.iconst 0, 1) := by decide +kernel
theorem dX1_expressPlaces_1 : decode cX1_expressPlaces 1 = .ok (.istore_n 2, 1) := by decide +kernel
theorem dX1_expressPlaces_2 : decode cX1_expressPlaces 2 = .ok (.lconst 0, 1) := by decide +kernel
theorem dX1_expressPlaces_3 : decode cX1_expressPlaces 3 = .ok (.lstore_n 3, 1) := by decide +kernel
theorem dX1_expressPlaces_4 : decode cX1_expressPlaces 4 = .ok (.lconst 0, 1) := by decide +kernel
theorem dX1_expressPlaces_5 : decode cX1_expressPlaces 5 = .ok (.lstore 5, 2) := by decide +kernel
theorem dX1_expressPlaces_7 : decode cX1_expressPlaces 7 = .ok (.lconst 1, 1) := by decide +kernel
theorem dX1_expressPlaces_8 : decode cX1_expressPlaces 8 = .ok (.lstore 7, 2) := by decide +kernel
theorem dX1_expressPlaces_10 : decode cX1_expressPlaces 10 = .ok (.iconst 0, 1) := by decide +kernel
theorem dX1_expressPlaces_11 : decode cX1_expressPlaces 11 = .ok (.istore 9, 2) := by decide +kernel
theorem dX1_expressPlaces_13 : decode cX1_expressPlaces 13 = .ok (.iload 9, 2) := by decide +kernel
theorem dX1_expressPlaces_15 : decode cX1_expressPlaces 15 = .ok (.aload_n 1, 1) := by decide +kernel
theorem dX1_expressPlaces_16 : decode cX1_expressPlaces 16 = .ok (.getfield 74, 3) := by decide +kernel
theorem dX1_expressPlaces_19 : decode cX1_expressPlaces 19 = .ok (.if_icmp .ge 191, 3) := by decide +kernel
theorem dX1_expressPlaces_22 : decode cX1_expressPlaces 22 = .ok (.aload_n 0, 1) := by decide +kernel
theorem dX1_expressPlaces_23 : decode cX1_expressPlaces 23 = .ok (.getfield 26, 3) := by decide +kernel
theorem dX1_expressPlaces_26 : decode cX1_expressPlaces 26 = .ok (.iload 9, 2) := by decide +kernel
theorem dX1_expressPlaces_28 : decode cX1_expressPlaces 28 = .ok (.iaload, 1) := by decide +kernel
theorem dX1_expressPlaces_29 : decode cX1_expressPlaces 29 = .ok (.iconst 3, 1) := by decide +kernel
theorem dX1_expressPlaces_30 : decode cX1_expressPlaces 30 = .ok (.if_icmp .ne 15, 3) := by decide +kernel
theorem dX1_expressPlaces_33 : decode cX1_expressPlaces 33 = .ok (.aload_n 0, 1) := by decide +kernel
theorem dX1_expressPlaces_34 : decode cX1_expressPlaces 34 = .ok (.iload 9, 2) := by decide +kernel
theorem dX1_expressPlaces_36 : decode cX1_expressPlaces 36 = .ok (.lconst 0, 1) := by decide +kernel
theorem dX1_expressPlaces_37 : decode cX1_expressPlaces 37 = .ok (.lconst 1, 1) := by decide +kernel
theorem dX1_expressPlaces_38 : decode cX1_expressPlaces 38 = .ok (.lconst 1, 1) := by decide +kernel
theorem dX1_expressPlaces_39 : decode cX1_expressPlaces 39 = .ok (.invokevirtual 111, 3) := by decide +kernel
theorem dX1_expressPlaces_42 : decode cX1_expressPlaces 42 = .ok (.goto 162, 3) := by decide +kernel
theorem dX1_expressPlaces_45 : decode cX1_expressPlaces 45 = .ok (.aload_n 0, 1) := by decide +kernel
theorem dX1_expressPlaces_46 : decode cX1_expressPlaces 46 = .ok (.getfield 26, 3) := by decide +kernel
theorem dX1_expressPlaces_49 : decode cX1_expressPlaces 49 = .ok (.iload 9, 2) := by decide +kernel
theorem dX1_expressPlaces_51 : decode cX1_expressPlaces 51 = .ok (.iaload, 1) := by decide +kernel
theorem dX1_expressPlaces_52 : decode cX1_expressPlaces 52 = .ok (.ifCond .ne 100, 3) := by decide +kernel
theorem dX1_expressPlaces_55 : decode cX1_expressPlaces 55 = .ok (.aload_n 1, 1) := by decide +kernel
theorem dX1_expressPlaces_56 : decode cX1_expressPlaces 56 = .ok (.getfield 50, 3) := by decide +kernel
theorem dX1_expressPlaces_59 : decode cX1_expressPlaces 59 = .ok (.iload_n 2, 1) := by decide +kernel
theorem dX1_expressPlaces_60 : decode cX1_expressPlaces 60 = .ok (.iaload, 1) := by decide +kernel
theorem dX1_expressPlaces_61 : decode cX1_expressPlaces 61 = .ok (.i2l, 1) := by decide +kernel
theorem dX1_expressPlaces_62 : decode cX1_expressPlaces 62 = .ok (.lstore 10, 2) := by decide +kernel
theorem dX1_expressPlaces_64 : decode cX1_expressPlaces 64 = .ok (.aload_n 1, 1) := by decide +kernel
theorem dX1_expressPlaces_65 : decode cX1_expressPlaces 65 = .ok (.getfield 50, 3) := by decide +kernel
theorem dX1_expressPlaces_68 : decode cX1_expressPlaces 68 = .ok (.iload 9, 2) := by decide +kernel
theorem dX1_expressPlaces_70 : decode cX1_expressPlaces 70 = .ok (.iconst 1, 1) := by decide +kernel
theorem dX1_expressPlaces_71 : decode cX1_expressPlaces 71 = .ok (.iadd, 1) := by decide +kernel
theorem dX1_expressPlaces_72 : decode cX1_expressPlaces 72 = .ok (.iaload, 1) := by decide +kernel
theorem dX1_expressPlaces_73 : decode cX1_expressPlaces 73 = .ok (.i2l, 1) := by decide +kernel
theorem dX1_expressPlaces_74 : decode cX1_expressPlaces 74 = .ok (.lstore 12, 2) := by decide +kernel
theorem dX1_expressPlaces_76 : decode cX1_expressPlaces 76 = .ok (.aload_n 1, 1) := by decide +kernel
theorem dX1_expressPlaces_77 : decode cX1_expressPlaces 77 = .ok (.iload_n 2, 1) := by decide +kernel
theorem dX1_expressPlaces_78 : decode cX1_expressPlaces 78 = .ok (.iload 9, 2) := by decide +kernel
theorem dX1_expressPlaces_80 : decode cX1_expressPlaces 80 = .ok (.invokevirtual 58, 3) := by decide +kernel
theorem dX1_expressPlaces_83 : decode cX1_expressPlaces 83 = .ok (.i2l, 1) := by decide +kernel
theorem dX1_expressPlaces_84 : decode cX1_expressPlaces 84 = .ok (.lload 10, 2) := by decide +kernel
theorem dX1_expressPlaces_86 : decode cX1_expressPlaces 86 = .ok (.aload_n 1, 1) := by decide +kernel
theorem dX1_expressPlaces_87 : decode cX1_expressPlaces 87 = .ok (.getfield 55, 3) := by decide +kernel
theorem dX1_expressPlaces_90 : decode cX1_expressPlaces 90 = .ok (.iload_n 2, 1) := by decide +kernel
theorem dX1_expressPlaces_91 : decode cX1_expressPlaces 91 = .ok (.iaload, 1) := by decide +kernel
theorem dX1_expressPlaces_92 : decode cX1_expressPlaces 92 = .ok (.i2l, 1) := by decide +kernel
theorem dX1_expressPlaces_93 : decode cX1_expressPlaces 93 = .ok (.lmul, 1) := by decide +kernel
theorem dX1_expressPlaces_94 : decode cX1_expressPlaces 94 = .ok (.ladd, 1) := by decide +kernel
theorem dX1_expressPlaces_95 : decode cX1_expressPlaces 95 = .ok (.lload 12, 2) := by decide +kernel
theorem dX1_expressPlaces_97 : decode cX1_expressPlaces 97 = .ok (.aload_n 1, 1) := by decide +kernel
theorem dX1_expressPlaces_98 : decode cX1_expressPlaces 98 = .ok (.getfield 55, 3) := by decide +kernel
theorem dX1_expressPlaces_101 : decode cX1_expressPlaces 101 = .ok (.iload 9, 2) := by decide +kernel
theorem dX1_expressPlaces_103 : decode cX1_expressPlaces 103 = .ok (.iconst 1, 1) := by decide +kernel
theorem dX1_expressPlaces_104 : decode cX1_expressPlaces 104 = .ok (.iadd, 1) := by decide +kernel
theorem dX1_expressPlaces_105 : decode cX1_expressPlaces 105 = .ok (.iaload, 1) := by decide +kernel
theorem dX1_expressPlaces_106 : decode cX1_expressPlaces 106 = .ok (.i2l, 1) := by decide +kernel
theorem dX1_expressPlaces_107 : decode cX1_expressPlaces 107 = .ok (.lmul, 1) := by decide +kernel
theorem dX1_expressPlaces_108 : decode cX1_expressPlaces 108 = .ok (.lsub, 1) := by decide +kernel
theorem dX1_expressPlaces_109 : decode cX1_expressPlaces 109 = .ok (.lstore 14, 2) := by decide +kernel
theorem dX1_expressPlaces_111 : decode cX1_expressPlaces 111 = .ok (.lload 7, 2) := by decide +kernel
theorem dX1_expressPlaces_113 : decode cX1_expressPlaces 113 = .ok (.lload 14, 2) := by decide +kernel
theorem dX1_expressPlaces_115 : decode cX1_expressPlaces 115 = .ok (.lmul, 1) := by decide +kernel
theorem dX1_expressPlaces_116 : decode cX1_expressPlaces 116 = .ok (.lload 10, 2) := by decide +kernel
theorem dX1_expressPlaces_118 : decode cX1_expressPlaces 118 = .ok (.lload_n 3, 1) := by decide +kernel
theorem dX1_expressPlaces_119 : decode cX1_expressPlaces 119 = .ok (.lmul, 1) := by decide +kernel
theorem dX1_expressPlaces_120 : decode cX1_expressPlaces 120 = .ok (.ladd, 1) := by decide +kernel
theorem dX1_expressPlaces_121 : decode cX1_expressPlaces 121 = .ok (.lstore_n 3, 1) := by decide +kernel
theorem dX1_expressPlaces_122 : decode cX1_expressPlaces 122 = .ok (.lload 12, 2) := by decide +kernel
theorem dX1_expressPlaces_124 : decode cX1_expressPlaces 124 = .ok (.lload 7, 2) := by decide +kernel
theorem dX1_expressPlaces_126 : decode cX1_expressPlaces 126 = .ok (.lmul, 1) := by decide +kernel
theorem dX1_expressPlaces_127 : decode cX1_expressPlaces 127 = .ok (.lstore 16, 2) := by decide +kernel
theorem dX1_expressPlaces_129 : decode cX1_expressPlaces 129 = .ok (.lload 10, 2) := by decide +kernel
theorem dX1_expressPlaces_131 : decode cX1_expressPlaces 131 = .ok (.lload 12, 2) := by decide +kernel
theorem dX1_expressPlaces_133 : decode cX1_expressPlaces 133 = .ok (.ladd, 1) := by decide +kernel
theorem dX1_expressPlaces_134 : decode cX1_expressPlaces 134 = .ok (.lload 7, 2) := by decide +kernel
theorem dX1_expressPlaces_136 : decode cX1_expressPlaces 136 = .ok (.lmul, 1) := by decide +kernel
theorem dX1_expressPlaces_137 : decode cX1_expressPlaces 137 = .ok (.lload 10, 2) := by decide +kernel
theorem dX1_expressPlaces_139 : decode cX1_expressPlaces 139 = .ok (.lload 5, 2) := by decide +kernel
theorem dX1_expressPlaces_141 : decode cX1_expressPlaces 141 = .ok (.lmul, 1) := by decide +kernel
theorem dX1_expressPlaces_142 : decode cX1_expressPlaces 142 = .ok (.lsub, 1) := by decide +kernel
theorem dX1_expressPlaces_143 : decode cX1_expressPlaces 143 = .ok (.lstore 7, 2) := by decide +kernel
theorem dX1_expressPlaces_145 : decode cX1_expressPlaces 145 = .ok (.lload 16, 2) := by decide +kernel
theorem dX1_expressPlaces_147 : decode cX1_expressPlaces 147 = .ok (.lstore 5, 2) := by decide +kernel
theorem dX1_expressPlaces_149 : decode cX1_expressPlaces 149 = .ok (.goto 39, 3) := by decide +kernel
theorem dX1_expressPlaces_152 : decode cX1_expressPlaces 152 = .ok (.aload_n 0, 1) := by decide +kernel
theorem dX1_expressPlaces_153 : decode cX1_expressPlaces 153 = .ok (.getfield 26, 3) := by decide +kernel
theorem dX1_expressPlaces_156 : decode cX1_expressPlaces 156 = .ok (.iload 9, 2) := by decide +kernel
theorem dX1_expressPlaces_158 : decode cX1_expressPlaces 158 = .ok (.iaload, 1) := by decide +kernel
theorem dX1_expressPlaces_159 : decode cX1_expressPlaces 159 = .ok (.iconst 1, 1) := by decide +kernel
theorem dX1_expressPlaces_160 : decode cX1_expressPlaces 160 = .ok (.if_icmp .ne 14, 3) := by decide +kernel
theorem dX1_expressPlaces_163 : decode cX1_expressPlaces 163 = .ok (.aload_n 0, 1) := by decide +kernel
theorem dX1_expressPlaces_164 : decode cX1_expressPlaces 164 = .ok (.getfield 19, 3) := by decide +kernel
theorem dX1_expressPlaces_167 : decode cX1_expressPlaces 167 = .ok (.iload 9, 2) := by decide +kernel
theorem dX1_expressPlaces_169 : decode cX1_expressPlaces 169 = .ok (.iaload, 1) := by decide +kernel
theorem dX1_expressPlaces_170 : decode cX1_expressPlaces 170 = .ok (.i2l, 1) := by decide +kernel
theorem dX1_expressPlaces_171 : decode cX1_expressPlaces 171 = .ok (.goto 10, 3) := by decide +kernel
theorem dX1_expressPlaces_174 : decode cX1_expressPlaces 174 = .ok (.aload_n 0, 1) := by decide +kernel
theorem dX1_expressPlaces_175 : decode cX1_expressPlaces 175 = .ok (.getfield 23, 3) := by decide +kernel
theorem dX1_expressPlaces_178 : decode cX1_expressPlaces 178 = .ok (.iload_n 2, 1) := by decide +kernel
theorem dX1_expressPlaces_179 : decode cX1_expressPlaces 179 = .ok (.iaload, 1) := by decide +kernel
theorem dX1_expressPlaces_180 : decode cX1_expressPlaces 180 = .ok (.i2l, 1) := by decide +kernel
theorem dX1_expressPlaces_181 : decode cX1_expressPlaces 181 = .ok (.lstore_n 3, 1) := by decide +kernel
theorem dX1_expressPlaces_182 : decode cX1_expressPlaces 182 = .ok (.lconst 0, 1) := by decide +kernel
theorem dX1_expressPlaces_183 : decode cX1_expressPlaces 183 = .ok (.lstore 5, 2) := by decide +kernel
theorem dX1_expressPlaces_185 : decode cX1_expressPlaces 185 = .ok (.lconst 1, 1) := by decide +kernel
theorem dX1_expressPlaces_186 : decode cX1_expressPlaces 186 = .ok (.lstore 7, 2) := by decide +kernel
theorem dX1_expressPlaces_188 : decode cX1_expressPlaces 188 = .ok (.aload_n 0, 1) := by decide +kernel
theorem dX1_expressPlaces_189 : decode cX1_expressPlaces 189 = .ok (.iload 9, 2) := by decide +kernel
theorem dX1_expressPlaces_191 : decode cX1_expressPlaces 191 = .ok (.lload_n 3, 1) := by decide +kernel
theorem dX1_expressPlaces_192 : decode cX1_expressPlaces 192 = .ok (.lload 5, 2) := by decide +kernel
theorem dX1_expressPlaces_194 : decode cX1_expressPlaces 194 = .ok (.lload 7, 2) := by decide +kernel
theorem dX1_expressPlaces_196 : decode cX1_expressPlaces 196 = .ok (.invokevirtual 111, 3) := by decide +kernel
theorem dX1_expressPlaces_199 : decode cX1_expressPlaces 199 = .ok (.iload 9, 2) := by decide +kernel
theorem dX1_expressPlaces_201 : decode cX1_expressPlaces 201 = .ok (.iconst 1, 1) := by decide +kernel
theorem dX1_expressPlaces_202 : decode cX1_expressPlaces 202 = .ok (.iadd, 1) := by decide +kernel
theorem dX1_expressPlaces_203 : decode cX1_expressPlaces 203 = .ok (.istore_n 2, 1) := by decide +kernel
theorem dX1_expressPlaces_204 : decode cX1_expressPlaces 204 = .ok (.iinc 9 1, 3) := by decide +kernel
theorem dX1_expressPlaces_207 : decode cX1_expressPlaces 207 = .ok (.goto (-194), 3) := by decide +kernel
theorem dX1_expressPlaces_210 : decode cX1_expressPlaces 210 = .ok (.return_, 1) := by decide +kernel
theorem dX1_putPlate_0 : decode cX1_putPlate 0 = .ok (.aload_n 0, 1) := by decide +kernel
theorem dX1_putPlate_1 : decode cX1_putPlate 1 = .ok (.getfield 29, 3) := by decide +kernel
theorem dX1_putPlate_4 : decode cX1_putPlate 4 = .ok (.iload_n 1, 1) := by decide +kernel
theorem dX1_putPlate_5 : decode cX1_putPlate 5 = .ok (.lload_n 2, 1) := by decide +kernel
theorem dX1_putPlate_6 : decode cX1_putPlate 6 = .ok (.lastore, 1) := by decide +kernel
theorem dX1_putPlate_7 : decode cX1_putPlate 7 = .ok (.aload_n 0, 1) := by decide +kernel
theorem dX1_putPlate_8 : decode cX1_putPlate 8 = .ok (.getfield 32, 3) := by decide +kernel
theorem dX1_putPlate_11 : decode cX1_putPlate 11 = .ok (.iload_n 1, 1) := by decide +kernel
theorem dX1_putPlate_12 : decode cX1_putPlate 12 = .ok (.lload 4, 2) := by decide +kernel
theorem dX1_putPlate_14 : decode cX1_putPlate 14 = .ok (.lastore, 1) := by decide +kernel
theorem dX1_putPlate_15 : decode cX1_putPlate 15 = .ok (.aload_n 0, 1) := by decide +kernel
theorem dX1_putPlate_16 : decode cX1_putPlate 16 = .ok (.getfield 35, 3) := by decide +kernel
theorem dX1_putPlate_19 : decode cX1_putPlate 19 = .ok (.iload_n 1, 1) := by decide +kernel
theorem dX1_putPlate_20 : decode cX1_putPlate 20 = .ok (.lload 6, 2) := by decide +kernel
theorem dX1_putPlate_22 : decode cX1_putPlate 22 = .ok (.lastore, 1) := by decide +kernel
theorem dX1_putPlate_23 : decode cX1_putPlate 23 = .ok (.return_, 1) := by decide +kernel
set_option maxRecDepth 20000 in
theorem ggX1_findPlaces_X3_greatestDivisor : GoodIn wsX1_findPlaces wsX3_greatestDivisor := goodIn_r _ [12, 13, 14, 15, 16] (by decide +kernel) (by decide +kernel)
set_option maxRecDepth 20000 in
theorem gX1_findPlaces_X3_greatestDivisor_n115 : GoodIn wsX1_findPlaces (wsX3_greatestDivisor) := ggX1_findPlaces_X3_greatestDivisor
theorem dX1_findPlaces_0 : decode cX1_findPlaces 0 = .ok (.aload_n 1, 1) := by decide +kernel
theorem dX1_findPlaces_1 : decode cX1_findPlaces 1 = .ok (.getfield 102, 3) := by decide +kernel
theorem dX1_findPlaces_4 : decode cX1_findPlaces 4 = .ok (.i2l, 1) := by decide +kernel
theorem dX1_findPlaces_5 : decode cX1_findPlaces 5 = .ok (.lstore_n 2, 1) := by decide +kernel
theorem dX1_findPlaces_6 : decode cX1_findPlaces 6 = .ok (.lconst 1, 1) := by decide +kernel
theorem dX1_findPlaces_7 : decode cX1_findPlaces 7 = .ok (.lstore 4, 2) := by decide +kernel
theorem dX1_findPlaces_9 : decode cX1_findPlaces 9 = .ok (.aload_n 1, 1) := by decide +kernel
theorem dX1_findPlaces_10 : decode cX1_findPlaces 10 = .ok (.getfield 74, 3) := by decide +kernel
theorem dX1_findPlaces_13 : decode cX1_findPlaces 13 = .ok (.iconst 1, 1) := by decide +kernel
theorem dX1_findPlaces_14 : decode cX1_findPlaces 14 = .ok (.isub, 1) := by decide +kernel
theorem dX1_findPlaces_15 : decode cX1_findPlaces 15 = .ok (.istore 6, 2) := by decide +kernel
theorem dX1_findPlaces_17 : decode cX1_findPlaces 17 = .ok (.iload 6, 2) := by decide +kernel
theorem dX1_findPlaces_19 : decode cX1_findPlaces 19 = .ok (.ifCond .lt 147, 3) := by decide +kernel
theorem dX1_findPlaces_22 : decode cX1_findPlaces 22 = .ok (.aload_n 0, 1) := by decide +kernel
theorem dX1_findPlaces_23 : decode cX1_findPlaces 23 = .ok (.getfield 29, 3) := by decide +kernel
theorem dX1_findPlaces_26 : decode cX1_findPlaces 26 = .ok (.iload 6, 2) := by decide +kernel
theorem dX1_findPlaces_28 : decode cX1_findPlaces 28 = .ok (.laload, 1) := by decide +kernel
theorem dX1_findPlaces_29 : decode cX1_findPlaces 29 = .ok (.lload 4, 2) := by decide +kernel
theorem dX1_findPlaces_31 : decode cX1_findPlaces 31 = .ok (.lmul, 1) := by decide +kernel
theorem dX1_findPlaces_32 : decode cX1_findPlaces 32 = .ok (.aload_n 0, 1) := by decide +kernel
theorem dX1_findPlaces_33 : decode cX1_findPlaces 33 = .ok (.getfield 32, 3) := by decide +kernel
theorem dX1_findPlaces_36 : decode cX1_findPlaces 36 = .ok (.iload 6, 2) := by decide +kernel
theorem dX1_findPlaces_38 : decode cX1_findPlaces 38 = .ok (.laload, 1) := by decide +kernel
theorem dX1_findPlaces_39 : decode cX1_findPlaces 39 = .ok (.lload_n 2, 1) := by decide +kernel
theorem dX1_findPlaces_40 : decode cX1_findPlaces 40 = .ok (.lmul, 1) := by decide +kernel
theorem dX1_findPlaces_41 : decode cX1_findPlaces 41 = .ok (.ladd, 1) := by decide +kernel
theorem dX1_findPlaces_42 : decode cX1_findPlaces 42 = .ok (.lstore 7, 2) := by decide +kernel
theorem dX1_findPlaces_44 : decode cX1_findPlaces 44 = .ok (.aload_n 0, 1) := by decide +kernel
theorem dX1_findPlaces_45 : decode cX1_findPlaces 45 = .ok (.getfield 35, 3) := by decide +kernel
theorem dX1_findPlaces_48 : decode cX1_findPlaces 48 = .ok (.iload 6, 2) := by decide +kernel
theorem dX1_findPlaces_50 : decode cX1_findPlaces 50 = .ok (.laload, 1) := by decide +kernel
theorem dX1_findPlaces_51 : decode cX1_findPlaces 51 = .ok (.lload 4, 2) := by decide +kernel
theorem dX1_findPlaces_53 : decode cX1_findPlaces 53 = .ok (.lmul, 1) := by decide +kernel
theorem dX1_findPlaces_54 : decode cX1_findPlaces 54 = .ok (.lstore 9, 2) := by decide +kernel
theorem dX1_findPlaces_56 : decode cX1_findPlaces 56 = .ok (.lload 7, 2) := by decide +kernel
theorem dX1_findPlaces_58 : decode cX1_findPlaces 58 = .ok (.lload 9, 2) := by decide +kernel
theorem dX1_findPlaces_60 : decode cX1_findPlaces 60 = .ok (.invokestatic 115, 3) := by decide +kernel
theorem dX1_findPlaces_63 : decode cX1_findPlaces 63 = .ok (.lstore 11, 2) := by decide +kernel
theorem dX1_findPlaces_65 : decode cX1_findPlaces 65 = .ok (.lload 11, 2) := by decide +kernel
theorem dX1_findPlaces_67 : decode cX1_findPlaces 67 = .ok (.lconst 1, 1) := by decide +kernel
theorem dX1_findPlaces_68 : decode cX1_findPlaces 68 = .ok (.lcmp, 1) := by decide +kernel
theorem dX1_findPlaces_69 : decode cX1_findPlaces 69 = .ok (.ifCond .le 17, 3) := by decide +kernel
theorem dX1_findPlaces_72 : decode cX1_findPlaces 72 = .ok (.lload 7, 2) := by decide +kernel
theorem dX1_findPlaces_74 : decode cX1_findPlaces 74 = .ok (.lload 11, 2) := by decide +kernel
theorem dX1_findPlaces_76 : decode cX1_findPlaces 76 = .ok (.ldiv, 1) := by decide +kernel
theorem dX1_findPlaces_77 : decode cX1_findPlaces 77 = .ok (.lstore 7, 2) := by decide +kernel
theorem dX1_findPlaces_79 : decode cX1_findPlaces 79 = .ok (.lload 9, 2) := by decide +kernel
theorem dX1_findPlaces_81 : decode cX1_findPlaces 81 = .ok (.lload 11, 2) := by decide +kernel
theorem dX1_findPlaces_83 : decode cX1_findPlaces 83 = .ok (.ldiv, 1) := by decide +kernel
theorem dX1_findPlaces_84 : decode cX1_findPlaces 84 = .ok (.lstore 9, 2) := by decide +kernel
theorem dX1_findPlaces_86 : decode cX1_findPlaces 86 = .ok (.lload 7, 2) := by decide +kernel
theorem dX1_findPlaces_88 : decode cX1_findPlaces 88 = .ok (.aload_n 0, 1) := by decide +kernel
theorem dX1_findPlaces_89 : decode cX1_findPlaces 89 = .ok (.getfield 19, 3) := by decide +kernel
theorem dX1_findPlaces_92 : decode cX1_findPlaces 92 = .ok (.iload 6, 2) := by decide +kernel
theorem dX1_findPlaces_94 : decode cX1_findPlaces 94 = .ok (.iaload, 1) := by decide +kernel
theorem dX1_findPlaces_95 : decode cX1_findPlaces 95 = .ok (.i2l, 1) := by decide +kernel
theorem dX1_findPlaces_96 : decode cX1_findPlaces 96 = .ok (.lload 9, 2) := by decide +kernel
theorem dX1_findPlaces_98 : decode cX1_findPlaces 98 = .ok (.lmul, 1) := by decide +kernel
theorem dX1_findPlaces_99 : decode cX1_findPlaces 99 = .ok (.lcmp, 1) := by decide +kernel
theorem dX1_findPlaces_100 : decode cX1_findPlaces 100 = .ok (.ifCond .lt 33, 3) := by decide +kernel
theorem dX1_findPlaces_103 : decode cX1_findPlaces 103 = .ok (.lload 7, 2) := by decide +kernel
theorem dX1_findPlaces_105 : decode cX1_findPlaces 105 = .ok (.aload_n 0, 1) := by decide +kernel
theorem dX1_findPlaces_106 : decode cX1_findPlaces 106 = .ok (.getfield 23, 3) := by decide +kernel
theorem dX1_findPlaces_109 : decode cX1_findPlaces 109 = .ok (.iload 6, 2) := by decide +kernel
theorem dX1_findPlaces_111 : decode cX1_findPlaces 111 = .ok (.iaload, 1) := by decide +kernel
theorem dX1_findPlaces_112 : decode cX1_findPlaces 112 = .ok (.i2l, 1) := by decide +kernel
theorem dX1_findPlaces_113 : decode cX1_findPlaces 113 = .ok (.lload 9, 2) := by decide +kernel
theorem dX1_findPlaces_115 : decode cX1_findPlaces 115 = .ok (.lmul, 1) := by decide +kernel
theorem dX1_findPlaces_116 : decode cX1_findPlaces 116 = .ok (.lcmp, 1) := by decide +kernel
theorem dX1_findPlaces_117 : decode cX1_findPlaces 117 = .ok (.ifCond .gt 16, 3) := by decide +kernel
theorem dX1_findPlaces_120 : decode cX1_findPlaces 120 = .ok (.lload 7, 2) := by decide +kernel
theorem dX1_findPlaces_122 : decode cX1_findPlaces 122 = .ok (.lload 4, 2) := by decide +kernel
theorem dX1_findPlaces_124 : decode cX1_findPlaces 124 = .ok (.lmul, 1) := by decide +kernel
theorem dX1_findPlaces_125 : decode cX1_findPlaces 125 = .ok (.lload_n 2, 1) := by decide +kernel
theorem dX1_findPlaces_126 : decode cX1_findPlaces 126 = .ok (.lload 9, 2) := by decide +kernel
theorem dX1_findPlaces_128 : decode cX1_findPlaces 128 = .ok (.lmul, 1) := by decide +kernel
theorem dX1_findPlaces_129 : decode cX1_findPlaces 129 = .ok (.lcmp, 1) := by decide +kernel
theorem dX1_findPlaces_130 : decode cX1_findPlaces 130 = .ok (.ifCond .le 5, 3) := by decide +kernel
theorem dX1_findPlaces_133 : decode cX1_findPlaces 133 = .ok (.iconst 0, 1) := by decide +kernel
theorem dX1_findPlaces_134 : decode cX1_findPlaces 134 = .ok (.ireturn, 1) := by decide +kernel
theorem dX1_findPlaces_135 : decode cX1_findPlaces 135 = .ok (.aload_n 0, 1) := by decide +kernel
theorem dX1_findPlaces_136 : decode cX1_findPlaces 136 = .ok (.getfield 38, 3) := by decide +kernel
theorem dX1_findPlaces_139 : decode cX1_findPlaces 139 = .ok (.iload 6, 2) := by decide +kernel
theorem dX1_findPlaces_141 : decode cX1_findPlaces 141 = .ok (.lload 7, 2) := by decide +kernel
theorem dX1_findPlaces_143 : decode cX1_findPlaces 143 = .ok (.lastore, 1) := by decide +kernel
theorem dX1_findPlaces_144 : decode cX1_findPlaces 144 = .ok (.aload_n 0, 1) := by decide +kernel
theorem dX1_findPlaces_145 : decode cX1_findPlaces 145 = .ok (.getfield 41, 3) := by decide +kernel
theorem dX1_findPlaces_148 : decode cX1_findPlaces 148 = .ok (.iload 6, 2) := by decide +kernel
theorem dX1_findPlaces_150 : decode cX1_findPlaces 150 = .ok (.lload 9, 2) := by decide +kernel
theorem dX1_findPlaces_152 : decode cX1_findPlaces 152 = .ok (.lastore, 1) := by decide +kernel
theorem dX1_findPlaces_153 : decode cX1_findPlaces 153 = .ok (.lload 7, 2) := by decide +kernel
theorem dX1_findPlaces_155 : decode cX1_findPlaces 155 = .ok (.lstore_n 2, 1) := by decide +kernel
theorem dX1_findPlaces_156 : decode cX1_findPlaces 156 = .ok (.lload 9, 2) := by decide +kernel
theorem dX1_findPlaces_158 : decode cX1_findPlaces 158 = .ok (.lstore 4, 2) := by decide +kernel
theorem dX1_findPlaces_160 : decode cX1_findPlaces 160 = .ok (.iinc 6 (-1), 3) := by decide +kernel
theorem dX1_findPlaces_163 : decode cX1_findPlaces 163 = .ok (.goto (-146), 3) := by decide +kernel
theorem dX1_findPlaces_166 : decode cX1_findPlaces 166 = .ok (.iconst 1, 1) := by decide +kernel
theorem dX1_findPlaces_167 : decode cX1_findPlaces 167 = .ok (.ireturn, 1) := by decide +kernel
set_option maxRecDepth 20000 in
theorem ggX1_shareLower_X3_greatestDivisor : GoodIn wsX1_shareLower wsX3_greatestDivisor := goodIn_r _ [9, 10, 11, 12, 13] (by decide +kernel) (by decide +kernel)
set_option maxRecDepth 20000 in
theorem gX1_shareLower_X3_greatestDivisor_n115 : GoodIn wsX1_shareLower (wsX3_greatestDivisor) := ggX1_shareLower_X3_greatestDivisor
theorem dX1_shareLower_0 : decode cX1_shareLower 0 = .ok (.aload_n 0, 1) := by decide +kernel
theorem dX1_shareLower_1 : decode cX1_shareLower 1 = .ok (.lconst 1, 1) := by decide +kernel
theorem dX1_shareLower_2 : decode cX1_shareLower 2 = .ok (.putfield 15, 3) := by decide +kernel
theorem dX1_shareLower_5 : decode cX1_shareLower 5 = .ok (.iconst 0, 1) := by decide +kernel
theorem dX1_shareLower_6 : decode cX1_shareLower 6 = .ok (.istore_n 2, 1) := by decide +kernel
theorem dX1_shareLower_7 : decode cX1_shareLower 7 = .ok (.iload_n 2, 1) := by decide +kernel
theorem dX1_shareLower_8 : decode cX1_shareLower 8 = .ok (.aload_n 1, 1) := by decide +kernel
theorem dX1_shareLower_9 : decode cX1_shareLower 9 = .ok (.getfield 74, 3) := by decide +kernel
theorem dX1_shareLower_12 : decode cX1_shareLower 12 = .ok (.if_icmp .ge 46, 3) := by decide +kernel
theorem dX1_shareLower_15 : decode cX1_shareLower 15 = .ok (.aload_n 0, 1) := by decide +kernel
theorem dX1_shareLower_16 : decode cX1_shareLower 16 = .ok (.getfield 15, 3) := by decide +kernel
theorem dX1_shareLower_19 : decode cX1_shareLower 19 = .ok (.aload_n 0, 1) := by decide +kernel
theorem dX1_shareLower_20 : decode cX1_shareLower 20 = .ok (.getfield 41, 3) := by decide +kernel
theorem dX1_shareLower_23 : decode cX1_shareLower 23 = .ok (.iload_n 2, 1) := by decide +kernel
theorem dX1_shareLower_24 : decode cX1_shareLower 24 = .ok (.laload, 1) := by decide +kernel
theorem dX1_shareLower_25 : decode cX1_shareLower 25 = .ok (.invokestatic 115, 3) := by decide +kernel
theorem dX1_shareLower_28 : decode cX1_shareLower 28 = .ok (.lstore_n 3, 1) := by decide +kernel
theorem dX1_shareLower_29 : decode cX1_shareLower 29 = .ok (.lload_n 3, 1) := by decide +kernel
theorem dX1_shareLower_30 : decode cX1_shareLower 30 = .ok (.lconst 0, 1) := by decide +kernel
theorem dX1_shareLower_31 : decode cX1_shareLower 31 = .ok (.lcmp, 1) := by decide +kernel
theorem dX1_shareLower_32 : decode cX1_shareLower 32 = .ok (.ifCond .le 20, 3) := by decide +kernel
theorem dX1_shareLower_35 : decode cX1_shareLower 35 = .ok (.aload_n 0, 1) := by decide +kernel
theorem dX1_shareLower_36 : decode cX1_shareLower 36 = .ok (.aload_n 0, 1) := by decide +kernel
theorem dX1_shareLower_37 : decode cX1_shareLower 37 = .ok (.getfield 15, 3) := by decide +kernel
theorem dX1_shareLower_40 : decode cX1_shareLower 40 = .ok (.lload_n 3, 1) := by decide +kernel
theorem dX1_shareLower_41 : decode cX1_shareLower 41 = .ok (.ldiv, 1) := by decide +kernel
theorem dX1_shareLower_42 : decode cX1_shareLower 42 = .ok (.aload_n 0, 1) := by decide +kernel
theorem dX1_shareLower_43 : decode cX1_shareLower 43 = .ok (.getfield 41, 3) := by decide +kernel
theorem dX1_shareLower_46 : decode cX1_shareLower 46 = .ok (.iload_n 2, 1) := by decide +kernel
theorem dX1_shareLower_47 : decode cX1_shareLower 47 = .ok (.laload, 1) := by decide +kernel
theorem dX1_shareLower_48 : decode cX1_shareLower 48 = .ok (.lmul, 1) := by decide +kernel
theorem dX1_shareLower_49 : decode cX1_shareLower 49 = .ok (.putfield 15, 3) := by decide +kernel
theorem dX1_shareLower_52 : decode cX1_shareLower 52 = .ok (.iinc 2 1, 3) := by decide +kernel
theorem dX1_shareLower_55 : decode cX1_shareLower 55 = .ok (.goto (-48), 3) := by decide +kernel
theorem dX1_shareLower_58 : decode cX1_shareLower 58 = .ok (.aload_n 0, 1) := by decide +kernel
theorem dX1_shareLower_59 : decode cX1_shareLower 59 = .ok (.getfield 9, 3) := by decide +kernel
theorem dX1_shareLower_62 : decode cX1_shareLower 62 = .ok (.iconst 0, 1) := by decide +kernel
theorem dX1_shareLower_63 : decode cX1_shareLower 63 = .ok (.lconst 0, 1) := by decide +kernel
theorem dX1_shareLower_64 : decode cX1_shareLower 64 = .ok (.lastore, 1) := by decide +kernel
theorem dX1_shareLower_65 : decode cX1_shareLower 65 = .ok (.iconst 0, 1) := by decide +kernel
theorem dX1_shareLower_66 : decode cX1_shareLower 66 = .ok (.istore_n 2, 1) := by decide +kernel
theorem dX1_shareLower_67 : decode cX1_shareLower 67 = .ok (.iload_n 2, 1) := by decide +kernel
theorem dX1_shareLower_68 : decode cX1_shareLower 68 = .ok (.aload_n 1, 1) := by decide +kernel
theorem dX1_shareLower_69 : decode cX1_shareLower 69 = .ok (.getfield 74, 3) := by decide +kernel
theorem dX1_shareLower_72 : decode cX1_shareLower 72 = .ok (.if_icmp .ge 46, 3) := by decide +kernel
theorem dX1_shareLower_75 : decode cX1_shareLower 75 = .ok (.aload_n 0, 1) := by decide +kernel
theorem dX1_shareLower_76 : decode cX1_shareLower 76 = .ok (.getfield 41, 3) := by decide +kernel
theorem dX1_shareLower_79 : decode cX1_shareLower 79 = .ok (.iload_n 2, 1) := by decide +kernel
theorem dX1_shareLower_80 : decode cX1_shareLower 80 = .ok (.laload, 1) := by decide +kernel
theorem dX1_shareLower_81 : decode cX1_shareLower 81 = .ok (.lconst 0, 1) := by decide +kernel
theorem dX1_shareLower_82 : decode cX1_shareLower 82 = .ok (.lcmp, 1) := by decide +kernel
theorem dX1_shareLower_83 : decode cX1_shareLower 83 = .ok (.ifCond .le 29, 3) := by decide +kernel
theorem dX1_shareLower_86 : decode cX1_shareLower 86 = .ok (.aload_n 0, 1) := by decide +kernel
theorem dX1_shareLower_87 : decode cX1_shareLower 87 = .ok (.getfield 9, 3) := by decide +kernel
theorem dX1_shareLower_90 : decode cX1_shareLower 90 = .ok (.iload_n 2, 1) := by decide +kernel
theorem dX1_shareLower_91 : decode cX1_shareLower 91 = .ok (.iconst 1, 1) := by decide +kernel
theorem dX1_shareLower_92 : decode cX1_shareLower 92 = .ok (.iadd, 1) := by decide +kernel
theorem dX1_shareLower_93 : decode cX1_shareLower 93 = .ok (.aload_n 0, 1) := by decide +kernel
theorem dX1_shareLower_94 : decode cX1_shareLower 94 = .ok (.getfield 38, 3) := by decide +kernel
theorem dX1_shareLower_97 : decode cX1_shareLower 97 = .ok (.iload_n 2, 1) := by decide +kernel
theorem dX1_shareLower_98 : decode cX1_shareLower 98 = .ok (.laload, 1) := by decide +kernel
theorem dX1_shareLower_99 : decode cX1_shareLower 99 = .ok (.aload_n 0, 1) := by decide +kernel
theorem dX1_shareLower_100 : decode cX1_shareLower 100 = .ok (.getfield 15, 3) := by decide +kernel
theorem dX1_shareLower_103 : decode cX1_shareLower 103 = .ok (.aload_n 0, 1) := by decide +kernel
theorem dX1_shareLower_104 : decode cX1_shareLower 104 = .ok (.getfield 41, 3) := by decide +kernel
theorem dX1_shareLower_107 : decode cX1_shareLower 107 = .ok (.iload_n 2, 1) := by decide +kernel
theorem dX1_shareLower_108 : decode cX1_shareLower 108 = .ok (.laload, 1) := by decide +kernel
theorem dX1_shareLower_109 : decode cX1_shareLower 109 = .ok (.ldiv, 1) := by decide +kernel
theorem dX1_shareLower_110 : decode cX1_shareLower 110 = .ok (.lmul, 1) := by decide +kernel
theorem dX1_shareLower_111 : decode cX1_shareLower 111 = .ok (.lastore, 1) := by decide +kernel
theorem dX1_shareLower_112 : decode cX1_shareLower 112 = .ok (.iinc 2 1, 3) := by decide +kernel
theorem dX1_shareLower_115 : decode cX1_shareLower 115 = .ok (.goto (-48), 3) := by decide +kernel
theorem dX1_shareLower_118 : decode cX1_shareLower 118 = .ok (.aload_n 0, 1) := by decide +kernel
theorem dX1_shareLower_119 : decode cX1_shareLower 119 = .ok (.getfield 9, 3) := by decide +kernel
theorem dX1_shareLower_122 : decode cX1_shareLower 122 = .ok (.aload_n 1, 1) := by decide +kernel
theorem dX1_shareLower_123 : decode cX1_shareLower 123 = .ok (.getfield 74, 3) := by decide +kernel
theorem dX1_shareLower_126 : decode cX1_shareLower 126 = .ok (.iconst 1, 1) := by decide +kernel
theorem dX1_shareLower_127 : decode cX1_shareLower 127 = .ok (.iadd, 1) := by decide +kernel
theorem dX1_shareLower_128 : decode cX1_shareLower 128 = .ok (.aload_n 1, 1) := by decide +kernel
theorem dX1_shareLower_129 : decode cX1_shareLower 129 = .ok (.getfield 102, 3) := by decide +kernel
theorem dX1_shareLower_132 : decode cX1_shareLower 132 = .ok (.i2l, 1) := by decide +kernel
theorem dX1_shareLower_133 : decode cX1_shareLower 133 = .ok (.aload_n 0, 1) := by decide +kernel
theorem dX1_shareLower_134 : decode cX1_shareLower 134 = .ok (.getfield 15, 3) := by decide +kernel
theorem dX1_shareLower_137 : decode cX1_shareLower 137 = .ok (.lmul, 1) := by decide +kernel
theorem dX1_shareLower_138 : decode cX1_shareLower 138 = .ok (.lastore, 1) := by decide +kernel
theorem dX1_shareLower_139 : decode cX1_shareLower 139 = .ok (.return_, 1) := by decide +kernel
set_option maxRecDepth 20000 in
theorem ggX1_nothingMoves_X1_moveTogether : GoodIn wsX1_nothingMoves wsX1_moveTogether := goodIn_r _ [7, 1, 8, 9, 10, 11, 12, 6, 13, 14, 15, 16, 17, 18, 19, 20, 21, 22, 23, 24, 2, 25, 26, 27, 28, 29, 30, 31, 32, 33, 34, 35, 36, 37, 38, 39, 40, 41, 42, 43, 44, 45, 46, 47, 48, 49, 50] (by decide +kernel) (by decide +kernel)
set_option maxRecDepth 20000 in
theorem gX1_nothingMoves_X1_moveTogether : GoodIn wsX1_nothingMoves (wsV RX1 118 RX1 yX1_moveTogether wsX1_moveTogether) := goodIn_app (goodIn_of _ (by decide +kernel)) ggX1_nothingMoves_X1_moveTogether
theorem dX1_nothingMoves_0 : decode cX1_nothingMoves 0 = .ok (.iconst 0, 1) := by decide +kernel
theorem dX1_nothingMoves_1 : decode cX1_nothingMoves 1 = .ok (.istore_n 2, 1) := by decide +kernel
theorem dX1_nothingMoves_2 : decode cX1_nothingMoves 2 = .ok (.iload_n 2, 1) := by decide +kernel
theorem dX1_nothingMoves_3 : decode cX1_nothingMoves 3 = .ok (.aload_n 1, 1) := by decide +kernel
theorem dX1_nothingMoves_4 : decode cX1_nothingMoves 4 = .ok (.getfield 74, 3) := by decide +kernel
theorem dX1_nothingMoves_7 : decode cX1_nothingMoves 7 = .ok (.if_icmp .ge 60, 3) := by decide +kernel
theorem dX1_nothingMoves_10 : decode cX1_nothingMoves 10 = .ok (.iload_n 2, 1) := by decide +kernel
theorem dX1_nothingMoves_11 : decode cX1_nothingMoves 11 = .ok (.istore_n 3, 1) := by decide +kernel
theorem dX1_nothingMoves_12 : decode cX1_nothingMoves 12 = .ok (.iload_n 3, 1) := by decide +kernel
theorem dX1_nothingMoves_13 : decode cX1_nothingMoves 13 = .ok (.aload_n 1, 1) := by decide +kernel
theorem dX1_nothingMoves_14 : decode cX1_nothingMoves 14 = .ok (.getfield 74, 3) := by decide +kernel
theorem dX1_nothingMoves_17 : decode cX1_nothingMoves 17 = .ok (.if_icmp .ge 44, 3) := by decide +kernel
theorem dX1_nothingMoves_20 : decode cX1_nothingMoves 20 = .ok (.aload_n 0, 1) := by decide +kernel
theorem dX1_nothingMoves_21 : decode cX1_nothingMoves 21 = .ok (.getfield 9, 3) := by decide +kernel
theorem dX1_nothingMoves_24 : decode cX1_nothingMoves 24 = .ok (.iload_n 3, 1) := by decide +kernel
theorem dX1_nothingMoves_25 : decode cX1_nothingMoves 25 = .ok (.iconst 1, 1) := by decide +kernel
theorem dX1_nothingMoves_26 : decode cX1_nothingMoves 26 = .ok (.iadd, 1) := by decide +kernel
theorem dX1_nothingMoves_27 : decode cX1_nothingMoves 27 = .ok (.laload, 1) := by decide +kernel
theorem dX1_nothingMoves_28 : decode cX1_nothingMoves 28 = .ok (.aload_n 0, 1) := by decide +kernel
theorem dX1_nothingMoves_29 : decode cX1_nothingMoves 29 = .ok (.getfield 9, 3) := by decide +kernel
theorem dX1_nothingMoves_32 : decode cX1_nothingMoves 32 = .ok (.iload_n 2, 1) := by decide +kernel
theorem dX1_nothingMoves_33 : decode cX1_nothingMoves 33 = .ok (.iconst 1, 1) := by decide +kernel
theorem dX1_nothingMoves_34 : decode cX1_nothingMoves 34 = .ok (.iadd, 1) := by decide +kernel
theorem dX1_nothingMoves_35 : decode cX1_nothingMoves 35 = .ok (.laload, 1) := by decide +kernel
theorem dX1_nothingMoves_36 : decode cX1_nothingMoves 36 = .ok (.lcmp, 1) := by decide +kernel
theorem dX1_nothingMoves_37 : decode cX1_nothingMoves 37 = .ok (.ifCond .eq 6, 3) := by decide +kernel
theorem dX1_nothingMoves_40 : decode cX1_nothingMoves 40 = .ok (.goto 21, 3) := by decide +kernel
theorem dX1_nothingMoves_43 : decode cX1_nothingMoves 43 = .ok (.aload_n 0, 1) := by decide +kernel
theorem dX1_nothingMoves_44 : decode cX1_nothingMoves 44 = .ok (.aload_n 1, 1) := by decide +kernel
theorem dX1_nothingMoves_45 : decode cX1_nothingMoves 45 = .ok (.iload_n 2, 1) := by decide +kernel
theorem dX1_nothingMoves_46 : decode cX1_nothingMoves 46 = .ok (.iload_n 3, 1) := by decide +kernel
theorem dX1_nothingMoves_47 : decode cX1_nothingMoves 47 = .ok (.invokevirtual 118, 3) := by decide +kernel
theorem dX1_nothingMoves_50 : decode cX1_nothingMoves 50 = .ok (.ifCond .eq 5, 3) := by decide +kernel
theorem dX1_nothingMoves_53 : decode cX1_nothingMoves 53 = .ok (.iconst 0, 1) := by decide +kernel
theorem dX1_nothingMoves_54 : decode cX1_nothingMoves 54 = .ok (.ireturn, 1) := by decide +kernel
theorem dX1_nothingMoves_55 : decode cX1_nothingMoves 55 = .ok (.iinc 3 1, 3) := by decide +kernel
theorem dX1_nothingMoves_58 : decode cX1_nothingMoves 58 = .ok (.goto (-46), 3) := by decide +kernel
theorem dX1_nothingMoves_61 : decode cX1_nothingMoves 61 = .ok (.iinc 2 1, 3) := by decide +kernel
theorem dX1_nothingMoves_64 : decode cX1_nothingMoves 64 = .ok (.goto (-62), 3) := by decide +kernel
theorem dX1_nothingMoves_67 : decode cX1_nothingMoves 67 = .ok (.iconst 1, 1) := by decide +kernel
theorem dX1_nothingMoves_68 : decode cX1_nothingMoves 68 = .ok (.ireturn, 1) := by decide +kernel
set_option maxRecDepth 20000 in
theorem ggX1_moveTogether_X1_forceOn : GoodIn wsX1_moveTogether wsX1_forceOn := goodIn_r _ [8, 9, 10, 11, 12, 13, 14, 15, 16, 17, 18, 7, 19, 20, 21, 22, 37, 38, 39, 40, 41, 42, 43, 44, 45, 46, 31, 32, 33, 34, 35, 36] (by decide +kernel) (by decide +kernel)
set_option maxRecDepth 20000 in
theorem gX1_moveTogether_X1_forceOn : GoodIn wsX1_moveTogether (wsV RX1 122 RX1 yX1_forceOn wsX1_forceOn) := goodIn_app (goodIn_of _ (by decide +kernel)) ggX1_moveTogether_X1_forceOn
set_option maxRecDepth 20000 in
theorem ggX1_moveTogether_X1_touchesNext : GoodIn wsX1_moveTogether wsX1_touchesNext := goodIn_r _ [26, 20, 37, 38, 39, 40, 41, 42, 43, 44, 45, 46] (by decide +kernel) (by decide +kernel)
set_option maxRecDepth 20000 in
theorem gX1_moveTogether_X1_touchesNext : GoodIn wsX1_moveTogether (wsV RX1 126 RX1 yX1_touchesNext wsX1_touchesNext) := goodIn_app (goodIn_of _ (by decide +kernel)) ggX1_moveTogether_X1_touchesNext
set_option maxRecDepth 20000 in
theorem ggX1_moveTogether_X1_isAt : GoodIn wsX1_moveTogether wsX1_isAt := goodIn_r _ [30, 20, 9, 37, 38, 39, 40, 41, 42, 43, 44, 45, 46] (by decide +kernel) (by decide +kernel)
set_option maxRecDepth 20000 in
theorem gX1_moveTogether_X1_isAt : GoodIn wsX1_moveTogether (wsV RX1 130 RX1 yX1_isAt wsX1_isAt) := goodIn_app (goodIn_of _ (by decide +kernel)) ggX1_moveTogether_X1_isAt
theorem dX1_moveTogether_0 : decode cX1_moveTogether 0 = .ok (.aload_n 0, 1) := by decide +kernel
theorem dX1_moveTogether_1 : decode cX1_moveTogether 1 = .ok (.aload_n 1, 1) := by decide +kernel
theorem dX1_moveTogether_2 : decode cX1_moveTogether 2 = .ok (.iload_n 2, 1) := by decide +kernel
theorem dX1_moveTogether_3 : decode cX1_moveTogether 3 = .ok (.iload_n 3, 1) := by decide +kernel
theorem dX1_moveTogether_4 : decode cX1_moveTogether 4 = .ok (.invokevirtual 122, 3) := by decide +kernel
theorem dX1_moveTogether_7 : decode cX1_moveTogether 7 = .ok (.lstore 4, 2) := by decide +kernel
theorem dX1_moveTogether_9 : decode cX1_moveTogether 9 = .ok (.lload 4, 2) := by decide +kernel
theorem dX1_moveTogether_11 : decode cX1_moveTogether 11 = .ok (.lconst 0, 1) := by decide +kernel
theorem dX1_moveTogether_12 : decode cX1_moveTogether 12 = .ok (.lcmp, 1) := by decide +kernel
theorem dX1_moveTogether_13 : decode cX1_moveTogether 13 = .ok (.ifCond .le 53, 3) := by decide +kernel
theorem dX1_moveTogether_16 : decode cX1_moveTogether 16 = .ok (.iload_n 3, 1) := by decide +kernel
theorem dX1_moveTogether_17 : decode cX1_moveTogether 17 = .ok (.iconst 1, 1) := by decide +kernel
theorem dX1_moveTogether_18 : decode cX1_moveTogether 18 = .ok (.iadd, 1) := by decide +kernel
theorem dX1_moveTogether_19 : decode cX1_moveTogether 19 = .ok (.aload_n 1, 1) := by decide +kernel
theorem dX1_moveTogether_20 : decode cX1_moveTogether 20 = .ok (.getfield 74, 3) := by decide +kernel
theorem dX1_moveTogether_23 : decode cX1_moveTogether 23 = .ok (.if_icmp .ge 15, 3) := by decide +kernel
theorem dX1_moveTogether_26 : decode cX1_moveTogether 26 = .ok (.aload_n 0, 1) := by decide +kernel
theorem dX1_moveTogether_27 : decode cX1_moveTogether 27 = .ok (.iload_n 3, 1) := by decide +kernel
theorem dX1_moveTogether_28 : decode cX1_moveTogether 28 = .ok (.invokevirtual 126, 3) := by decide +kernel
theorem dX1_moveTogether_31 : decode cX1_moveTogether 31 = .ok (.ifCond .eq 7, 3) := by decide +kernel
theorem dX1_moveTogether_34 : decode cX1_moveTogether 34 = .ok (.iconst 1, 1) := by decide +kernel
theorem dX1_moveTogether_35 : decode cX1_moveTogether 35 = .ok (.goto 4, 3) := by decide +kernel
theorem dX1_moveTogether_38 : decode cX1_moveTogether 38 = .ok (.iconst 0, 1) := by decide +kernel
theorem dX1_moveTogether_39 : decode cX1_moveTogether 39 = .ok (.istore 6, 2) := by decide +kernel
theorem dX1_moveTogether_41 : decode cX1_moveTogether 41 = .ok (.iload 6, 2) := by decide +kernel
theorem dX1_moveTogether_43 : decode cX1_moveTogether 43 = .ok (.ifCond .ne 21, 3) := by decide +kernel
theorem dX1_moveTogether_46 : decode cX1_moveTogether 46 = .ok (.aload_n 0, 1) := by decide +kernel
theorem dX1_moveTogether_47 : decode cX1_moveTogether 47 = .ok (.iload_n 2, 1) := by decide +kernel
theorem dX1_moveTogether_48 : decode cX1_moveTogether 48 = .ok (.aload_n 0, 1) := by decide +kernel
theorem dX1_moveTogether_49 : decode cX1_moveTogether 49 = .ok (.getfield 23, 3) := by decide +kernel
theorem dX1_moveTogether_52 : decode cX1_moveTogether 52 = .ok (.iload_n 2, 1) := by decide +kernel
theorem dX1_moveTogether_53 : decode cX1_moveTogether 53 = .ok (.iaload, 1) := by decide +kernel
theorem dX1_moveTogether_54 : decode cX1_moveTogether 54 = .ok (.invokevirtual 130, 3) := by decide +kernel
theorem dX1_moveTogether_57 : decode cX1_moveTogether 57 = .ok (.ifCond .ne 7, 3) := by decide +kernel
theorem dX1_moveTogether_60 : decode cX1_moveTogether 60 = .ok (.iconst 1, 1) := by decide +kernel
theorem dX1_moveTogether_61 : decode cX1_moveTogether 61 = .ok (.goto 4, 3) := by decide +kernel
theorem dX1_moveTogether_64 : decode cX1_moveTogether 64 = .ok (.iconst 0, 1) := by decide +kernel
theorem dX1_moveTogether_65 : decode cX1_moveTogether 65 = .ok (.ireturn, 1) := by decide +kernel
theorem dX1_moveTogether_66 : decode cX1_moveTogether 66 = .ok (.lload 4, 2) := by decide +kernel
theorem dX1_moveTogether_68 : decode cX1_moveTogether 68 = .ok (.lconst 0, 1) := by decide +kernel
theorem dX1_moveTogether_69 : decode cX1_moveTogether 69 = .ok (.lcmp, 1) := by decide +kernel
theorem dX1_moveTogether_70 : decode cX1_moveTogether 70 = .ok (.ifCond .ge 49, 3) := by decide +kernel
theorem dX1_moveTogether_73 : decode cX1_moveTogether 73 = .ok (.iload_n 2, 1) := by decide +kernel
theorem dX1_moveTogether_74 : decode cX1_moveTogether 74 = .ok (.ifCond .le 17, 3) := by decide +kernel
theorem dX1_moveTogether_77 : decode cX1_moveTogether 77 = .ok (.aload_n 0, 1) := by decide +kernel
theorem dX1_moveTogether_78 : decode cX1_moveTogether 78 = .ok (.iload_n 2, 1) := by decide +kernel
theorem dX1_moveTogether_79 : decode cX1_moveTogether 79 = .ok (.iconst 1, 1) := by decide +kernel
theorem dX1_moveTogether_80 : decode cX1_moveTogether 80 = .ok (.isub, 1) := by decide +kernel
theorem dX1_moveTogether_81 : decode cX1_moveTogether 81 = .ok (.invokevirtual 126, 3) := by decide +kernel
theorem dX1_moveTogether_84 : decode cX1_moveTogether 84 = .ok (.ifCond .eq 7, 3) := by decide +kernel
theorem dX1_moveTogether_87 : decode cX1_moveTogether 87 = .ok (.iconst 1, 1) := by decide +kernel
theorem dX1_moveTogether_88 : decode cX1_moveTogether 88 = .ok (.goto 4, 3) := by decide +kernel
theorem dX1_moveTogether_91 : decode cX1_moveTogether 91 = .ok (.iconst 0, 1) := by decide +kernel
theorem dX1_moveTogether_92 : decode cX1_moveTogether 92 = .ok (.istore 6, 2) := by decide +kernel
theorem dX1_moveTogether_94 : decode cX1_moveTogether 94 = .ok (.iload 6, 2) := by decide +kernel
theorem dX1_moveTogether_96 : decode cX1_moveTogether 96 = .ok (.ifCond .ne 21, 3) := by decide +kernel
theorem dX1_moveTogether_99 : decode cX1_moveTogether 99 = .ok (.aload_n 0, 1) := by decide +kernel
theorem dX1_moveTogether_100 : decode cX1_moveTogether 100 = .ok (.iload_n 3, 1) := by decide +kernel
theorem dX1_moveTogether_101 : decode cX1_moveTogether 101 = .ok (.aload_n 0, 1) := by decide +kernel
theorem dX1_moveTogether_102 : decode cX1_moveTogether 102 = .ok (.getfield 19, 3) := by decide +kernel
theorem dX1_moveTogether_105 : decode cX1_moveTogether 105 = .ok (.iload_n 3, 1) := by decide +kernel
theorem dX1_moveTogether_106 : decode cX1_moveTogether 106 = .ok (.iaload, 1) := by decide +kernel
theorem dX1_moveTogether_107 : decode cX1_moveTogether 107 = .ok (.invokevirtual 130, 3) := by decide +kernel
theorem dX1_moveTogether_110 : decode cX1_moveTogether 110 = .ok (.ifCond .ne 7, 3) := by decide +kernel
theorem dX1_moveTogether_113 : decode cX1_moveTogether 113 = .ok (.iconst 1, 1) := by decide +kernel
theorem dX1_moveTogether_114 : decode cX1_moveTogether 114 = .ok (.goto 4, 3) := by decide +kernel
theorem dX1_moveTogether_117 : decode cX1_moveTogether 117 = .ok (.iconst 0, 1) := by decide +kernel
theorem dX1_moveTogether_118 : decode cX1_moveTogether 118 = .ok (.ireturn, 1) := by decide +kernel
theorem dX1_moveTogether_119 : decode cX1_moveTogether 119 = .ok (.iconst 0, 1) := by decide +kernel
theorem dX1_moveTogether_120 : decode cX1_moveTogether 120 = .ok (.ireturn, 1) := by decide +kernel
