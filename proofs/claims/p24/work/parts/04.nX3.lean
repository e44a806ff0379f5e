set_option maxRecDepth 20000 in
theorem ggX3_init_X0_init : GoodIn wsX3_init wsX0_init := goodIn_r _ [23, 24, 2, 3, 25, 26, 27, 28, 29, 30, 31, 32, 33, 34, 6, 35, 62, 63, 64, 65, 66, 67] (by decide +kernel) (by decide +kernel)
set_option maxRecDepth 20000 in
theorem gX3_init_X0_init : GoodIn wsX3_init (wsX0_init) := ggX3_init_X0_init
set_option maxRecDepth 20000 in
theorem ggX3_init_X1_init : GoodIn wsX3_init wsX1_init := goodIn_r _ [37, 38, 2, 3, 39, 40, 41, 27, 42, 43, 44, 45, 46, 47, 48, 49, 76, 77, 78, 79, 80, 81, 82, 83, 84, 85] (by decide +kernel) (by decide +kernel)
set_option maxRecDepth 20000 in
theorem gX3_init_X1_init_n29 : GoodIn wsX3_init (wsX1_init) := ggX3_init_X1_init
set_option maxRecDepth 20000 in
theorem ggX3_init_X2_init : GoodIn wsX3_init wsX2_init := goodIn_r _ [51, 52, 2, 3, 27, 53, 54, 55, 56, 57, 58, 59, 60, 61, 86, 87, 88, 89, 90, 91, 92, 93, 94] (by decide +kernel) (by decide +kernel)
set_option maxRecDepth 20000 in
theorem gX3_init_X2_init_n43 : GoodIn wsX3_init (wsX2_init) := ggX3_init_X2_init
theorem dX3_init_0 : decode cX3_init 0 = .ok (.aload_n 0, 1) := by decide +kernel
theorem dX3_init_1 : decode cX3_init 1 = .ok (.invokespecial 1, 3) := by decide +kernel
theorem dX3_init_4 : decode cX3_init 4 = .ok (.aload_n 0, 1) := by decide +kernel
theorem dX3_init_5 : decode cX3_init 5 = .ok (.new 7, 3) := by decide +kernel
theorem dX3_init_8 : decode cX3_init 8 = .ok (.dup, 1) := by decide +kernel
theorem dX3_init_9 : decode cX3_init 9 = .ok (.invokespecial 9, 3) := by decide +kernel
theorem dX3_init_12 : decode cX3_init 12 = .ok (.putfield 10, 3) := by decide +kernel
theorem dX3_init_15 : decode cX3_init 15 = .ok (.aload_n 0, 1) := by decide +kernel
theorem dX3_init_16 : decode cX3_init 16 = .ok (.new 7, 3) := by decide +kernel
theorem dX3_init_19 : decode cX3_init 19 = .ok (.dup, 1) := by decide +kernel
theorem dX3_init_20 : decode cX3_init 20 = .ok (.invokespecial 9, 3) := by decide +kernel
theorem dX3_init_23 : decode cX3_init 23 = .ok (.putfield 16, 3) := by decide +kernel
theorem dX3_init_26 : decode cX3_init 26 = .ok (.aload_n 0, 1) := by decide +kernel
theorem dX3_init_27 : decode cX3_init 27 = .ok (.iconst 4, 1) := by decide +kernel
theorem dX3_init_28 : decode cX3_init 28 = .ok (.anewarray 7, 3) := by decide +kernel
theorem dX3_init_31 : decode cX3_init 31 = .ok (.putfield 19, 3) := by decide +kernel
theorem dX3_init_34 : decode cX3_init 34 = .ok (.aload_n 0, 1) := by decide +kernel
theorem dX3_init_35 : decode cX3_init 35 = .ok (.iconst 0, 1) := by decide +kernel
theorem dX3_init_36 : decode cX3_init 36 = .ok (.putfield 23, 3) := by decide +kernel
theorem dX3_init_39 : decode cX3_init 39 = .ok (.aload_n 0, 1) := by decide +kernel
theorem dX3_init_40 : decode cX3_init 40 = .ok (.new 27, 3) := by decide +kernel
theorem dX3_init_43 : decode cX3_init 43 = .ok (.dup, 1) := by decide +kernel
theorem dX3_init_44 : decode cX3_init 44 = .ok (.invokespecial 29, 3) := by decide +kernel
theorem dX3_init_47 : decode cX3_init 47 = .ok (.putfield 30, 3) := by decide +kernel
theorem dX3_init_50 : decode cX3_init 50 = .ok (.aload_n 0, 1) := by decide +kernel
theorem dX3_init_51 : decode cX3_init 51 = .ok (.iconst 0, 1) := by decide +kernel
theorem dX3_init_52 : decode cX3_init 52 = .ok (.putfield 34, 3) := by decide +kernel
theorem dX3_init_55 : decode cX3_init 55 = .ok (.aload_n 0, 1) := by decide +kernel
theorem dX3_init_56 : decode cX3_init 56 = .ok (.new 27, 3) := by decide +kernel
theorem dX3_init_59 : decode cX3_init 59 = .ok (.dup, 1) := by decide +kernel
theorem dX3_init_60 : decode cX3_init 60 = .ok (.invokespecial 29, 3) := by decide +kernel
theorem dX3_init_63 : decode cX3_init 63 = .ok (.putfield 38, 3) := by decide +kernel
theorem dX3_init_66 : decode cX3_init 66 = .ok (.aload_n 0, 1) := by decide +kernel
theorem dX3_init_67 : decode cX3_init 67 = .ok (.new 41, 3) := by decide +kernel
theorem dX3_init_70 : decode cX3_init 70 = .ok (.dup, 1) := by decide +kernel
theorem dX3_init_71 : decode cX3_init 71 = .ok (.invokespecial 43, 3) := by decide +kernel
theorem dX3_init_74 : decode cX3_init 74 = .ok (.putfield 44, 3) := by decide +kernel
theorem dX3_init_77 : decode cX3_init 77 = .ok (.return_, 1) := by decide +kernel
set_option maxRecDepth 20000 in
theorem ggX3_width_X3_freshTrial : GoodIn wsX3_width wsX3_freshTrial := goodIn_r _ [5, 6, 7, 8, 9, 10, 11, 12, 13, 14, 15, 16, 17, 18, 19, 20, 21, 22, 65, 66, 67, 68, 69, 70, 71, 72, 73, 74, 75, 76, 77, 78] (by decide +kernel) (by decide +kernel)
set_option maxRecDepth 20000 in
theorem gX3_width_X3_freshTrial : GoodIn wsX3_width (wsV RX3 48 RX3 yX3_freshTrial wsX3_freshTrial) := goodIn_app (goodIn_of _ (by decide +kernel)) ggX3_width_X3_freshTrial
set_option maxRecDepth 20000 in
theorem ggX3_width_X0_setWidth : GoodIn wsX3_width wsX0_setWidth := goodIn_r _ [26, 27, 28, 13, 29, 30, 31, 11, 32, 14, 22, 73, 74, 75, 76, 77, 78] (by decide +kernel) (by decide +kernel)
set_option maxRecDepth 20000 in
theorem gX3_width_X0_setWidth : GoodIn wsX3_width (wsV RX3 52 RX0 yX0_setWidth wsX0_setWidth) := goodIn_app (goodIn_of _ (by decide +kernel)) ggX3_width_X0_setWidth
set_option maxRecDepth 20000 in
theorem ggX3_width_X3_keep : GoodIn wsX3_width wsX3_keep := goodIn_r _ [36, 7, 6, 37, 38, 39, 4, 40, 41, 42, 43, 44, 45, 46, 47, 48, 49, 11, 50, 51, 52, 53, 54, 55, 56, 57, 58, 59, 13, 14, 60, 15, 16, 21, 22, 61, 62, 63, 64, 8, 9, 10, 12, 17, 18, 19, 20, 65, 66, 67, 68, 69, 70, 71, 72, 73, 74, 75, 76, 77, 78] (by decide +kernel) (by decide +kernel)
set_option maxRecDepth 20000 in
theorem gX3_width_X3_keep : GoodIn wsX3_width (wsV RX3 56 RX3 yX3_keep wsX3_keep) := goodIn_app (goodIn_of _ (by decide +kernel)) ggX3_width_X3_keep
theorem dX3_width_0 : decode cX3_width 0 = .ok (.aload_n 0, 1) := by decide +kernel
theorem dX3_width_1 : decode cX3_width 1 = .ok (.aload_n 0, 1) := by decide +kernel
theorem dX3_width_2 : decode cX3_width 2 = .ok (.invokevirtual 48, 3) := by decide +kernel
theorem dX3_width_5 : decode cX3_width 5 = .ok (.iload_n 1, 1) := by decide +kernel
theorem dX3_width_6 : decode cX3_width 6 = .ok (.invokevirtual 52, 3) := by decide +kernel
theorem dX3_width_9 : decode cX3_width 9 = .ok (.invokevirtual 56, 3) := by decide +kernel
theorem dX3_width_12 : decode cX3_width 12 = .ok (.ireturn, 1) := by decide +kernel
set_option maxRecDepth 20000 in
theorem ggX3_plate_X3_freshTrial : GoodIn wsX3_plate wsX3_freshTrial := goodIn_r _ [5, 6, 7, 8, 9, 10, 11, 12, 13, 14, 15, 16, 17, 18, 19, 20, 21, 22, 60, 61, 62, 63, 64, 65, 66, 67, 68, 69, 70, 71, 72, 73] (by decide +kernel) (by decide +kernel)
set_option maxRecDepth 20000 in
theorem gX3_plate_X3_freshTrial : GoodIn wsX3_plate (wsV RX3 48 RX3 yX3_freshTrial wsX3_freshTrial) := goodIn_app (goodIn_of _ (by decide +kernel)) ggX3_plate_X3_freshTrial
set_option maxRecDepth 20000 in
theorem ggX3_plate_X0_addPlate : GoodIn wsX3_plate wsX0_addPlate := goodIn_r _ [26, 14, 27, 21, 22, 28, 29, 30, 11, 31, 15, 16, 68, 69, 70, 71, 72, 73] (by decide +kernel) (by decide +kernel)
set_option maxRecDepth 20000 in
theorem gX3_plate_X0_addPlate : GoodIn wsX3_plate (wsV RX3 59 RX0 yX0_addPlate wsX0_addPlate) := goodIn_app (goodIn_of _ (by decide +kernel)) ggX3_plate_X0_addPlate
set_option maxRecDepth 20000 in
theorem ggX3_plate_X3_keep : GoodIn wsX3_plate wsX3_keep := goodIn_r _ [35, 7, 6, 36, 37, 38, 4, 39, 40, 41, 42, 43, 44, 45, 46, 47, 48, 11, 49, 50, 51, 52, 53, 54, 55, 56, 57, 58, 13, 14, 59, 15, 16, 21, 22, 28, 29, 30, 31, 8, 9, 10, 12, 17, 18, 19, 20, 60, 61, 62, 63, 64, 65, 66, 67, 68, 69, 70, 71, 72, 73] (by decide +kernel) (by decide +kernel)
set_option maxRecDepth 20000 in
theorem gX3_plate_X3_keep : GoodIn wsX3_plate (wsV RX3 56 RX3 yX3_keep wsX3_keep) := goodIn_app (goodIn_of _ (by decide +kernel)) ggX3_plate_X3_keep
theorem dX3_plate_0 : decode cX3_plate 0 = .ok (.aload_n 0, 1) := by decide +kernel
theorem dX3_plate_1 : decode cX3_plate 1 = .ok (.aload_n 0, 1) := by decide +kernel
theorem dX3_plate_2 : decode cX3_plate 2 = .ok (.invokevirtual 48, 3) := by decide +kernel
theorem dX3_plate_5 : decode cX3_plate 5 = .ok (.invokevirtual 59, 3) := by decide +kernel
theorem dX3_plate_8 : decode cX3_plate 8 = .ok (.invokevirtual 56, 3) := by decide +kernel
theorem dX3_plate_11 : decode cX3_plate 11 = .ok (.ireturn, 1) := by decide +kernel
set_option maxRecDepth 20000 in
theorem ggX3_drop_X3_freshTrial : GoodIn wsX3_drop wsX3_freshTrial := goodIn_r _ [5, 6, 7, 8, 9, 10, 11, 12, 13, 14, 15, 16, 17, 18, 19, 20, 21, 22, 64, 65, 66, 67, 68, 69, 70, 71, 72, 73, 74, 75, 76, 77] (by decide +kernel) (by decide +kernel)
set_option maxRecDepth 20000 in
theorem gX3_drop_X3_freshTrial : GoodIn wsX3_drop (wsV RX3 48 RX3 yX3_freshTrial wsX3_freshTrial) := goodIn_app (goodIn_of _ (by decide +kernel)) ggX3_drop_X3_freshTrial
set_option maxRecDepth 20000 in
theorem ggX3_drop_X0_removePlate : GoodIn wsX3_drop wsX0_removePlate := goodIn_r _ [26, 27, 14, 15, 16, 28, 29, 30, 11, 31, 17, 18, 19, 20, 21, 22, 72, 73, 74, 75, 76, 77] (by decide +kernel) (by decide +kernel)
set_option maxRecDepth 20000 in
theorem gX3_drop_X0_removePlate : GoodIn wsX3_drop (wsV RX3 63 RX0 yX0_removePlate wsX0_removePlate) := goodIn_app (goodIn_of _ (by decide +kernel)) ggX3_drop_X0_removePlate
set_option maxRecDepth 20000 in
theorem ggX3_drop_X3_keep : GoodIn wsX3_drop wsX3_keep := goodIn_r _ [35, 7, 6, 36, 37, 38, 4, 39, 40, 41, 42, 43, 44, 45, 46, 47, 48, 11, 49, 50, 51, 52, 53, 54, 55, 56, 57, 58, 13, 14, 59, 15, 16, 21, 22, 60, 61, 62, 63, 8, 9, 10, 12, 17, 18, 19, 20, 64, 65, 66, 67, 68, 69, 70, 71, 72, 73, 74, 75, 76, 77] (by decide +kernel) (by decide +kernel)
set_option maxRecDepth 20000 in
theorem gX3_drop_X3_keep : GoodIn wsX3_drop (wsV RX3 56 RX3 yX3_keep wsX3_keep) := goodIn_app (goodIn_of _ (by decide +kernel)) ggX3_drop_X3_keep
theorem dX3_drop_0 : decode cX3_drop 0 = .ok (.aload_n 0, 1) := by decide +kernel
theorem dX3_drop_1 : decode cX3_drop 1 = .ok (.aload_n 0, 1) := by decide +kernel
theorem dX3_drop_2 : decode cX3_drop 2 = .ok (.invokevirtual 48, 3) := by decide +kernel
theorem dX3_drop_5 : decode cX3_drop 5 = .ok (.iload_n 1, 1) := by decide +kernel
theorem dX3_drop_6 : decode cX3_drop 6 = .ok (.invokevirtual 63, 3) := by decide +kernel
theorem dX3_drop_9 : decode cX3_drop 9 = .ok (.invokevirtual 56, 3) := by decide +kernel
theorem dX3_drop_12 : decode cX3_drop 12 = .ok (.ireturn, 1) := by decide +kernel
set_option maxRecDepth 20000 in
theorem ggX3_spring_X3_freshTrial : GoodIn wsX3_spring wsX3_freshTrial := goodIn_r _ [5, 6, 7, 8, 9, 10, 11, 12, 13, 14, 15, 16, 17, 18, 19, 20, 21, 22, 64, 65, 66, 67, 68, 69, 70, 71, 72, 73, 74, 75, 76, 77] (by decide +kernel) (by decide +kernel)
set_option maxRecDepth 20000 in
theorem gX3_spring_X3_freshTrial : GoodIn wsX3_spring (wsV RX3 48 RX3 yX3_freshTrial wsX3_freshTrial) := goodIn_app (goodIn_of _ (by decide +kernel)) ggX3_spring_X3_freshTrial
set_option maxRecDepth 20000 in
theorem ggX3_spring_X0_setSpring : GoodIn wsX3_spring wsX0_setSpring := goodIn_r _ [26, 27, 15, 16, 28, 29, 30, 11, 31, 14, 72, 73, 74, 75, 76, 77] (by decide +kernel) (by decide +kernel)
set_option maxRecDepth 20000 in
theorem gX3_spring_X0_setSpring : GoodIn wsX3_spring (wsV RX3 66 RX0 yX0_setSpring wsX0_setSpring) := goodIn_app (goodIn_of _ (by decide +kernel)) ggX3_spring_X0_setSpring
set_option maxRecDepth 20000 in
theorem ggX3_spring_X3_keep : GoodIn wsX3_spring wsX3_keep := goodIn_r _ [35, 7, 6, 36, 37, 38, 4, 39, 40, 41, 42, 43, 44, 45, 46, 47, 48, 11, 49, 50, 51, 52, 53, 54, 55, 56, 57, 58, 13, 14, 59, 15, 16, 21, 22, 60, 61, 62, 63, 8, 9, 10, 12, 17, 18, 19, 20, 64, 65, 66, 67, 68, 69, 70, 71, 72, 73, 74, 75, 76, 77] (by decide +kernel) (by decide +kernel)
set_option maxRecDepth 20000 in
theorem gX3_spring_X3_keep : GoodIn wsX3_spring (wsV RX3 56 RX3 yX3_keep wsX3_keep) := goodIn_app (goodIn_of _ (by decide +kernel)) ggX3_spring_X3_keep
theorem dX3_spring_0 : decode cX3_spring 0 = .ok (.aload_n 0, 1) := by decide +kernel
theorem dX3_spring_1 : decode cX3_spring 1 = .ok (.aload_n 0, 1) := by decide +kernel
theorem dX3_spring_2 : decode cX3_spring 2 = .ok (.invokevirtual 48, 3) := by decide +kernel
theorem dX3_spring_5 : decode cX3_spring 5 = .ok (.iload_n 1, 1) := by decide +kernel
theorem dX3_spring_6 : decode cX3_spring 6 = .ok (.iload_n 2, 1) := by decide +kernel
theorem dX3_spring_7 : decode cX3_spring 7 = .ok (.iload_n 3, 1) := by decide +kernel
theorem dX3_spring_8 : decode cX3_spring 8 = .ok (.invokevirtual 66, 3) := by decide +kernel
theorem dX3_spring_11 : decode cX3_spring 11 = .ok (.invokevirtual 56, 3) := by decide +kernel
theorem dX3_spring_14 : decode cX3_spring 14 = .ok (.ireturn, 1) := by decide +kernel
set_option maxRecDepth 20000 in
theorem ggX3_load_X3_freshTrial : GoodIn wsX3_load wsX3_freshTrial := goodIn_r _ [5, 6, 7, 8, 9, 10, 11, 12, 13, 14, 15, 16, 17, 18, 19, 20, 21, 22, 64, 65, 66, 67, 68, 69, 70, 71, 72, 73, 74, 75, 76, 77] (by decide +kernel) (by decide +kernel)
set_option maxRecDepth 20000 in
theorem gX3_load_X3_freshTrial : GoodIn wsX3_load (wsV RX3 48 RX3 yX3_freshTrial wsX3_freshTrial) := goodIn_app (goodIn_of _ (by decide +kernel)) ggX3_load_X3_freshTrial
set_option maxRecDepth 20000 in
theorem ggX3_load_X0_setLoad : GoodIn wsX3_load wsX0_setLoad := goodIn_r _ [26, 27, 21, 28, 29, 30, 11, 31, 14, 72, 73, 74, 75, 76, 77] (by decide +kernel) (by decide +kernel)
set_option maxRecDepth 20000 in
theorem gX3_load_X0_setLoad : GoodIn wsX3_load (wsV RX3 70 RX0 yX0_setLoad wsX0_setLoad) := goodIn_app (goodIn_of _ (by decide +kernel)) ggX3_load_X0_setLoad
set_option maxRecDepth 20000 in
theorem ggX3_load_X3_keep : GoodIn wsX3_load wsX3_keep := goodIn_r _ [35, 7, 6, 36, 37, 38, 4, 39, 40, 41, 42, 43, 44, 45, 46, 47, 48, 11, 49, 50, 51, 52, 53, 54, 55, 56, 57, 58, 13, 14, 59, 15, 16, 21, 22, 60, 61, 62, 63, 8, 9, 10, 12, 17, 18, 19, 20, 64, 65, 66, 67, 68, 69, 70, 71, 72, 73, 74, 75, 76, 77] (by decide +kernel) (by decide +kernel)
set_option maxRecDepth 20000 in
theorem gX3_load_X3_keep : GoodIn wsX3_load (wsV RX3 56 RX3 yX3_keep wsX3_keep) := goodIn_app (goodIn_of _ (by decide +kernel)) ggX3_load_X3_keep
theorem dX3_load_0 : decode cX3_load 0 = .ok (.aload_n 0, 1) := by decide +kernel
theorem dX3_load_1 : decode cX3_load 1 = .ok (.aload_n 0, 1) := by decide +kernel
theorem dX3_load_2 : decode cX3_load 2 = .ok (.invokevirtual 48, 3) := by decide +kernel
theorem dX3_load_5 : decode cX3_load 5 = .ok (.iload_n 1, 1) := by decide +kernel
theorem dX3_load_6 : decode cX3_load 6 = .ok (.iload_n 2, 1) := by decide +kernel
theorem dX3_load_7 : decode cX3_load 7 = .ok (.invokevirtual 70, 3) := by decide +kernel
theorem dX3_load_10 : decode cX3_load 10 = .ok (.invokevirtual 56, 3) := by decide +kernel
theorem dX3_load_13 : decode cX3_load 13 = .ok (.ireturn, 1) := by decide +kernel
set_option maxRecDepth 20000 in
theorem ggX3_stop_X3_freshTrial : GoodIn wsX3_stop wsX3_freshTrial := goodIn_r _ [5, 6, 7, 8, 9, 10, 11, 12, 13, 14, 15, 16, 17, 18, 19, 20, 21, 22, 87, 88, 89, 90, 91, 92, 93, 94, 95, 96, 97, 98, 99, 100] (by decide +kernel) (by decide +kernel)
set_option maxRecDepth 20000 in
theorem gX3_stop_X3_freshTrial : GoodIn wsX3_stop (wsV RX3 48 RX3 yX3_freshTrial wsX3_freshTrial) := goodIn_app (goodIn_of _ (by decide +kernel)) ggX3_stop_X3_freshTrial
set_option maxRecDepth 20000 in
theorem ggX3_stop_X0_setStop : GoodIn wsX3_stop wsX0_setStop := goodIn_r _ [26, 13, 27, 22, 28, 29, 30, 31, 11, 32, 14, 33, 4, 34, 35, 36, 37, 38, 39, 40, 41, 42, 43, 44, 45, 46, 47, 48, 49, 50, 51, 52, 53, 54, 95, 96, 97, 98, 99, 100] (by decide +kernel) (by decide +kernel)
set_option maxRecDepth 20000 in
theorem gX3_stop_X0_setStop : GoodIn wsX3_stop (wsV RX3 74 RX0 yX0_setStop wsX0_setStop) := goodIn_app (goodIn_of _ (by decide +kernel)) ggX3_stop_X0_setStop
set_option maxRecDepth 20000 in
theorem ggX3_stop_X3_keep : GoodIn wsX3_stop wsX3_keep := goodIn_r _ [58, 7, 6, 59, 60, 61, 4, 62, 63, 64, 65, 66, 67, 68, 69, 70, 71, 11, 72, 73, 74, 75, 76, 77, 78, 79, 80, 81, 13, 14, 82, 15, 16, 21, 22, 83, 84, 85, 86, 8, 9, 10, 12, 17, 18, 19, 20, 87, 88, 89, 90, 91, 92, 93, 94, 95, 96, 97, 98, 99, 100] (by decide +kernel) (by decide +kernel)
set_option maxRecDepth 20000 in
theorem gX3_stop_X3_keep : GoodIn wsX3_stop (wsV RX3 56 RX3 yX3_keep wsX3_keep) := goodIn_app (goodIn_of _ (by decide +kernel)) ggX3_stop_X3_keep
theorem dX3_stop_0 : decode cX3_stop 0 = .ok (.aload_n 0, 1) := by decide +kernel
theorem dX3_stop_1 : decode cX3_stop 1 = .ok (.aload_n 0, 1) := by decide +kernel
theorem dX3_stop_2 : decode cX3_stop 2 = .ok (.invokevirtual 48, 3) := by decide +kernel
theorem dX3_stop_5 : decode cX3_stop 5 = .ok (.iload_n 1, 1) := by decide +kernel
theorem dX3_stop_6 : decode cX3_stop 6 = .ok (.iload_n 2, 1) := by decide +kernel
theorem dX3_stop_7 : decode cX3_stop 7 = .ok (.iload_n 3, 1) := by decide +kernel
theorem dX3_stop_8 : decode cX3_stop 8 = .ok (.invokevirtual 74, 3) := by decide +kernel
theorem dX3_stop_11 : decode cX3_stop 11 = .ok (.invokevirtual 56, 3) := by decide +kernel
theorem dX3_stop_14 : decode cX3_stop 14 = .ok (.ireturn, 1) := by decide +kernel
set_option maxRecDepth 20000 in
theorem ggX3_unstop_X3_freshTrial : GoodIn wsX3_unstop wsX3_freshTrial := goodIn_r _ [5, 6, 7, 8, 9, 10, 11, 12, 13, 14, 15, 16, 17, 18, 19, 20, 21, 22, 71, 72, 73, 74, 75, 76, 77, 78, 79, 80, 81, 82, 83, 84] (by decide +kernel) (by decide +kernel)
set_option maxRecDepth 20000 in
theorem gX3_unstop_X3_freshTrial : GoodIn wsX3_unstop (wsV RX3 48 RX3 yX3_freshTrial wsX3_freshTrial) := goodIn_app (goodIn_of _ (by decide +kernel)) ggX3_unstop_X3_freshTrial
set_option maxRecDepth 20000 in
theorem ggX3_unstop_X0_removeStop : GoodIn wsX3_unstop wsX0_removeStop := goodIn_r _ [26, 27, 28, 22, 29, 30, 31, 11, 32, 14, 33, 4, 34, 35, 36, 37, 38, 79, 80, 81, 82, 83, 84] (by decide +kernel) (by decide +kernel)
set_option maxRecDepth 20000 in
theorem gX3_unstop_X0_removeStop : GoodIn wsX3_unstop (wsV RX3 77 RX0 yX0_removeStop wsX0_removeStop) := goodIn_app (goodIn_of _ (by decide +kernel)) ggX3_unstop_X0_removeStop
set_option maxRecDepth 20000 in
theorem ggX3_unstop_X3_keep : GoodIn wsX3_unstop wsX3_keep := goodIn_r _ [42, 7, 6, 43, 44, 45, 4, 46, 47, 48, 49, 50, 51, 52, 53, 54, 55, 11, 56, 57, 58, 59, 60, 61, 62, 63, 64, 65, 13, 14, 66, 15, 16, 21, 22, 67, 68, 69, 70, 8, 9, 10, 12, 17, 18, 19, 20, 71, 72, 73, 74, 75, 76, 77, 78, 79, 80, 81, 82, 83, 84] (by decide +kernel) (by decide +kernel)
set_option maxRecDepth 20000 in
theorem gX3_unstop_X3_keep : GoodIn wsX3_unstop (wsV RX3 56 RX3 yX3_keep wsX3_keep) := goodIn_app (goodIn_of _ (by decide +kernel)) ggX3_unstop_X3_keep
theorem dX3_unstop_0 : decode cX3_unstop 0 = .ok (.aload_n 0, 1) := by decide +kernel
theorem dX3_unstop_1 : decode cX3_unstop 1 = .ok (.aload_n 0, 1) := by decide +kernel
theorem dX3_unstop_2 : decode cX3_unstop 2 = .ok (.invokevirtual 48, 3) := by decide +kernel
theorem dX3_unstop_5 : decode cX3_unstop 5 = .ok (.iload_n 1, 1) := by decide +kernel
theorem dX3_unstop_6 : decode cX3_unstop 6 = .ok (.iload_n 2, 1) := by decide +kernel
theorem dX3_unstop_7 : decode cX3_unstop 7 = .ok (.invokevirtual 77, 3) := by decide +kernel
theorem dX3_unstop_10 : decode cX3_unstop 10 = .ok (.invokevirtual 56, 3) := by decide +kernel
theorem dX3_unstop_13 : decode cX3_unstop 13 = .ok (.ireturn, 1) := by decide +kernel
set_option maxRecDepth 20000 in
theorem ggX3_plateOf_X0_hasPlate : GoodIn wsX3_plateOf wsX0_hasPlate := goodIn_r _ [10, 11, 30, 31, 32, 33, 34, 35] (by decide +kernel) (by decide +kernel)
set_option maxRecDepth 20000 in
theorem gX3_plateOf_X0_hasPlate : GoodIn wsX3_plateOf (wsV RX3 80 RX0 yX0_hasPlate wsX0_hasPlate) := goodIn_app (goodIn_of _ (by decide +kernel)) ggX3_plateOf_X0_hasPlate
set_option maxRecDepth 20000 in
theorem ggX3_plateOf_X0_stopOf : GoodIn wsX3_plateOf wsX0_stopOf := goodIn_r _ [15, 16, 30, 31, 32, 33, 34, 35] (by decide +kernel) (by decide +kernel)
set_option maxRecDepth 20000 in
theorem gX3_plateOf_X0_stopOf : GoodIn wsX3_plateOf (wsV RX3 89 RX0 yX0_stopOf wsX0_stopOf) := goodIn_app (goodIn_of _ (by decide +kernel)) ggX3_plateOf_X0_stopOf
set_option maxRecDepth 20000 in
theorem ggX3_plateOf_X3_placeOrNotFound : GoodIn wsX3_plateOf wsX3_placeOrNotFound := goodIn_r _ [20, 21] (by decide +kernel) (by decide +kernel)
set_option maxRecDepth 20000 in
theorem gX3_plateOf_X3_placeOrNotFound : GoodIn wsX3_plateOf (va_wsS RX3 92 yX3_placeOrNotFound wsX3_placeOrNotFound) := goodIn_app (goodIn_of _ (by decide +kernel)) ggX3_plateOf_X3_placeOrNotFound
theorem dX3_plateOf_0 : decode cX3_plateOf 0 = .ok (.aload_n 0, 1) := by decide +kernel
theorem dX3_plateOf_1 : decode cX3_plateOf 1 = .ok (.getfield 10, 3) := by decide +kernel
theorem dX3_plateOf_4 : decode cX3_plateOf 4 = .ok (.iload_n 1, 1) := by decide +kernel
theorem dX3_plateOf_5 : decode cX3_plateOf 5 = .ok (.invokevirtual 80, 3) := by decide +kernel
theorem dX3_plateOf_8 : decode cX3_plateOf 8 = .ok (.ifCond .ne 6, 3) := by decide +kernel
theorem dX3_plateOf_11 : decode cX3_plateOf 11 = .ok (.ldc 84, 2) := by decide +kernel
theorem dX3_plateOf_13 : decode cX3_plateOf 13 = .ok (.ireturn, 1) := by decide +kernel
theorem dX3_plateOf_14 : decode cX3_plateOf 14 = .ok (.iload_n 2, 1) := by decide +kernel
theorem dX3_plateOf_15 : decode cX3_plateOf 15 = .ok (.tableswitch 125 0 6 #[41, 55, 68, 81, 91, 101, 113], 41) := by decide +kernel
theorem dX3_plateOf_56 : decode cX3_plateOf 56 = .ok (.aload_n 0, 1) := by decide +kernel
theorem dX3_plateOf_57 : decode cX3_plateOf 57 = .ok (.getfield 10, 3) := by decide +kernel
theorem dX3_plateOf_60 : decode cX3_plateOf 60 = .ok (.getfield 85, 3) := by decide +kernel
theorem dX3_plateOf_63 : decode cX3_plateOf 63 = .ok (.iload_n 1, 1) := by decide +kernel
theorem dX3_plateOf_64 : decode cX3_plateOf 64 = .ok (.iaload, 1) := by decide +kernel
theorem dX3_plateOf_65 : decode cX3_plateOf 65 = .ok (.sipush 1000, 3) := by decide +kernel
theorem dX3_plateOf_68 : decode cX3_plateOf 68 = .ok (.iadd, 1) := by decide +kernel
theorem dX3_plateOf_69 : decode cX3_plateOf 69 = .ok (.ireturn, 1) := by decide +kernel
theorem dX3_plateOf_70 : decode cX3_plateOf 70 = .ok (.aload_n 0, 1) := by decide +kernel
theorem dX3_plateOf_71 : decode cX3_plateOf 71 = .ok (.getfield 10, 3) := by decide +kernel
theorem dX3_plateOf_74 : decode cX3_plateOf 74 = .ok (.iload_n 1, 1) := by decide +kernel
theorem dX3_plateOf_75 : decode cX3_plateOf 75 = .ok (.iconst 0, 1) := by decide +kernel
theorem dX3_plateOf_76 : decode cX3_plateOf 76 = .ok (.invokevirtual 89, 3) := by decide +kernel
theorem dX3_plateOf_79 : decode cX3_plateOf 79 = .ok (.invokestatic 92, 3) := by decide +kernel
theorem dX3_plateOf_82 : decode cX3_plateOf 82 = .ok (.ireturn, 1) := by decide +kernel
theorem dX3_plateOf_83 : decode cX3_plateOf 83 = .ok (.aload_n 0, 1) := by decide +kernel
theorem dX3_plateOf_84 : decode cX3_plateOf 84 = .ok (.getfield 10, 3) := by decide +kernel
theorem dX3_plateOf_87 : decode cX3_plateOf 87 = .ok (.iload_n 1, 1) := by decide +kernel
theorem dX3_plateOf_88 : decode cX3_plateOf 88 = .ok (.iconst 1, 1) := by decide +kernel
theorem dX3_plateOf_89 : decode cX3_plateOf 89 = .ok (.invokevirtual 89, 3) := by decide +kernel
theorem dX3_plateOf_92 : decode cX3_plateOf 92 = .ok (.invokestatic 92, 3) := by decide +kernel
theorem dX3_plateOf_95 : decode cX3_plateOf 95 = .ok (.ireturn, 1) := by decide +kernel
theorem dX3_plateOf_96 : decode cX3_plateOf 96 = .ok (.aload_n 0, 1) := by decide +kernel
theorem dX3_plateOf_97 : decode cX3_plateOf 97 = .ok (.getfield 10, 3) := by decide +kernel
theorem dX3_plateOf_100 : decode cX3_plateOf 100 = .ok (.getfield 95, 3) := by decide +kernel
theorem dX3_plateOf_103 : decode cX3_plateOf 103 = .ok (.iload_n 1, 1) := by decide +kernel
theorem dX3_plateOf_104 : decode cX3_plateOf 104 = .ok (.iaload, 1) := by decide +kernel
theorem dX3_plateOf_105 : decode cX3_plateOf 105 = .ok (.ireturn, 1) := by decide +kernel
theorem dX3_plateOf_106 : decode cX3_plateOf 106 = .ok (.aload_n 0, 1) := by decide +kernel
theorem dX3_plateOf_107 : decode cX3_plateOf 107 = .ok (.getfield 10, 3) := by decide +kernel
theorem dX3_plateOf_110 : decode cX3_plateOf 110 = .ok (.getfield 98, 3) := by decide +kernel
theorem dX3_plateOf_113 : decode cX3_plateOf 113 = .ok (.iload_n 1, 1) := by decide +kernel
theorem dX3_plateOf_114 : decode cX3_plateOf 114 = .ok (.iaload, 1) := by decide +kernel
theorem dX3_plateOf_115 : decode cX3_plateOf 115 = .ok (.ireturn, 1) := by decide +kernel
theorem dX3_plateOf_116 : decode cX3_plateOf 116 = .ok (.aload_n 0, 1) := by decide +kernel
theorem dX3_plateOf_117 : decode cX3_plateOf 117 = .ok (.getfield 10, 3) := by decide +kernel
theorem dX3_plateOf_120 : decode cX3_plateOf 120 = .ok (.getfield 95, 3) := by decide +kernel
theorem dX3_plateOf_123 : decode cX3_plateOf 123 = .ok (.iload_n 1, 1) := by decide +kernel
theorem dX3_plateOf_124 : decode cX3_plateOf 124 = .ok (.iconst 1, 1) := by decide +kernel
theorem dX3_plateOf_125 : decode cX3_plateOf 125 = .ok (.iadd, 1) := by decide +kernel
theorem dX3_plateOf_126 : decode cX3_plateOf 126 = .ok (.iaload, 1) := by decide +kernel
theorem dX3_plateOf_127 : decode cX3_plateOf 127 = .ok (.ireturn, 1) := by decide +kernel
theorem dX3_plateOf_128 : decode cX3_plateOf 128 = .ok (.aload_n 0, 1) := by decide +kernel
theorem dX3_plateOf_129 : decode cX3_plateOf 129 = .ok (.getfield 10, 3) := by decide +kernel
theorem dX3_plateOf_132 : decode cX3_plateOf 132 = .ok (.getfield 98, 3) := by decide +kernel
theorem dX3_plateOf_135 : decode cX3_plateOf 135 = .ok (.iload_n 1, 1) := by decide +kernel
theorem dX3_plateOf_136 : decode cX3_plateOf 136 = .ok (.iconst 1, 1) := by decide +kernel
theorem dX3_plateOf_137 : decode cX3_plateOf 137 = .ok (.iadd, 1) := by decide +kernel
theorem dX3_plateOf_138 : decode cX3_plateOf 138 = .ok (.iaload, 1) := by decide +kernel
theorem dX3_plateOf_139 : decode cX3_plateOf 139 = .ok (.ireturn, 1) := by decide +kernel
theorem dX3_plateOf_140 : decode cX3_plateOf 140 = .ok (.ldc 84, 2) := by decide +kernel
theorem dX3_plateOf_142 : decode cX3_plateOf 142 = .ok (.ireturn, 1) := by decide +kernel
theorem dX3_placeOrNotFound_0 : decode cX3_placeOrNotFound 0 = .ok (.iload_n 0, 1) := by decide +kernel
theorem dX3_placeOrNotFound_1 : decode cX3_placeOrNotFound 1 = .ok (.iconst (-1), 1) := by decide +kernel
theorem dX3_placeOrNotFound_2 : decode cX3_placeOrNotFound 2 = .ok (.if_icmp .ne 8, 3) := by decide +kernel
theorem dX3_placeOrNotFound_5 : decode cX3_placeOrNotFound 5 = .ok (.ldc 101, 2) := by decide +kernel
theorem dX3_placeOrNotFound_7 : decode cX3_placeOrNotFound 7 = .ok (.goto 4, 3) := by decide +kernel
theorem dX3_placeOrNotFound_10 : decode cX3_placeOrNotFound 10 = .ok (.iload_n 0, 1) := by decide +kernel
theorem dX3_placeOrNotFound_11 : decode cX3_placeOrNotFound 11 = .ok (.ireturn, 1) := by decide +kernel
set_option maxRecDepth 20000 in
theorem ggX3_freshTrial_X0_copyFrom : GoodIn wsX3_freshTrial wsX0_copyFrom := goodIn_r _ [7, 8, 9, 10, 11, 12, 13, 14, 6, 15, 16, 17, 26, 27, 28, 29, 30, 31] (by decide +kernel) (by decide +kernel)
set_option maxRecDepth 20000 in
theorem gX3_freshTrial_X0_copyFrom : GoodIn wsX3_freshTrial (wsV RX3 102 RX0 yX0_copyFrom wsX0_copyFrom) := goodIn_app (goodIn_of _ (by decide +kernel)) ggX3_freshTrial_X0_copyFrom
theorem dX3_freshTrial_0 : decode cX3_freshTrial 0 = .ok (.aload_n 0, 1) := by decide +kernel
theorem dX3_freshTrial_1 : decode cX3_freshTrial 1 = .ok (.getfield 16, 3) := by decide +kernel
theorem dX3_freshTrial_4 : decode cX3_freshTrial 4 = .ok (.aload_n 0, 1) := by decide +kernel
theorem dX3_freshTrial_5 : decode cX3_freshTrial 5 = .ok (.getfield 10, 3) := by decide +kernel
theorem dX3_freshTrial_8 : decode cX3_freshTrial 8 = .ok (.invokevirtual 102, 3) := by decide +kernel
theorem dX3_freshTrial_11 : decode cX3_freshTrial 11 = .ok (.aload_n 0, 1) := by decide +kernel
theorem dX3_freshTrial_12 : decode cX3_freshTrial 12 = .ok (.getfield 16, 3) := by decide +kernel
theorem dX3_freshTrial_15 : decode cX3_freshTrial 15 = .ok (.areturn, 1) := by decide +kernel
set_option maxRecDepth 20000 in
theorem ggX3_keep_X3_isError : GoodIn wsX3_keep wsX3_isError := goodIn_r _ [7, 8] (by decide +kernel) (by decide +kernel)
set_option maxRecDepth 20000 in
theorem gX3_keep_X3_isError : GoodIn wsX3_keep (va_wsS RX3 106 yX3_isError wsX3_isError) := goodIn_app (goodIn_of _ (by decide +kernel)) ggX3_keep_X3_isError
set_option maxRecDepth 20000 in
theorem ggX3_keep_X3_recordState : GoodIn wsX3_keep wsX3_recordState := goodIn_r _ [12, 13, 14, 15, 16, 17, 1, 18, 19, 20, 6, 21, 22, 23, 24, 25, 26, 27, 28, 29, 30, 31, 32, 33, 34, 35, 36, 37, 38, 39, 40, 41, 42, 43, 44, 45, 46, 47, 48, 49, 50, 51, 52, 53, 54, 55, 56, 57, 58, 59, 60] (by decide +kernel) (by decide +kernel)
set_option maxRecDepth 20000 in
theorem gX3_keep_X3_recordState : GoodIn wsX3_keep (wsV RX3 109 RX3 yX3_recordState wsX3_recordState) := goodIn_app (goodIn_of _ (by decide +kernel)) ggX3_keep_X3_recordState
set_option maxRecDepth 20000 in
theorem ggX3_keep_X0_copyFrom : GoodIn wsX3_keep wsX0_copyFrom := goodIn_r _ [42, 28, 29, 31, 32, 43, 44, 45, 17, 46, 33, 34, 55, 56, 57, 58, 59, 60] (by decide +kernel) (by decide +kernel)
set_option maxRecDepth 20000 in
theorem gX3_keep_X0_copyFrom : GoodIn wsX3_keep (wsV RX3 102 RX0 yX0_copyFrom wsX0_copyFrom) := goodIn_app (goodIn_of _ (by decide +kernel)) ggX3_keep_X0_copyFrom
theorem dX3_keep_0 : decode cX3_keep 0 = .ok (.iload_n 1, 1) := by decide +kernel
theorem dX3_keep_1 : decode cX3_keep 1 = .ok (.invokestatic 106, 3) := by decide +kernel
theorem dX3_keep_4 : decode cX3_keep 4 = .ok (.ifCond .eq 5, 3) := by decide +kernel
theorem dX3_keep_7 : decode cX3_keep 7 = .ok (.iload_n 1, 1) := by decide +kernel
theorem dX3_keep_8 : decode cX3_keep 8 = .ok (.ireturn, 1) := by decide +kernel
theorem dX3_keep_9 : decode cX3_keep 9 = .ok (.aload_n 0, 1) := by decide +kernel
theorem dX3_keep_10 : decode cX3_keep 10 = .ok (.invokevirtual 109, 3) := by decide +kernel
theorem dX3_keep_13 : decode cX3_keep 13 = .ok (.aload_n 0, 1) := by decide +kernel
theorem dX3_keep_14 : decode cX3_keep 14 = .ok (.getfield 10, 3) := by decide +kernel
theorem dX3_keep_17 : decode cX3_keep 17 = .ok (.aload_n 0, 1) := by decide +kernel
theorem dX3_keep_18 : decode cX3_keep 18 = .ok (.getfield 16, 3) := by decide +kernel
theorem dX3_keep_21 : decode cX3_keep 21 = .ok (.invokevirtual 102, 3) := by decide +kernel
theorem dX3_keep_24 : decode cX3_keep 24 = .ok (.aload_n 0, 1) := by decide +kernel
theorem dX3_keep_25 : decode cX3_keep 25 = .ok (.iconst 0, 1) := by decide +kernel
theorem dX3_keep_26 : decode cX3_keep 26 = .ok (.putfield 34, 3) := by decide +kernel
theorem dX3_keep_29 : decode cX3_keep 29 = .ok (.iload_n 1, 1) := by decide +kernel
theorem dX3_keep_30 : decode cX3_keep 30 = .ok (.ireturn, 1) := by decide +kernel
theorem dX3_isError_0 : decode cX3_isError 0 = .ok (.iload_n 0, 1) := by decide +kernel
theorem dX3_isError_1 : decode cX3_isError 1 = .ok (.ldc 84, 2) := by decide +kernel
theorem dX3_isError_3 : decode cX3_isError 3 = .ok (.if_icmp .gt 7, 3) := by decide +kernel
theorem dX3_isError_6 : decode cX3_isError 6 = .ok (.iconst 1, 1) := by decide +kernel
theorem dX3_isError_7 : decode cX3_isError 7 = .ok (.goto 4, 3) := by decide +kernel
theorem dX3_isError_10 : decode cX3_isError 10 = .ok (.iconst 0, 1) := by decide +kernel
theorem dX3_isError_11 : decode cX3_isError 11 = .ok (.ireturn, 1) := by decide +kernel
set_option maxRecDepth 20000 in
theorem ggX3_recordState_X3_forgetOldestState : GoodIn wsX3_recordState wsX3_forgetOldestState := goodIn_r _ [11, 2, 1, 37, 38, 39, 40, 41, 42, 43, 44] (by decide +kernel) (by decide +kernel)
set_option maxRecDepth 20000 in
theorem gX3_recordState_X3_forgetOldestState : GoodIn wsX3_recordState (wsV RX3 112 RX3 yX3_forgetOldestState wsX3_forgetOldestState) := goodIn_app (goodIn_of _ (by decide +kernel)) ggX3_recordState_X3_forgetOldestState
set_option maxRecDepth 20000 in
theorem ggX3_recordState_X0_init : GoodIn wsX3_recordState wsX0_init := goodIn_r _ [14, 15, 16, 17, 18, 19, 20, 21, 22, 23, 24, 25, 26, 27, 5, 28, 45, 46, 47, 48, 49, 50] (by decide +kernel) (by decide +kernel)
set_option maxRecDepth 20000 in
theorem gX3_recordState_X0_init : GoodIn wsX3_recordState (wsX0_init) := ggX3_recordState_X0_init
set_option maxRecDepth 20000 in
theorem ggX3_recordState_X0_copyFrom : GoodIn wsX3_recordState wsX0_copyFrom := goodIn_r _ [32, 18, 19, 21, 22, 33, 34, 35, 5, 36, 23, 24, 45, 46, 47, 48, 49, 50] (by decide +kernel) (by decide +kernel)
set_option maxRecDepth 20000 in
theorem gX3_recordState_X0_copyFrom : GoodIn wsX3_recordState (wsV RX3 102 RX0 yX0_copyFrom wsX0_copyFrom) := goodIn_app (goodIn_of _ (by decide +kernel)) ggX3_recordState_X0_copyFrom
theorem dX3_recordState_0 : decode cX3_recordState 0 = .ok (.aload_n 0, 1) := by decide +kernel
theorem dX3_recordState_1 : decode cX3_recordState 1 = .ok (.getfield 23, 3) := by decide +kernel
theorem dX3_recordState_4 : decode cX3_recordState 4 = .ok (.iconst 4, 1) := by decide +kernel
theorem dX3_recordState_5 : decode cX3_recordState 5 = .ok (.if_icmp .lt 7, 3) := by decide +kernel
theorem dX3_recordState_8 : decode cX3_recordState 8 = .ok (.aload_n 0, 1) := by decide +kernel
theorem dX3_recordState_9 : decode cX3_recordState 9 = .ok (.invokevirtual 112, 3) := by decide +kernel
theorem dX3_recordState_12 : decode cX3_recordState 12 = .ok (.aload_n 0, 1) := by decide +kernel
theorem dX3_recordState_13 : decode cX3_recordState 13 = .ok (.getfield 19, 3) := by decide +kernel
theorem dX3_recordState_16 : decode cX3_recordState 16 = .ok (.aload_n 0, 1) := by decide +kernel
theorem dX3_recordState_17 : decode cX3_recordState 17 = .ok (.getfield 23, 3) := by decide +kernel
theorem dX3_recordState_20 : decode cX3_recordState 20 = .ok (.aaload, 1) := by decide +kernel
theorem dX3_recordState_21 : decode cX3_recordState 21 = .ok (.astore_n 1, 1) := by decide +kernel
theorem dX3_recordState_22 : decode cX3_recordState 22 = .ok (.aload_n 1, 1) := by decide +kernel
theorem dX3_recordState_23 : decode cX3_recordState 23 = .ok (.ifnonnull 21, 3) := by decide +kernel
theorem dX3_recordState_26 : decode cX3_recordState 26 = .ok (.new 7, 3) := by decide +kernel
theorem dX3_recordState_29 : decode cX3_recordState 29 = .ok (.dup, 1) := by decide +kernel
theorem dX3_recordState_30 : decode cX3_recordState 30 = .ok (.invokespecial 9, 3) := by decide +kernel
theorem dX3_recordState_33 : decode cX3_recordState 33 = .ok (.astore_n 1, 1) := by decide +kernel
theorem dX3_recordState_34 : decode cX3_recordState 34 = .ok (.aload_n 0, 1) := by decide +kernel
theorem dX3_recordState_35 : decode cX3_recordState 35 = .ok (.getfield 19, 3) := by decide +kernel
theorem dX3_recordState_38 : decode cX3_recordState 38 = .ok (.aload_n 0, 1) := by decide +kernel
theorem dX3_recordState_39 : decode cX3_recordState 39 = .ok (.getfield 23, 3) := by decide +kernel
theorem dX3_recordState_42 : decode cX3_recordState 42 = .ok (.aload_n 1, 1) := by decide +kernel
theorem dX3_recordState_43 : decode cX3_recordState 43 = .ok (.aastore, 1) := by decide +kernel
theorem dX3_recordState_44 : decode cX3_recordState 44 = .ok (.aload_n 1, 1) := by decide +kernel
theorem dX3_recordState_45 : decode cX3_recordState 45 = .ok (.aload_n 0, 1) := by decide +kernel
theorem dX3_recordState_46 : decode cX3_recordState 46 = .ok (.getfield 10, 3) := by decide +kernel
theorem dX3_recordState_49 : decode cX3_recordState 49 = .ok (.invokevirtual 102, 3) := by decide +kernel
theorem dX3_recordState_52 : decode cX3_recordState 52 = .ok (.aload_n 0, 1) := by decide +kernel
theorem dX3_recordState_53 : decode cX3_recordState 53 = .ok (.dup, 1) := by decide +kernel
theorem dX3_recordState_54 : decode cX3_recordState 54 = .ok (.getfield 23, 3) := by decide +kernel
theorem dX3_recordState_57 : decode cX3_recordState 57 = .ok (.iconst 1, 1) := by decide +kernel
theorem dX3_recordState_58 : decode cX3_recordState 58 = .ok (.iadd, 1) := by decide +kernel
theorem dX3_recordState_59 : decode cX3_recordState 59 = .ok (.putfield 23, 3) := by decide +kernel
theorem dX3_recordState_62 : decode cX3_recordState 62 = .ok (.return_, 1) := by decide +kernel
theorem dX3_forgetOldestState_0 : decode cX3_forgetOldestState 0 = .ok (.aload_n 0, 1) := by decide +kernel
theorem dX3_forgetOldestState_1 : decode cX3_forgetOldestState 1 = .ok (.getfield 19, 3) := by decide +kernel
theorem dX3_forgetOldestState_4 : decode cX3_forgetOldestState 4 = .ok (.iconst 0, 1) := by decide +kernel
theorem dX3_forgetOldestState_5 : decode cX3_forgetOldestState 5 = .ok (.aaload, 1) := by decide +kernel
theorem dX3_forgetOldestState_6 : decode cX3_forgetOldestState 6 = .ok (.astore_n 1, 1) := by decide +kernel
theorem dX3_forgetOldestState_7 : decode cX3_forgetOldestState 7 = .ok (.iconst 1, 1) := by decide +kernel
theorem dX3_forgetOldestState_8 : decode cX3_forgetOldestState 8 = .ok (.istore_n 2, 1) := by decide +kernel
theorem dX3_forgetOldestState_9 : decode cX3_forgetOldestState 9 = .ok (.iload_n 2, 1) := by decide +kernel
theorem dX3_forgetOldestState_10 : decode cX3_forgetOldestState 10 = .ok (.iconst 4, 1) := by decide +kernel
theorem dX3_forgetOldestState_11 : decode cX3_forgetOldestState 11 = .ok (.if_icmp .ge 23, 3) := by decide +kernel
theorem dX3_forgetOldestState_14 : decode cX3_forgetOldestState 14 = .ok (.aload_n 0, 1) := by decide +kernel
theorem dX3_forgetOldestState_15 : decode cX3_forgetOldestState 15 = .ok (.getfield 19, 3) := by decide +kernel
theorem dX3_forgetOldestState_18 : decode cX3_forgetOldestState 18 = .ok (.iload_n 2, 1) := by decide +kernel
theorem dX3_forgetOldestState_19 : decode cX3_forgetOldestState 19 = .ok (.iconst 1, 1) := by decide +kernel
theorem dX3_forgetOldestState_20 : decode cX3_forgetOldestState 20 = .ok (.isub, 1) := by decide +kernel
theorem dX3_forgetOldestState_21 : decode cX3_forgetOldestState 21 = .ok (.aload_n 0, 1) := by decide +kernel
theorem dX3_forgetOldestState_22 : decode cX3_forgetOldestState 22 = .ok (.getfield 19, 3) := by decide +kernel
theorem dX3_forgetOldestState_25 : decode cX3_forgetOldestState 25 = .ok (.iload_n 2, 1) := by decide +kernel
theorem dX3_forgetOldestState_26 : decode cX3_forgetOldestState 26 = .ok (.aaload, 1) := by decide +kernel
theorem dX3_forgetOldestState_27 : decode cX3_forgetOldestState 27 = .ok (.aastore, 1) := by decide +kernel
theorem dX3_forgetOldestState_28 : decode cX3_forgetOldestState 28 = .ok (.iinc 2 1, 3) := by decide +kernel
theorem dX3_forgetOldestState_31 : decode cX3_forgetOldestState 31 = .ok (.goto (-22), 3) := by decide +kernel
theorem dX3_forgetOldestState_34 : decode cX3_forgetOldestState 34 = .ok (.aload_n 0, 1) := by decide +kernel
theorem dX3_forgetOldestState_35 : decode cX3_forgetOldestState 35 = .ok (.getfield 19, 3) := by decide +kernel
theorem dX3_forgetOldestState_38 : decode cX3_forgetOldestState 38 = .ok (.iconst 3, 1) := by decide +kernel
theorem dX3_forgetOldestState_39 : decode cX3_forgetOldestState 39 = .ok (.aload_n 1, 1) := by decide +kernel
theorem dX3_forgetOldestState_40 : decode cX3_forgetOldestState 40 = .ok (.aastore, 1) := by decide +kernel
theorem dX3_forgetOldestState_41 : decode cX3_forgetOldestState 41 = .ok (.aload_n 0, 1) := by decide +kernel
theorem dX3_forgetOldestState_42 : decode cX3_forgetOldestState 42 = .ok (.iconst 3, 1) := by decide +kernel
theorem dX3_forgetOldestState_43 : decode cX3_forgetOldestState 43 = .ok (.putfield 23, 3) := by decide +kernel
theorem dX3_forgetOldestState_46 : decode cX3_forgetOldestState 46 = .ok (.return_, 1) := by decide +kernel
set_option maxRecDepth 20000 in
theorem ggX3_place_X0_hasPlate : GoodIn wsX3_place wsX0_hasPlate := goodIn_r _ [8, 9, 149, 150, 151, 152, 153, 154] (by decide +kernel) (by decide +kernel)
set_option maxRecDepth 20000 in
theorem gX3_place_X0_hasPlate : GoodIn wsX3_place (wsV RX3 80 RX0 yX0_hasPlate wsX0_hasPlate) := goodIn_app (goodIn_of _ (by decide +kernel)) ggX3_place_X0_hasPlate
set_option maxRecDepth 20000 in
theorem ggX3_place_X3_settled : GoodIn wsX3_place wsX3_settled := goodIn_r _ [14, 15, 16, 1, 17, 18, 19, 20, 21, 22, 23, 24, 25, 26, 27, 28, 29, 30, 31, 32, 33, 34, 35, 36, 37, 38, 39, 7, 40, 41, 42, 43, 44, 45, 46, 47, 48, 49, 50, 51, 52, 53, 54, 55, 56, 57, 58, 59, 60, 61, 62, 63, 64, 65, 66, 67, 68, 69, 70, 71, 72, 73, 74, 75, 76, 77, 78, 79, 80, 13, 81, 82, 83, 84, 85, 86, 87, 88, 89, 90, 91, 92, 93, 94, 95, 96, 97, 98, 99, 100, 101, 102, 103, 104, 105, 106, 107, 108, 109, 110, 111, 112, 113, 114, 131, 132, 133, 134, 135, 136, 137, 138, 149, 150, 151, 152, 153, 154, 139, 140, 141, 142, 143, 144, 145, 146, 147, 148] (by decide +kernel) (by decide +kernel)
set_option maxRecDepth 20000 in
theorem gX3_place_X3_settled : GoodIn wsX3_place (wsV RX3 115 RX3 yX3_settled wsX3_settled) := goodIn_app (goodIn_of _ (by decide +kernel)) ggX3_place_X3_settled
set_option maxRecDepth 20000 in
theorem ggX3_place_X1_wholePlaceOf : GoodIn wsX3_place wsX1_wholePlaceOf := goodIn_r _ [118, 89, 90, 119, 120, 121, 122, 139, 140, 141, 142, 143, 144, 145, 146, 147, 148] (by decide +kernel) (by decide +kernel)
set_option maxRecDepth 20000 in
theorem gX3_place_X1_wholePlaceOf : GoodIn wsX3_place (wsV RX3 119 RX1 yX1_wholePlaceOf wsX1_wholePlaceOf) := goodIn_app (goodIn_of _ (by decide +kernel)) ggX3_place_X1_wholePlaceOf
set_option maxRecDepth 20000 in
theorem ggX3_place_X1_upperPlaceOf : GoodIn wsX3_place wsX1_upperPlaceOf := goodIn_r _ [126, 90, 139, 140, 141, 142, 143, 144, 145, 146, 147, 148] (by decide +kernel) (by decide +kernel)
set_option maxRecDepth 20000 in
theorem gX3_place_X1_upperPlaceOf : GoodIn wsX3_place (wsV RX3 122 RX1 yX1_upperPlaceOf wsX1_upperPlaceOf) := goodIn_app (goodIn_of _ (by decide +kernel)) ggX3_place_X1_upperPlaceOf
set_option maxRecDepth 20000 in
theorem ggX3_place_X3_inLowestTerms : GoodIn wsX3_place wsX3_inLowestTerms := goodIn_r _ [129, 130, 80, 13, 81, 82, 83, 29, 84] (by decide +kernel) (by decide +kernel)
set_option maxRecDepth 20000 in
theorem gX3_place_X3_inLowestTerms : GoodIn wsX3_place (va_wsS RX3 130 yX3_inLowestTerms wsX3_inLowestTerms) := goodIn_app (goodIn_of _ (by decide +kernel)) ggX3_place_X3_inLowestTerms
theorem dX3_place_0 : decode cX3_place 0 = .ok (.aload_n 0, 1) := by decide +kernel
theorem dX3_place_1 : decode cX3_place 1 = .ok (.getfield 10, 3) := by decide +kernel
theorem dX3_place_4 : decode cX3_place 4 = .ok (.iload_n 1, 1) := by decide +kernel
theorem dX3_place_5 : decode cX3_place 5 = .ok (.invokevirtual 80, 3) := by decide +kernel
theorem dX3_place_8 : decode cX3_place 8 = .ok (.ifCond .eq 12, 3) := by decide +kernel
theorem dX3_place_11 : decode cX3_place 11 = .ok (.iload_n 2, 1) := by decide +kernel
theorem dX3_place_12 : decode cX3_place 12 = .ok (.ifCond .lt 8, 3) := by decide +kernel
theorem dX3_place_15 : decode cX3_place 15 = .ok (.iload_n 2, 1) := by decide +kernel
theorem dX3_place_16 : decode cX3_place 16 = .ok (.iconst 2, 1) := by decide +kernel
theorem dX3_place_17 : decode cX3_place 17 = .ok (.if_icmp .le 6, 3) := by decide +kernel
theorem dX3_place_20 : decode cX3_place 20 = .ok (.ldc 84, 2) := by decide +kernel
theorem dX3_place_22 : decode cX3_place 22 = .ok (.ireturn, 1) := by decide +kernel
theorem dX3_place_23 : decode cX3_place 23 = .ok (.aload_n 0, 1) := by decide +kernel
theorem dX3_place_24 : decode cX3_place 24 = .ok (.invokevirtual 115, 3) := by decide +kernel
theorem dX3_place_27 : decode cX3_place 27 = .ok (.astore_n 3, 1) := by decide +kernel
theorem dX3_place_28 : decode cX3_place 28 = .ok (.iload_n 2, 1) := by decide +kernel
theorem dX3_place_29 : decode cX3_place 29 = .ok (.iconst 2, 1) := by decide +kernel
theorem dX3_place_30 : decode cX3_place 30 = .ok (.if_icmp .ne 9, 3) := by decide +kernel
theorem dX3_place_33 : decode cX3_place 33 = .ok (.aload_n 3, 1) := by decide +kernel
theorem dX3_place_34 : decode cX3_place 34 = .ok (.iload_n 1, 1) := by decide +kernel
theorem dX3_place_35 : decode cX3_place 35 = .ok (.invokevirtual 119, 3) := by decide +kernel
theorem dX3_place_38 : decode cX3_place 38 = .ok (.ireturn, 1) := by decide +kernel
theorem dX3_place_39 : decode cX3_place 39 = .ok (.aload_n 3, 1) := by decide +kernel
theorem dX3_place_40 : decode cX3_place 40 = .ok (.iload_n 1, 1) := by decide +kernel
theorem dX3_place_41 : decode cX3_place 41 = .ok (.invokevirtual 122, 3) := by decide +kernel
theorem dX3_place_44 : decode cX3_place 44 = .ok (.aload_n 3, 1) := by decide +kernel
theorem dX3_place_45 : decode cX3_place 45 = .ok (.getfield 126, 3) := by decide +kernel
theorem dX3_place_48 : decode cX3_place 48 = .ok (.iload_n 2, 1) := by decide +kernel
theorem dX3_place_49 : decode cX3_place 49 = .ok (.invokestatic 130, 3) := by decide +kernel
theorem dX3_place_52 : decode cX3_place 52 = .ok (.l2i, 1) := by decide +kernel
theorem dX3_place_53 : decode cX3_place 53 = .ok (.ireturn, 1) := by decide +kernel
set_option maxRecDepth 20000 in
theorem ggX3_pull_X0_hasSpring : GoodIn wsX3_pull wsX0_hasSpring := goodIn_r _ [8, 9, 145, 146, 147, 148, 149, 150] (by decide +kernel) (by decide +kernel)
set_option maxRecDepth 20000 in
theorem gX3_pull_X0_hasSpring : GoodIn wsX3_pull (wsV RX3 134 RX0 yX0_hasSpring wsX0_hasSpring) := goodIn_app (goodIn_of _ (by decide +kernel)) ggX3_pull_X0_hasSpring
set_option maxRecDepth 20000 in
theorem ggX3_pull_X3_isPart : GoodIn wsX3_pull wsX3_isPart := goodIn_r _ [13] (by decide +kernel) (by decide +kernel)
set_option maxRecDepth 20000 in
theorem gX3_pull_X3_isPart : GoodIn wsX3_pull (va_wsS RX3 137 yX3_isPart wsX3_isPart) := goodIn_app (goodIn_of _ (by decide +kernel)) ggX3_pull_X3_isPart
set_option maxRecDepth 20000 in
theorem ggX3_pull_X3_settled : GoodIn wsX3_pull wsX3_settled := goodIn_r _ [17, 18, 19, 1, 20, 21, 22, 23, 24, 25, 26, 27, 28, 29, 30, 31, 32, 33, 34, 35, 36, 37, 38, 39, 40, 41, 42, 7, 43, 44, 45, 46, 47, 48, 49, 50, 51, 52, 53, 54, 55, 56, 57, 58, 59, 60, 61, 62, 63, 64, 65, 66, 67, 68, 69, 70, 71, 72, 73, 74, 75, 76, 77, 78, 79, 80, 81, 82, 83, 12, 84, 85, 86, 87, 88, 89, 90, 91, 92, 93, 94, 95, 96, 97, 98, 99, 100, 101, 102, 103, 104, 105, 106, 107, 108, 109, 110, 111, 112, 113, 114, 115, 116, 117, 127, 128, 129, 130, 131, 132, 133, 134, 145, 146, 147, 148, 149, 150, 135, 136, 137, 138, 139, 140, 141, 142, 143, 144] (by decide +kernel) (by decide +kernel)
set_option maxRecDepth 20000 in
theorem gX3_pull_X3_settled : GoodIn wsX3_pull (wsV RX3 115 RX3 yX3_settled wsX3_settled) := goodIn_app (goodIn_of _ (by decide +kernel)) ggX3_pull_X3_settled
set_option maxRecDepth 20000 in
theorem ggX3_pull_X1_tensionOf : GoodIn wsX3_pull wsX1_tensionOf := goodIn_r _ [109, 93, 63, 64, 92, 135, 136, 137, 138, 139, 140, 141, 142, 143, 144, 145, 146, 147, 148, 149, 150] (by decide +kernel) (by decide +kernel)
set_option maxRecDepth 20000 in
theorem gX3_pull_X1_tensionOf : GoodIn wsX3_pull (wsV RX3 140 RX1 yX1_tensionOf wsX1_tensionOf) := goodIn_app (goodIn_of _ (by decide +kernel)) ggX3_pull_X1_tensionOf
set_option maxRecDepth 20000 in
theorem ggX3_pull_X3_forcePart : GoodIn wsX3_pull wsX3_forcePart := goodIn_r _ [121, 122, 123, 124, 12, 125, 126, 83, 84, 85, 86, 32, 87] (by decide +kernel) (by decide +kernel)
set_option maxRecDepth 20000 in
theorem gX3_pull_X3_forcePart : GoodIn wsX3_pull (va_wsS RX3 144 yX3_forcePart wsX3_forcePart) := goodIn_app (goodIn_of _ (by decide +kernel)) ggX3_pull_X3_forcePart
theorem dX3_pull_0 : decode cX3_pull 0 = .ok (.aload_n 0, 1) := by decide +kernel
theorem dX3_pull_1 : decode cX3_pull 1 = .ok (.getfield 10, 3) := by decide +kernel
theorem dX3_pull_4 : decode cX3_pull 4 = .ok (.iload_n 1, 1) := by decide +kernel
theorem dX3_pull_5 : decode cX3_pull 5 = .ok (.invokevirtual 134, 3) := by decide +kernel
theorem dX3_pull_8 : decode cX3_pull 8 = .ok (.ifCond .eq 10, 3) := by decide +kernel
theorem dX3_pull_11 : decode cX3_pull 11 = .ok (.iload_n 2, 1) := by decide +kernel
theorem dX3_pull_12 : decode cX3_pull 12 = .ok (.invokestatic 137, 3) := by decide +kernel
theorem dX3_pull_15 : decode cX3_pull 15 = .ok (.ifCond .ne 6, 3) := by decide +kernel
theorem dX3_pull_18 : decode cX3_pull 18 = .ok (.ldc 84, 2) := by decide +kernel
theorem dX3_pull_20 : decode cX3_pull 20 = .ok (.ireturn, 1) := by decide +kernel
theorem dX3_pull_21 : decode cX3_pull 21 = .ok (.aload_n 0, 1) := by decide +kernel
theorem dX3_pull_22 : decode cX3_pull 22 = .ok (.invokevirtual 115, 3) := by decide +kernel
theorem dX3_pull_25 : decode cX3_pull 25 = .ok (.astore_n 3, 1) := by decide +kernel
theorem dX3_pull_26 : decode cX3_pull 26 = .ok (.aload_n 3, 1) := by decide +kernel
theorem dX3_pull_27 : decode cX3_pull 27 = .ok (.aload_n 0, 1) := by decide +kernel
theorem dX3_pull_28 : decode cX3_pull 28 = .ok (.getfield 10, 3) := by decide +kernel
theorem dX3_pull_31 : decode cX3_pull 31 = .ok (.iload_n 1, 1) := by decide +kernel
theorem dX3_pull_32 : decode cX3_pull 32 = .ok (.invokevirtual 140, 3) := by decide +kernel
theorem dX3_pull_35 : decode cX3_pull 35 = .ok (.aload_n 3, 1) := by decide +kernel
theorem dX3_pull_36 : decode cX3_pull 36 = .ok (.getfield 126, 3) := by decide +kernel
theorem dX3_pull_39 : decode cX3_pull 39 = .ok (.iload_n 2, 1) := by decide +kernel
theorem dX3_pull_40 : decode cX3_pull 40 = .ok (.invokestatic 144, 3) := by decide +kernel
theorem dX3_pull_43 : decode cX3_pull 43 = .ok (.ireturn, 1) := by decide +kernel
set_option maxRecDepth 20000 in
theorem ggX3_push_X0_hasPlate : GoodIn wsX3_push wsX0_hasPlate := goodIn_r _ [8, 9, 145, 146, 147, 148, 149, 150] (by decide +kernel) (by decide +kernel)
set_option maxRecDepth 20000 in
theorem gX3_push_X0_hasPlate : GoodIn wsX3_push (wsV RX3 80 RX0 yX0_hasPlate wsX0_hasPlate) := goodIn_app (goodIn_of _ (by decide +kernel)) ggX3_push_X0_hasPlate
set_option maxRecDepth 20000 in
theorem ggX3_push_X3_isPart : GoodIn wsX3_push wsX3_isPart := goodIn_r _ [13] (by decide +kernel) (by decide +kernel)
set_option maxRecDepth 20000 in
theorem gX3_push_X3_isPart : GoodIn wsX3_push (va_wsS RX3 137 yX3_isPart wsX3_isPart) := goodIn_app (goodIn_of _ (by decide +kernel)) ggX3_push_X3_isPart
set_option maxRecDepth 20000 in
theorem ggX3_push_X3_settled : GoodIn wsX3_push wsX3_settled := goodIn_r _ [17, 18, 19, 1, 20, 21, 22, 23, 24, 25, 26, 27, 28, 29, 30, 31, 32, 33, 34, 35, 36, 37, 38, 39, 40, 41, 42, 7, 43, 44, 45, 46, 47, 48, 49, 50, 51, 52, 53, 54, 55, 56, 57, 58, 59, 60, 61, 62, 63, 64, 65, 66, 67, 68, 69, 70, 71, 72, 73, 74, 75, 76, 77, 78, 79, 80, 81, 82, 83, 12, 84, 85, 86, 87, 88, 89, 90, 91, 92, 93, 94, 95, 96, 97, 98, 99, 100, 101, 102, 103, 104, 105, 106, 107, 108, 109, 110, 111, 112, 113, 114, 115, 116, 117, 127, 128, 129, 130, 131, 132, 133, 134, 145, 146, 147, 148, 149, 150, 135, 136, 137, 138, 139, 140, 141, 142, 143, 144] (by decide +kernel) (by decide +kernel)
set_option maxRecDepth 20000 in
theorem gX3_push_X3_settled : GoodIn wsX3_push (wsV RX3 115 RX3 yX3_settled wsX3_settled) := goodIn_app (goodIn_of _ (by decide +kernel)) ggX3_push_X3_settled
set_option maxRecDepth 20000 in
theorem ggX3_push_X1_forceOn : GoodIn wsX3_push wsX1_forceOn := goodIn_r _ [105, 92, 72, 73, 74, 7, 75, 76, 106, 107, 108, 23, 109, 93, 63, 64, 135, 136, 137, 138, 139, 140, 141, 142, 143, 144, 145, 146, 147, 148, 149, 150] (by decide +kernel) (by decide +kernel)
set_option maxRecDepth 20000 in
theorem gX3_push_X1_forceOn : GoodIn wsX3_push (wsV RX3 148 RX1 yX1_forceOn wsX1_forceOn) := goodIn_app (goodIn_of _ (by decide +kernel)) ggX3_push_X1_forceOn
set_option maxRecDepth 20000 in
theorem ggX3_push_X3_forcePart : GoodIn wsX3_push wsX3_forcePart := goodIn_r _ [121, 122, 123, 124, 12, 125, 126, 83, 84, 85, 86, 32, 87] (by decide +kernel) (by decide +kernel)
set_option maxRecDepth 20000 in
theorem gX3_push_X3_forcePart : GoodIn wsX3_push (va_wsS RX3 144 yX3_forcePart wsX3_forcePart) := goodIn_app (goodIn_of _ (by decide +kernel)) ggX3_push_X3_forcePart
theorem dX3_push_0 : decode cX3_push 0 = .ok (.aload_n 0, 1) := by decide +kernel
theorem dX3_push_1 : decode cX3_push 1 = .ok (.getfield 10, 3) := by decide +kernel
theorem dX3_push_4 : decode cX3_push 4 = .ok (.iload_n 1, 1) := by decide +kernel
theorem dX3_push_5 : decode cX3_push 5 = .ok (.invokevirtual 80, 3) := by decide +kernel
theorem dX3_push_8 : decode cX3_push 8 = .ok (.ifCond .eq 10, 3) := by decide +kernel
theorem dX3_push_11 : decode cX3_push 11 = .ok (.iload_n 2, 1) := by decide +kernel
theorem dX3_push_12 : decode cX3_push 12 = .ok (.invokestatic 137, 3) := by decide +kernel
theorem dX3_push_15 : decode cX3_push 15 = .ok (.ifCond .ne 6, 3) := by decide +kernel
theorem dX3_push_18 : decode cX3_push 18 = .ok (.ldc 84, 2) := by decide +kernel
theorem dX3_push_20 : decode cX3_push 20 = .ok (.ireturn, 1) := by decide +kernel
theorem dX3_push_21 : decode cX3_push 21 = .ok (.aload_n 0, 1) := by decide +kernel
theorem dX3_push_22 : decode cX3_push 22 = .ok (.invokevirtual 115, 3) := by decide +kernel
theorem dX3_push_25 : decode cX3_push 25 = .ok (.astore_n 3, 1) := by decide +kernel
theorem dX3_push_26 : decode cX3_push 26 = .ok (.aload_n 3, 1) := by decide +kernel
theorem dX3_push_27 : decode cX3_push 27 = .ok (.aload_n 0, 1) := by decide +kernel
theorem dX3_push_28 : decode cX3_push 28 = .ok (.getfield 10, 3) := by decide +kernel
theorem dX3_push_31 : decode cX3_push 31 = .ok (.iload_n 1, 1) := by decide +kernel
theorem dX3_push_32 : decode cX3_push 32 = .ok (.iload_n 1, 1) := by decide +kernel
theorem dX3_push_33 : decode cX3_push 33 = .ok (.invokevirtual 148, 3) := by decide +kernel
theorem dX3_push_36 : decode cX3_push 36 = .ok (.lneg, 1) := by decide +kernel
theorem dX3_push_37 : decode cX3_push 37 = .ok (.aload_n 3, 1) := by decide +kernel
theorem dX3_push_38 : decode cX3_push 38 = .ok (.getfield 126, 3) := by decide +kernel
theorem dX3_push_41 : decode cX3_push 41 = .ok (.iload_n 2, 1) := by decide +kernel
theorem dX3_push_42 : decode cX3_push 42 = .ok (.invokestatic 144, 3) := by decide +kernel
theorem dX3_push_45 : decode cX3_push 45 = .ok (.ireturn, 1) := by decide +kernel
set_option maxRecDepth 20000 in
theorem ggX3_plates_X3_settled : GoodIn wsX3_plates wsX3_settled := goodIn_r _ [8, 9, 10, 2, 11, 12, 13, 14, 15, 16, 17, 18, 19, 20, 21, 22, 23, 24, 25, 26, 27, 28, 29, 30, 31, 32, 33, 34, 35, 36, 37, 38, 39, 40, 41, 42, 43, 44, 45, 46, 47, 48, 49, 50, 51, 52, 53, 54, 55, 56, 57, 58, 59, 60, 61, 62, 63, 64, 65, 66, 67, 68, 69, 70, 71, 72, 73, 74, 75, 7, 76, 77, 78, 79, 80, 81, 82, 83, 84, 85, 86, 87, 88, 89, 90, 91, 92, 93, 94, 95, 96, 97, 98, 99, 100, 101, 102, 103, 104, 105, 106, 107, 108, 109, 123, 124, 125, 126, 127, 128, 129, 130, 131, 132, 133, 134, 135, 136, 137, 138, 139, 140, 141, 142, 143, 144, 145, 146] (by decide +kernel) (by decide +kernel)
set_option maxRecDepth 20000 in
theorem gX3_plates_X3_settled : GoodIn wsX3_plates (wsV RX3 115 RX3 yX3_settled wsX3_settled) := goodIn_app (goodIn_of _ (by decide +kernel)) ggX3_plates_X3_settled
set_option maxRecDepth 20000 in
theorem ggX3_plates_X3_isAmong : GoodIn wsX3_plates wsX3_isAmong := goodIn_r _ [113, 2, 3, 114, 115, 116, 117, 7, 118, 119, 37, 38, 34, 39, 40, 120, 107, 108, 14, 109, 85, 84, 121, 103, 104, 105, 122, 95, 96, 97, 64, 65, 66, 67, 68, 98, 99, 100, 101, 55, 56, 123, 124, 125, 126, 127, 128, 129, 130, 131, 132, 133, 134, 135, 136, 137, 138, 139, 140, 141, 142, 143, 144, 145, 146] (by decide +kernel) (by decide +kernel)
set_option maxRecDepth 20000 in
theorem gX3_plates_X3_isAmong : GoodIn wsX3_plates (wsV RX3 155 RX3 yX3_isAmong wsX3_isAmong) := goodIn_app (goodIn_of _ (by decide +kernel)) ggX3_plates_X3_isAmong
theorem dX3_plates_0 : decode cX3_plates 0 = .ok (.iload_n 1, 1) := by decide +kernel
theorem dX3_plates_1 : decode cX3_plates 1 = .ok (.ifCond .lt 8, 3) := by decide +kernel
theorem dX3_plates_4 : decode cX3_plates 4 = .ok (.iload_n 1, 1) := by decide +kernel
theorem dX3_plates_5 : decode cX3_plates 5 = .ok (.iconst 4, 1) := by decide +kernel
theorem dX3_plates_6 : decode cX3_plates 6 = .ok (.if_icmp .le 6, 3) := by decide +kernel
theorem dX3_plates_9 : decode cX3_plates 9 = .ok (.ldc 84, 2) := by decide +kernel
theorem dX3_plates_11 : decode cX3_plates 11 = .ok (.ireturn, 1) := by decide +kernel
theorem dX3_plates_12 : decode cX3_plates 12 = .ok (.aload_n 0, 1) := by decide +kernel
theorem dX3_plates_13 : decode cX3_plates 13 = .ok (.invokevirtual 115, 3) := by decide +kernel
theorem dX3_plates_16 : decode cX3_plates 16 = .ok (.astore_n 2, 1) := by decide +kernel
theorem dX3_plates_17 : decode cX3_plates 17 = .ok (.iconst 0, 1) := by decide +kernel
theorem dX3_plates_18 : decode cX3_plates 18 = .ok (.istore_n 3, 1) := by decide +kernel
theorem dX3_plates_19 : decode cX3_plates 19 = .ok (.iconst 0, 1) := by decide +kernel
theorem dX3_plates_20 : decode cX3_plates 20 = .ok (.istore 4, 2) := by decide +kernel
theorem dX3_plates_22 : decode cX3_plates 22 = .ok (.iload 4, 2) := by decide +kernel
theorem dX3_plates_24 : decode cX3_plates 24 = .ok (.aload_n 0, 1) := by decide +kernel
theorem dX3_plates_25 : decode cX3_plates 25 = .ok (.getfield 10, 3) := by decide +kernel
theorem dX3_plates_28 : decode cX3_plates 28 = .ok (.getfield 152, 3) := by decide +kernel
theorem dX3_plates_31 : decode cX3_plates 31 = .ok (.if_icmp .ge 27, 3) := by decide +kernel
theorem dX3_plates_34 : decode cX3_plates 34 = .ok (.aload_n 0, 1) := by decide +kernel
theorem dX3_plates_35 : decode cX3_plates 35 = .ok (.aload_n 2, 1) := by decide +kernel
theorem dX3_plates_36 : decode cX3_plates 36 = .ok (.iload 4, 2) := by decide +kernel
theorem dX3_plates_38 : decode cX3_plates 38 = .ok (.iload_n 1, 1) := by decide +kernel
theorem dX3_plates_39 : decode cX3_plates 39 = .ok (.invokevirtual 155, 3) := by decide +kernel
theorem dX3_plates_42 : decode cX3_plates 42 = .ok (.ifCond .eq 10, 3) := by decide +kernel
theorem dX3_plates_45 : decode cX3_plates 45 = .ok (.iload_n 3, 1) := by decide +kernel
theorem dX3_plates_46 : decode cX3_plates 46 = .ok (.iconst 1, 1) := by decide +kernel
theorem dX3_plates_47 : decode cX3_plates 47 = .ok (.iload 4, 2) := by decide +kernel
theorem dX3_plates_49 : decode cX3_plates 49 = .ok (.ishl, 1) := by decide +kernel
theorem dX3_plates_50 : decode cX3_plates 50 = .ok (.ior, 1) := by decide +kernel
theorem dX3_plates_51 : decode cX3_plates 51 = .ok (.istore_n 3, 1) := by decide +kernel
theorem dX3_plates_52 : decode cX3_plates 52 = .ok (.iinc 4 1, 3) := by decide +kernel
theorem dX3_plates_55 : decode cX3_plates 55 = .ok (.goto (-33), 3) := by decide +kernel
theorem dX3_plates_58 : decode cX3_plates 58 = .ok (.iload_n 3, 1) := by decide +kernel
theorem dX3_plates_59 : decode cX3_plates 59 = .ok (.ireturn, 1) := by decide +kernel
set_option maxRecDepth 20000 in
theorem ggX3_isAmong_X3_isAtStop : GoodIn wsX3_isAmong wsX3_isAtStop := goodIn_r _ [8, 1, 9, 10, 11, 12, 13, 14, 15, 16, 17, 18, 19, 20, 21, 41, 42, 43, 44, 45, 46, 47, 48, 49, 50, 51, 52, 53, 54, 55, 56, 57, 58, 59, 60, 61, 62, 63, 64] (by decide +kernel) (by decide +kernel)
set_option maxRecDepth 20000 in
theorem gX3_isAmong_X3_isAtStop : GoodIn wsX3_isAmong (wsV RX3 159 RX3 yX3_isAtStop wsX3_isAtStop) := goodIn_app (goodIn_of _ (by decide +kernel)) ggX3_isAmong_X3_isAtStop
set_option maxRecDepth 20000 in
theorem ggX3_isAmong_X1_touchesNext : GoodIn wsX3_isAmong wsX1_touchesNext := goodIn_r _ [25, 20, 55, 56, 57, 58, 59, 60, 61, 62, 63, 64] (by decide +kernel) (by decide +kernel)
set_option maxRecDepth 20000 in
theorem gX3_isAmong_X1_touchesNext : GoodIn wsX3_isAmong (wsV RX3 162 RX1 yX1_touchesNext wsX1_touchesNext) := goodIn_app (goodIn_of _ (by decide +kernel)) ggX3_isAmong_X1_touchesNext
set_option maxRecDepth 20000 in
theorem ggX3_isAmong_X1_isAt : GoodIn wsX3_isAmong wsX1_isAt := goodIn_r _ [19, 20, 21, 55, 56, 57, 58, 59, 60, 61, 62, 63, 64] (by decide +kernel) (by decide +kernel)
set_option maxRecDepth 20000 in
theorem gX3_isAmong_X1_isAt : GoodIn wsX3_isAmong (wsV RX3 165 RX1 yX1_isAt wsX1_isAt) := goodIn_app (goodIn_of _ (by decide +kernel)) ggX3_isAmong_X1_isAt
set_option maxRecDepth 20000 in
theorem ggX3_isAmong_X1_forceOn : GoodIn wsX3_isAmong wsX1_forceOn := goodIn_r _ [29, 21, 30, 31, 32, 12, 33, 34, 35, 36, 37, 18, 38, 20, 39, 40, 55, 56, 57, 58, 59, 60, 61, 62, 63, 64, 49, 50, 51, 52, 53, 54] (by decide +kernel) (by decide +kernel)
set_option maxRecDepth 20000 in
theorem gX3_isAmong_X1_forceOn : GoodIn wsX3_isAmong (wsV RX3 148 RX1 yX1_forceOn wsX1_forceOn) := goodIn_app (goodIn_of _ (by decide +kernel)) ggX3_isAmong_X1_forceOn
theorem dX3_isAmong_0 : decode cX3_isAmong 0 = .ok (.iload_n 3, 1) := by decide +kernel
theorem dX3_isAmong_1 : decode cX3_isAmong 1 = .ok (.tableswitch 104 0 3 #[31, 39, 47, 74], 31) := by decide +kernel
theorem dX3_isAmong_32 : decode cX3_isAmong 32 = .ok (.aload_n 0, 1) := by decide +kernel
theorem dX3_isAmong_33 : decode cX3_isAmong 33 = .ok (.aload_n 1, 1) := by decide +kernel
theorem dX3_isAmong_34 : decode cX3_isAmong 34 = .ok (.iload_n 2, 1) := by decide +kernel
theorem dX3_isAmong_35 : decode cX3_isAmong 35 = .ok (.iconst 0, 1) := by decide +kernel
theorem dX3_isAmong_36 : decode cX3_isAmong 36 = .ok (.invokevirtual 159, 3) := by decide +kernel
theorem dX3_isAmong_39 : decode cX3_isAmong 39 = .ok (.ireturn, 1) := by decide +kernel
theorem dX3_isAmong_40 : decode cX3_isAmong 40 = .ok (.aload_n 0, 1) := by decide +kernel
theorem dX3_isAmong_41 : decode cX3_isAmong 41 = .ok (.aload_n 1, 1) := by decide +kernel
theorem dX3_isAmong_42 : decode cX3_isAmong 42 = .ok (.iload_n 2, 1) := by decide +kernel
theorem dX3_isAmong_43 : decode cX3_isAmong 43 = .ok (.iconst 1, 1) := by decide +kernel
theorem dX3_isAmong_44 : decode cX3_isAmong 44 = .ok (.invokevirtual 159, 3) := by decide +kernel
theorem dX3_isAmong_47 : decode cX3_isAmong 47 = .ok (.ireturn, 1) := by decide +kernel
theorem dX3_isAmong_48 : decode cX3_isAmong 48 = .ok (.iload_n 2, 1) := by decide +kernel
theorem dX3_isAmong_49 : decode cX3_isAmong 49 = .ok (.iconst 1, 1) := by decide +kernel
theorem dX3_isAmong_50 : decode cX3_isAmong 50 = .ok (.iadd, 1) := by decide +kernel
theorem dX3_isAmong_51 : decode cX3_isAmong 51 = .ok (.aload_n 0, 1) := by decide +kernel
theorem dX3_isAmong_52 : decode cX3_isAmong 52 = .ok (.getfield 10, 3) := by decide +kernel
theorem dX3_isAmong_55 : decode cX3_isAmong 55 = .ok (.getfield 152, 3) := by decide +kernel
theorem dX3_isAmong_58 : decode cX3_isAmong 58 = .ok (.if_icmp .ge 15, 3) := by decide +kernel
theorem dX3_isAmong_61 : decode cX3_isAmong 61 = .ok (.aload_n 1, 1) := by decide +kernel
theorem dX3_isAmong_62 : decode cX3_isAmong 62 = .ok (.iload_n 2, 1) := by decide +kernel
theorem dX3_isAmong_63 : decode cX3_isAmong 63 = .ok (.invokevirtual 162, 3) := by decide +kernel
theorem dX3_isAmong_66 : decode cX3_isAmong 66 = .ok (.ifCond .eq 7, 3) := by decide +kernel
theorem dX3_isAmong_69 : decode cX3_isAmong 69 = .ok (.iconst 1, 1) := by decide +kernel
theorem dX3_isAmong_70 : decode cX3_isAmong 70 = .ok (.goto 4, 3) := by decide +kernel
theorem dX3_isAmong_73 : decode cX3_isAmong 73 = .ok (.iconst 0, 1) := by decide +kernel
theorem dX3_isAmong_74 : decode cX3_isAmong 74 = .ok (.ireturn, 1) := by decide +kernel
theorem dX3_isAmong_75 : decode cX3_isAmong 75 = .ok (.aload_n 1, 1) := by decide +kernel
theorem dX3_isAmong_76 : decode cX3_isAmong 76 = .ok (.iload_n 2, 1) := by decide +kernel
theorem dX3_isAmong_77 : decode cX3_isAmong 77 = .ok (.iconst 0, 1) := by decide +kernel
theorem dX3_isAmong_78 : decode cX3_isAmong 78 = .ok (.invokevirtual 165, 3) := by decide +kernel
theorem dX3_isAmong_81 : decode cX3_isAmong 81 = .ok (.ifCond .ne 18, 3) := by decide +kernel
theorem dX3_isAmong_84 : decode cX3_isAmong 84 = .ok (.aload_n 1, 1) := by decide +kernel
theorem dX3_isAmong_85 : decode cX3_isAmong 85 = .ok (.iload_n 2, 1) := by decide +kernel
theorem dX3_isAmong_86 : decode cX3_isAmong 86 = .ok (.aload_n 0, 1) := by decide +kernel
theorem dX3_isAmong_87 : decode cX3_isAmong 87 = .ok (.getfield 10, 3) := by decide +kernel
theorem dX3_isAmong_90 : decode cX3_isAmong 90 = .ok (.getfield 169, 3) := by decide +kernel
theorem dX3_isAmong_93 : decode cX3_isAmong 93 = .ok (.invokevirtual 165, 3) := by decide +kernel
theorem dX3_isAmong_96 : decode cX3_isAmong 96 = .ok (.ifCond .eq 7, 3) := by decide +kernel
theorem dX3_isAmong_99 : decode cX3_isAmong 99 = .ok (.iconst 1, 1) := by decide +kernel
theorem dX3_isAmong_100 : decode cX3_isAmong 100 = .ok (.goto 4, 3) := by decide +kernel
theorem dX3_isAmong_103 : decode cX3_isAmong 103 = .ok (.iconst 0, 1) := by decide +kernel
theorem dX3_isAmong_104 : decode cX3_isAmong 104 = .ok (.ireturn, 1) := by decide +kernel
theorem dX3_isAmong_105 : decode cX3_isAmong 105 = .ok (.aload_n 1, 1) := by decide +kernel
theorem dX3_isAmong_106 : decode cX3_isAmong 106 = .ok (.aload_n 0, 1) := by decide +kernel
theorem dX3_isAmong_107 : decode cX3_isAmong 107 = .ok (.getfield 10, 3) := by decide +kernel
theorem dX3_isAmong_110 : decode cX3_isAmong 110 = .ok (.iload_n 2, 1) := by decide +kernel
theorem dX3_isAmong_111 : decode cX3_isAmong 111 = .ok (.iload_n 2, 1) := by decide +kernel
theorem dX3_isAmong_112 : decode cX3_isAmong 112 = .ok (.invokevirtual 148, 3) := by decide +kernel
theorem dX3_isAmong_115 : decode cX3_isAmong 115 = .ok (.lconst 0, 1) := by decide +kernel
theorem dX3_isAmong_116 : decode cX3_isAmong 116 = .ok (.lcmp, 1) := by decide +kernel
theorem dX3_isAmong_117 : decode cX3_isAmong 117 = .ok (.ifCond .eq 7, 3) := by decide +kernel
theorem dX3_isAmong_120 : decode cX3_isAmong 120 = .ok (.iconst 1, 1) := by decide +kernel
theorem dX3_isAmong_121 : decode cX3_isAmong 121 = .ok (.goto 4, 3) := by decide +kernel
theorem dX3_isAmong_124 : decode cX3_isAmong 124 = .ok (.iconst 0, 1) := by decide +kernel
theorem dX3_isAmong_125 : decode cX3_isAmong 125 = .ok (.ireturn, 1) := by decide +kernel
set_option maxRecDepth 20000 in
theorem ggX3_isAtStop_X0_stopOf : GoodIn wsX3_isAtStop wsX0_stopOf := goodIn_r _ [6, 7, 23, 24, 25, 26, 27, 28] (by decide +kernel) (by decide +kernel)
set_option maxRecDepth 20000 in
theorem gX3_isAtStop_X0_stopOf : GoodIn wsX3_isAtStop (wsV RX3 89 RX0 yX0_stopOf wsX0_stopOf) := goodIn_app (goodIn_of _ (by decide +kernel)) ggX3_isAtStop_X0_stopOf
set_option maxRecDepth 20000 in
theorem ggX3_isAtStop_X1_isAt : GoodIn wsX3_isAtStop wsX1_isAt := goodIn_r _ [12, 13, 14, 29, 30, 31, 32, 33, 34, 35, 36, 37, 38] (by decide +kernel) (by decide +kernel)
set_option maxRecDepth 20000 in
theorem gX3_isAtStop_X1_isAt : GoodIn wsX3_isAtStop (wsV RX3 165 RX1 yX1_isAt wsX1_isAt) := goodIn_app (goodIn_of _ (by decide +kernel)) ggX3_isAtStop_X1_isAt
theorem dX3_isAtStop_0 : decode cX3_isAtStop 0 = .ok (.aload_n 0, 1) := by decide +kernel
theorem dX3_isAtStop_1 : decode cX3_isAtStop 1 = .ok (.getfield 10, 3) := by decide +kernel
theorem dX3_isAtStop_4 : decode cX3_isAtStop 4 = .ok (.iload_n 2, 1) := by decide +kernel
theorem dX3_isAtStop_5 : decode cX3_isAtStop 5 = .ok (.iload_n 3, 1) := by decide +kernel
theorem dX3_isAtStop_6 : decode cX3_isAtStop 6 = .ok (.invokevirtual 89, 3) := by decide +kernel
theorem dX3_isAtStop_9 : decode cX3_isAtStop 9 = .ok (.istore 4, 2) := by decide +kernel
theorem dX3_isAtStop_11 : decode cX3_isAtStop 11 = .ok (.iload 4, 2) := by decide +kernel
theorem dX3_isAtStop_13 : decode cX3_isAtStop 13 = .ok (.iconst (-1), 1) := by decide +kernel
theorem dX3_isAtStop_14 : decode cX3_isAtStop 14 = .ok (.if_icmp .eq 17, 3) := by decide +kernel
theorem dX3_isAtStop_17 : decode cX3_isAtStop 17 = .ok (.aload_n 1, 1) := by decide +kernel
theorem dX3_isAtStop_18 : decode cX3_isAtStop 18 = .ok (.iload_n 2, 1) := by decide +kernel
theorem dX3_isAtStop_19 : decode cX3_isAtStop 19 = .ok (.iload 4, 2) := by decide +kernel
theorem dX3_isAtStop_21 : decode cX3_isAtStop 21 = .ok (.invokevirtual 165, 3) := by decide +kernel
theorem dX3_isAtStop_24 : decode cX3_isAtStop 24 = .ok (.ifCond .eq 7, 3) := by decide +kernel
theorem dX3_isAtStop_27 : decode cX3_isAtStop 27 = .ok (.iconst 1, 1) := by decide +kernel
theorem dX3_isAtStop_28 : decode cX3_isAtStop 28 = .ok (.goto 4, 3) := by decide +kernel
theorem dX3_isAtStop_31 : decode cX3_isAtStop 31 = .ok (.iconst 0, 1) := by decide +kernel
theorem dX3_isAtStop_32 : decode cX3_isAtStop 32 = .ok (.ireturn, 1) := by decide +kernel
set_option maxRecDepth 20000 in
theorem ggX3_settled_X1_settle : GoodIn wsX3_settled wsX1_settle := goodIn_r _ [8, 9, 10, 11, 12, 7, 13, 14, 15, 16, 17, 18, 19, 20, 21, 22, 23, 24, 25, 26, 27, 28, 29, 30, 31, 32, 33, 34, 35, 36, 37, 38, 39, 40, 41, 42, 43, 44, 45, 46, 47, 48, 49, 50, 51, 52, 53, 54, 55, 56, 57, 58, 59, 60, 61, 62, 63, 64, 65, 66, 67, 68, 69, 70, 71, 72, 73, 74, 75, 76, 77, 78, 79, 80, 81, 82, 83, 84, 85, 86, 87, 88, 89, 90, 91, 92, 93, 94, 95, 96, 97, 98, 99, 100, 101, 102, 103, 112, 113, 114, 115, 116, 117, 118, 119, 120, 121, 122, 123, 124, 125, 126, 127] (by decide +kernel) (by decide +kernel)
set_option maxRecDepth 20000 in
theorem gX3_settled_X1_settle : GoodIn wsX3_settled (wsV RX3 172 RX1 yX1_settle wsX1_settle) := goodIn_app (goodIn_of _ (by decide +kernel)) ggX3_settled_X1_settle
theorem dX3_settled_0 : decode cX3_settled 0 = .ok (.aload_n 0, 1) := by decide +kernel
theorem dX3_settled_1 : decode cX3_settled 1 = .ok (.getfield 34, 3) := by decide +kernel
theorem dX3_settled_4 : decode cX3_settled 4 = .ok (.ifCond .ne 19, 3) := by decide +kernel
theorem dX3_settled_7 : decode cX3_settled 7 = .ok (.aload_n 0, 1) := by decide +kernel
theorem dX3_settled_8 : decode cX3_settled 8 = .ok (.getfield 30, 3) := by decide +kernel
theorem dX3_settled_11 : decode cX3_settled 11 = .ok (.aload_n 0, 1) := by decide +kernel
theorem dX3_settled_12 : decode cX3_settled 12 = .ok (.getfield 10, 3) := by decide +kernel
theorem dX3_settled_15 : decode cX3_settled 15 = .ok (.invokevirtual 172, 3) := by decide +kernel
theorem dX3_settled_18 : decode cX3_settled 18 = .ok (.aload_n 0, 1) := by decide +kernel
theorem dX3_settled_19 : decode cX3_settled 19 = .ok (.iconst 1, 1) := by decide +kernel
theorem dX3_settled_20 : decode cX3_settled 20 = .ok (.putfield 34, 3) := by decide +kernel
theorem dX3_settled_23 : decode cX3_settled 23 = .ok (.aload_n 0, 1) := by decide +kernel
theorem dX3_settled_24 : decode cX3_settled 24 = .ok (.getfield 30, 3) := by decide +kernel
theorem dX3_settled_27 : decode cX3_settled 27 = .ok (.areturn, 1) := by decide +kernel
theorem dX3_isPart_0 : decode cX3_isPart 0 = .ok (.iload_n 0, 1) := by decide +kernel
theorem dX3_isPart_1 : decode cX3_isPart 1 = .ok (.ifCond .eq 8, 3) := by decide +kernel
theorem dX3_isPart_4 : decode cX3_isPart 4 = .ok (.iload_n 0, 1) := by decide +kernel
theorem dX3_isPart_5 : decode cX3_isPart 5 = .ok (.iconst 1, 1) := by decide +kernel
theorem dX3_isPart_6 : decode cX3_isPart 6 = .ok (.if_icmp .ne 7, 3) := by decide +kernel
theorem dX3_isPart_9 : decode cX3_isPart 9 = .ok (.iconst 1, 1) := by decide +kernel
theorem dX3_isPart_10 : decode cX3_isPart 10 = .ok (.goto 4, 3) := by decide +kernel
theorem dX3_isPart_13 : decode cX3_isPart 13 = .ok (.iconst 0, 1) := by decide +kernel
theorem dX3_isPart_14 : decode cX3_isPart 14 = .ok (.ireturn, 1) := by decide +kernel
set_option maxRecDepth 20000 in
theorem ggX3_forcePart_X3_inLowestTerms : GoodIn wsX3_forcePart wsX3_inLowestTerms := goodIn_r _ [5, 6, 7, 4, 8, 9, 10, 11, 12] (by decide +kernel) (by decide +kernel)
set_option maxRecDepth 20000 in
theorem gX3_forcePart_X3_inLowestTerms : GoodIn wsX3_forcePart (va_wsS RX3 130 yX3_inLowestTerms wsX3_inLowestTerms) := goodIn_app (goodIn_of _ (by decide +kernel)) ggX3_forcePart_X3_inLowestTerms
theorem dX3_forcePart_0 : decode cX3_forcePart 0 = .ok (.lload_n 0, 1) := by decide +kernel
theorem dX3_forcePart_1 : decode cX3_forcePart 1 = .ok (.lload_n 2, 1) := by decide +kernel
theorem dX3_forcePart_2 : decode cX3_forcePart 2 = .ok (.iload 4, 2) := by decide +kernel
theorem dX3_forcePart_4 : decode cX3_forcePart 4 = .ok (.invokestatic 130, 3) := by decide +kernel
theorem dX3_forcePart_7 : decode cX3_forcePart 7 = .ok (.l2i, 1) := by decide +kernel
theorem dX3_forcePart_8 : decode cX3_forcePart 8 = .ok (.istore 5, 2) := by decide +kernel
theorem dX3_forcePart_10 : decode cX3_forcePart 10 = .ok (.iload 4, 2) := by decide +kernel
theorem dX3_forcePart_12 : decode cX3_forcePart 12 = .ok (.ifCond .ne 11, 3) := by decide +kernel
theorem dX3_forcePart_15 : decode cX3_forcePart 15 = .ok (.iload 5, 2) := by decide +kernel
theorem dX3_forcePart_17 : decode cX3_forcePart 17 = .ok (.ldc 175, 2) := by decide +kernel
theorem dX3_forcePart_19 : decode cX3_forcePart 19 = .ok (.iadd, 1) := by decide +kernel
theorem dX3_forcePart_20 : decode cX3_forcePart 20 = .ok (.goto 5, 3) := by decide +kernel
theorem dX3_forcePart_23 : decode cX3_forcePart 23 = .ok (.iload 5, 2) := by decide +kernel
theorem dX3_forcePart_25 : decode cX3_forcePart 25 = .ok (.ireturn, 1) := by decide +kernel
set_option maxRecDepth 20000 in
theorem ggX3_inLowestTerms_X3_greatestDivisor : GoodIn wsX3_inLowestTerms wsX3_greatestDivisor := goodIn_r _ [4, 5, 6, 7, 8] (by decide +kernel) (by decide +kernel)
set_option maxRecDepth 20000 in
theorem gX3_inLowestTerms_X3_greatestDivisor : GoodIn wsX3_inLowestTerms (va_wsS RX3 176 yX3_greatestDivisor wsX3_greatestDivisor) := goodIn_app (goodIn_of _ (by decide +kernel)) ggX3_inLowestTerms_X3_greatestDivisor
theorem dX3_inLowestTerms_0 : decode cX3_inLowestTerms 0 = .ok (.lload_n 0, 1) := by decide +kernel
theorem dX3_inLowestTerms_1 : decode cX3_inLowestTerms 1 = .ok (.lload_n 2, 1) := by decide +kernel
theorem dX3_inLowestTerms_2 : decode cX3_inLowestTerms 2 = .ok (.invokestatic 176, 3) := by decide +kernel
theorem dX3_inLowestTerms_5 : decode cX3_inLowestTerms 5 = .ok (.lstore 5, 2) := by decide +kernel
theorem dX3_inLowestTerms_7 : decode cX3_inLowestTerms 7 = .ok (.iload 4, 2) := by decide +kernel
theorem dX3_inLowestTerms_9 : decode cX3_inLowestTerms 9 = .ok (.ifCond .ne 7, 3) := by decide +kernel
theorem dX3_inLowestTerms_12 : decode cX3_inLowestTerms 12 = .ok (.lload_n 0, 1) := by decide +kernel
theorem dX3_inLowestTerms_13 : decode cX3_inLowestTerms 13 = .ok (.goto 4, 3) := by decide +kernel
theorem dX3_inLowestTerms_16 : decode cX3_inLowestTerms 16 = .ok (.lload_n 2, 1) := by decide +kernel
theorem dX3_inLowestTerms_17 : decode cX3_inLowestTerms 17 = .ok (.lstore 7, 2) := by decide +kernel
theorem dX3_inLowestTerms_19 : decode cX3_inLowestTerms 19 = .ok (.lload 5, 2) := by decide +kernel
theorem dX3_inLowestTerms_21 : decode cX3_inLowestTerms 21 = .ok (.lconst 1, 1) := by decide +kernel
theorem dX3_inLowestTerms_22 : decode cX3_inLowestTerms 22 = .ok (.lcmp, 1) := by decide +kernel
theorem dX3_inLowestTerms_23 : decode cX3_inLowestTerms 23 = .ok (.ifCond .le 11, 3) := by decide +kernel
theorem dX3_inLowestTerms_26 : decode cX3_inLowestTerms 26 = .ok (.lload 7, 2) := by decide +kernel
theorem dX3_inLowestTerms_28 : decode cX3_inLowestTerms 28 = .ok (.lload 5, 2) := by decide +kernel
theorem dX3_inLowestTerms_30 : decode cX3_inLowestTerms 30 = .ok (.ldiv, 1) := by decide +kernel
theorem dX3_inLowestTerms_31 : decode cX3_inLowestTerms 31 = .ok (.goto 5, 3) := by decide +kernel
theorem dX3_inLowestTerms_34 : decode cX3_inLowestTerms 34 = .ok (.lload 7, 2) := by decide +kernel
theorem dX3_inLowestTerms_36 : decode cX3_inLowestTerms 36 = .ok (.lreturn, 1) := by decide +kernel
theorem dX3_greatestDivisor_0 : decode cX3_greatestDivisor 0 = .ok (.lload_n 0, 1) := by decide +kernel
theorem dX3_greatestDivisor_1 : decode cX3_greatestDivisor 1 = .ok (.invokestatic 180, 3) := by decide +kernel
theorem dX3_greatestDivisor_4 : decode cX3_greatestDivisor 4 = .ok (.lstore 4, 2) := by decide +kernel
theorem dX3_greatestDivisor_6 : decode cX3_greatestDivisor 6 = .ok (.lload_n 2, 1) := by decide +kernel
theorem dX3_greatestDivisor_7 : decode cX3_greatestDivisor 7 = .ok (.invokestatic 180, 3) := by decide +kernel
theorem dX3_greatestDivisor_10 : decode cX3_greatestDivisor 10 = .ok (.lstore 6, 2) := by decide +kernel
theorem dX3_greatestDivisor_12 : decode cX3_greatestDivisor 12 = .ok (.iconst 0, 1) := by decide +kernel
theorem dX3_greatestDivisor_13 : decode cX3_greatestDivisor 13 = .ok (.istore 8, 2) := by decide +kernel
theorem dX3_greatestDivisor_15 : decode cX3_greatestDivisor 15 = .ok (.iload 8, 2) := by decide +kernel
theorem dX3_greatestDivisor_17 : decode cX3_greatestDivisor 17 = .ok (.sipush 200, 3) := by decide +kernel
theorem dX3_greatestDivisor_20 : decode cX3_greatestDivisor 20 = .ok (.if_icmp .ge 31, 3) := by decide +kernel
theorem dX3_greatestDivisor_23 : decode cX3_greatestDivisor 23 = .ok (.lload 6, 2) := by decide +kernel
theorem dX3_greatestDivisor_25 : decode cX3_greatestDivisor 25 = .ok (.lconst 0, 1) := by decide +kernel
theorem dX3_greatestDivisor_26 : decode cX3_greatestDivisor 26 = .ok (.lcmp, 1) := by decide +kernel
theorem dX3_greatestDivisor_27 : decode cX3_greatestDivisor 27 = .ok (.ifCond .eq 24, 3) := by decide +kernel
theorem dX3_greatestDivisor_30 : decode cX3_greatestDivisor 30 = .ok (.lload 4, 2) := by decide +kernel
theorem dX3_greatestDivisor_32 : decode cX3_greatestDivisor 32 = .ok (.lload 6, 2) := by decide +kernel
theorem dX3_greatestDivisor_34 : decode cX3_greatestDivisor 34 = .ok (.lrem, 1) := by decide +kernel
theorem dX3_greatestDivisor_35 : decode cX3_greatestDivisor 35 = .ok (.lstore 9, 2) := by decide +kernel
theorem dX3_greatestDivisor_37 : decode cX3_greatestDivisor 37 = .ok (.lload 6, 2) := by decide +kernel
theorem dX3_greatestDivisor_39 : decode cX3_greatestDivisor 39 = .ok (.lstore 4, 2) := by decide +kernel
theorem dX3_greatestDivisor_41 : decode cX3_greatestDivisor 41 = .ok (.lload 9, 2) := by decide +kernel
theorem dX3_greatestDivisor_43 : decode cX3_greatestDivisor 43 = .ok (.lstore 6, 2) := by decide +kernel
theorem dX3_greatestDivisor_45 : decode cX3_greatestDivisor 45 = .ok (.iinc 8 1, 3) := by decide +kernel
theorem dX3_greatestDivisor_48 : decode cX3_greatestDivisor 48 = .ok (.goto (-33), 3) := by decide +kernel
theorem dX3_greatestDivisor_51 : decode cX3_greatestDivisor 51 = .ok (.lload 4, 2) := by decide +kernel
theorem dX3_greatestDivisor_53 : decode cX3_greatestDivisor 53 = .ok (.lreturn, 1) := by decide +kernel
set_option maxRecDepth 20000 in
theorem ggX3_count_X0_countStops : GoodIn wsX3_count wsX0_countStops := goodIn_r _ [12, 13, 14, 28, 29, 30, 31, 32, 33] (by decide +kernel) (by decide +kernel)
set_option maxRecDepth 20000 in
theorem gX3_count_X0_countStops : GoodIn wsX3_count (wsV RX3 212 RX0 yX0_countStops wsX0_countStops) := goodIn_app (goodIn_of _ (by decide +kernel)) ggX3_count_X0_countStops
set_option maxRecDepth 20000 in
theorem ggX3_count_X0_sumOfLoads : GoodIn wsX3_count wsX0_sumOfLoads := goodIn_r _ [18, 19, 28, 29, 30, 31, 32, 33] (by decide +kernel) (by decide +kernel)
set_option maxRecDepth 20000 in
theorem gX3_count_X0_sumOfLoads : GoodIn wsX3_count (wsV RX3 215 RX0 yX0_sumOfLoads wsX0_sumOfLoads) := goodIn_app (goodIn_of _ (by decide +kernel)) ggX3_count_X0_sumOfLoads
theorem dX3_count_0 : decode cX3_count 0 = .ok (.iload_n 1, 1) := by decide +kernel
theorem dX3_count_1 : decode cX3_count 1 = .ok (.tableswitch 98 0 5 #[39, 47, 55, 63, 85, 90], 39) := by decide +kernel
theorem dX3_count_40 : decode cX3_count 40 = .ok (.aload_n 0, 1) := by decide +kernel
theorem dX3_count_41 : decode cX3_count 41 = .ok (.getfield 10, 3) := by decide +kernel
theorem dX3_count_44 : decode cX3_count 44 = .ok (.getfield 152, 3) := by decide +kernel
theorem dX3_count_47 : decode cX3_count 47 = .ok (.ireturn, 1) := by decide +kernel
theorem dX3_count_48 : decode cX3_count 48 = .ok (.aload_n 0, 1) := by decide +kernel
theorem dX3_count_49 : decode cX3_count 49 = .ok (.getfield 10, 3) := by decide +kernel
theorem dX3_count_52 : decode cX3_count 52 = .ok (.getfield 169, 3) := by decide +kernel
theorem dX3_count_55 : decode cX3_count 55 = .ok (.ireturn, 1) := by decide +kernel
theorem dX3_count_56 : decode cX3_count 56 = .ok (.aload_n 0, 1) := by decide +kernel
theorem dX3_count_57 : decode cX3_count 57 = .ok (.getfield 10, 3) := by decide +kernel
theorem dX3_count_60 : decode cX3_count 60 = .ok (.invokevirtual 212, 3) := by decide +kernel
theorem dX3_count_63 : decode cX3_count 63 = .ok (.ireturn, 1) := by decide +kernel
theorem dX3_count_64 : decode cX3_count 64 = .ok (.aload_n 0, 1) := by decide +kernel
theorem dX3_count_65 : decode cX3_count 65 = .ok (.getfield 10, 3) := by decide +kernel
theorem dX3_count_68 : decode cX3_count 68 = .ok (.iconst 0, 1) := by decide +kernel
theorem dX3_count_69 : decode cX3_count 69 = .ok (.aload_n 0, 1) := by decide +kernel
theorem dX3_count_70 : decode cX3_count 70 = .ok (.getfield 10, 3) := by decide +kernel
theorem dX3_count_73 : decode cX3_count 73 = .ok (.getfield 152, 3) := by decide +kernel
theorem dX3_count_76 : decode cX3_count 76 = .ok (.iconst 1, 1) := by decide +kernel
theorem dX3_count_77 : decode cX3_count 77 = .ok (.isub, 1) := by decide +kernel
theorem dX3_count_78 : decode cX3_count 78 = .ok (.invokevirtual 215, 3) := by decide +kernel
theorem dX3_count_81 : decode cX3_count 81 = .ok (.sipush 1000, 3) := by decide +kernel
theorem dX3_count_84 : decode cX3_count 84 = .ok (.iadd, 1) := by decide +kernel
theorem dX3_count_85 : decode cX3_count 85 = .ok (.ireturn, 1) := by decide +kernel
theorem dX3_count_86 : decode cX3_count 86 = .ok (.aload_n 0, 1) := by decide +kernel
theorem dX3_count_87 : decode cX3_count 87 = .ok (.getfield 23, 3) := by decide +kernel
theorem dX3_count_90 : decode cX3_count 90 = .ok (.ireturn, 1) := by decide +kernel
theorem dX3_count_91 : decode cX3_count 91 = .ok (.aload_n 0, 1) := by decide +kernel
theorem dX3_count_92 : decode cX3_count 92 = .ok (.getfield 44, 3) := by decide +kernel
theorem dX3_count_95 : decode cX3_count 95 = .ok (.getfield 218, 3) := by decide +kernel
theorem dX3_count_98 : decode cX3_count 98 = .ok (.ireturn, 1) := by decide +kernel
theorem dX3_count_99 : decode cX3_count 99 = .ok (.ldc 84, 2) := by decide +kernel
theorem dX3_count_101 : decode cX3_count 101 = .ok (.ireturn, 1) := by decide +kernel
theorem dX3_isSide_0 : decode cX3_isSide 0 = .ok (.iload_n 0, 1) := by decide +kernel
theorem dX3_isSide_1 : decode cX3_isSide 1 = .ok (.ifCond .eq 8, 3) := by decide +kernel
theorem dX3_isSide_4 : decode cX3_isSide 4 = .ok (.iload_n 0, 1) := by decide +kernel
theorem dX3_isSide_5 : decode cX3_isSide 5 = .ok (.iconst 1, 1) := by decide +kernel
theorem dX3_isSide_6 : decode cX3_isSide 6 = .ok (.if_icmp .ne 7, 3) := by decide +kernel
theorem dX3_isSide_9 : decode cX3_isSide 9 = .ok (.iconst 1, 1) := by decide +kernel
theorem dX3_isSide_10 : decode cX3_isSide 10 = .ok (.goto 4, 3) := by decide +kernel
theorem dX3_isSide_13 : decode cX3_isSide 13 = .ok (.iconst 0, 1) := by decide +kernel
theorem dX3_isSide_14 : decode cX3_isSide 14 = .ok (.ireturn, 1) := by decide +kernel
