set_option maxRecDepth 20000 in
theorem ggX0_init_X0_putNewSpring : GoodIn wsX0_init wsX0_putNewSpring := goodIn_r _ [15, 7, 8, 16, 17, 18, 19, 20, 21] (by decide +kernel) (by decide +kernel)
set_option maxRecDepth 20000 in
theorem gX0_init_X0_putNewSpring : GoodIn wsX0_init (wsV RX0 31 RX0 yX0_putNewSpring wsX0_putNewSpring) := goodIn_app (goodIn_of _ (by decide +kernel)) ggX0_init_X0_putNewSpring
theorem dX0_init_0 : decode cX0_init 0 = .ok (.aload_n 0, 1) := by decide +kernel
theorem dX0_init_1 : decode cX0_init 1 = .ok (.invokespecial 3, 3) := by decide +kernel
theorem dX0_init_4 : decode cX0_init 4 = .ok (.aload_n 0, 1) := by decide +kernel
theorem dX0_init_5 : decode cX0_init 5 = .ok (.bipush 60, 2) := by decide +kernel
theorem dX0_init_7 : decode cX0_init 7 = .ok (.putfield 9, 3) := by decide +kernel
theorem dX0_init_10 : decode cX0_init 10 = .ok (.aload_n 0, 1) := by decide +kernel
theorem dX0_init_11 : decode cX0_init 11 = .ok (.iconst 0, 1) := by decide +kernel
theorem dX0_init_12 : decode cX0_init 12 = .ok (.putfield 15, 3) := by decide +kernel
theorem dX0_init_15 : decode cX0_init 15 = .ok (.aload_n 0, 1) := by decide +kernel
theorem dX0_init_16 : decode cX0_init 16 = .ok (.iconst 5, 1) := by decide +kernel
theorem dX0_init_17 : decode cX0_init 17 = .ok (.newarray .int, 2) := by decide +kernel
theorem dX0_init_19 : decode cX0_init 19 = .ok (.putfield 18, 3) := by decide +kernel
theorem dX0_init_22 : decode cX0_init 22 = .ok (.aload_n 0, 1) := by decide +kernel
theorem dX0_init_23 : decode cX0_init 23 = .ok (.iconst 5, 1) := by decide +kernel
theorem dX0_init_24 : decode cX0_init 24 = .ok (.newarray .int, 2) := by decide +kernel
theorem dX0_init_26 : decode cX0_init 26 = .ok (.putfield 22, 3) := by decide +kernel
theorem dX0_init_29 : decode cX0_init 29 = .ok (.aload_n 0, 1) := by decide +kernel
theorem dX0_init_30 : decode cX0_init 30 = .ok (.iconst 4, 1) := by decide +kernel
theorem dX0_init_31 : decode cX0_init 31 = .ok (.newarray .int, 2) := by decide +kernel
theorem dX0_init_33 : decode cX0_init 33 = .ok (.putfield 25, 3) := by decide +kernel
theorem dX0_init_36 : decode cX0_init 36 = .ok (.aload_n 0, 1) := by decide +kernel
theorem dX0_init_37 : decode cX0_init 37 = .ok (.bipush 8, 2) := by decide +kernel
theorem dX0_init_39 : decode cX0_init 39 = .ok (.newarray .int, 2) := by decide +kernel
theorem dX0_init_41 : decode cX0_init 41 = .ok (.putfield 28, 3) := by decide +kernel
theorem dX0_init_44 : decode cX0_init 44 = .ok (.aload_n 0, 1) := by decide +kernel
theorem dX0_init_45 : decode cX0_init 45 = .ok (.iconst 0, 1) := by decide +kernel
theorem dX0_init_46 : decode cX0_init 46 = .ok (.invokevirtual 31, 3) := by decide +kernel
theorem dX0_init_49 : decode cX0_init 49 = .ok (.return_, 1) := by decide +kernel
set_option maxRecDepth 20000 in
theorem ggX0_copyFrom_X0_copyPlate : GoodIn wsX0_copyFrom wsX0_copyPlate := goodIn_r _ [9, 10, 11, 12, 13, 14, 15, 16, 17] (by decide +kernel) (by decide +kernel)
set_option maxRecDepth 20000 in
theorem gX0_copyFrom_X0_copyPlate : GoodIn wsX0_copyFrom (wsV RX0 35 RX0 yX0_copyPlate wsX0_copyPlate) := goodIn_app (goodIn_of _ (by decide +kernel)) ggX0_copyFrom_X0_copyPlate
theorem dX0_copyFrom_0 : decode cX0_copyFrom 0 = .ok (.aload_n 0, 1) := by decide +kernel
theorem dX0_copyFrom_1 : decode cX0_copyFrom 1 = .ok (.aload_n 1, 1) := by decide +kernel
theorem dX0_copyFrom_2 : decode cX0_copyFrom 2 = .ok (.getfield 9, 3) := by decide +kernel
theorem dX0_copyFrom_5 : decode cX0_copyFrom 5 = .ok (.putfield 9, 3) := by decide +kernel
theorem dX0_copyFrom_8 : decode cX0_copyFrom 8 = .ok (.aload_n 0, 1) := by decide +kernel
theorem dX0_copyFrom_9 : decode cX0_copyFrom 9 = .ok (.aload_n 1, 1) := by decide +kernel
theorem dX0_copyFrom_10 : decode cX0_copyFrom 10 = .ok (.getfield 15, 3) := by decide +kernel
theorem dX0_copyFrom_13 : decode cX0_copyFrom 13 = .ok (.putfield 15, 3) := by decide +kernel
theorem dX0_copyFrom_16 : decode cX0_copyFrom 16 = .ok (.iconst 0, 1) := by decide +kernel
theorem dX0_copyFrom_17 : decode cX0_copyFrom 17 = .ok (.istore_n 2, 1) := by decide +kernel
theorem dX0_copyFrom_18 : decode cX0_copyFrom 18 = .ok (.iload_n 2, 1) := by decide +kernel
theorem dX0_copyFrom_19 : decode cX0_copyFrom 19 = .ok (.iconst 4, 1) := by decide +kernel
theorem dX0_copyFrom_20 : decode cX0_copyFrom 20 = .ok (.if_icmp .gt 33, 3) := by decide +kernel
theorem dX0_copyFrom_23 : decode cX0_copyFrom 23 = .ok (.aload_n 0, 1) := by decide +kernel
theorem dX0_copyFrom_24 : decode cX0_copyFrom 24 = .ok (.getfield 18, 3) := by decide +kernel
theorem dX0_copyFrom_27 : decode cX0_copyFrom 27 = .ok (.iload_n 2, 1) := by decide +kernel
theorem dX0_copyFrom_28 : decode cX0_copyFrom 28 = .ok (.aload_n 1, 1) := by decide +kernel
theorem dX0_copyFrom_29 : decode cX0_copyFrom 29 = .ok (.getfield 18, 3) := by decide +kernel
theorem dX0_copyFrom_32 : decode cX0_copyFrom 32 = .ok (.iload_n 2, 1) := by decide +kernel
theorem dX0_copyFrom_33 : decode cX0_copyFrom 33 = .ok (.iaload, 1) := by decide +kernel
theorem dX0_copyFrom_34 : decode cX0_copyFrom 34 = .ok (.iastore, 1) := by decide +kernel
theorem dX0_copyFrom_35 : decode cX0_copyFrom 35 = .ok (.aload_n 0, 1) := by decide +kernel
theorem dX0_copyFrom_36 : decode cX0_copyFrom 36 = .ok (.getfield 22, 3) := by decide +kernel
theorem dX0_copyFrom_39 : decode cX0_copyFrom 39 = .ok (.iload_n 2, 1) := by decide +kernel
theorem dX0_copyFrom_40 : decode cX0_copyFrom 40 = .ok (.aload_n 1, 1) := by decide +kernel
theorem dX0_copyFrom_41 : decode cX0_copyFrom 41 = .ok (.getfield 22, 3) := by decide +kernel
theorem dX0_copyFrom_44 : decode cX0_copyFrom 44 = .ok (.iload_n 2, 1) := by decide +kernel
theorem dX0_copyFrom_45 : decode cX0_copyFrom 45 = .ok (.iaload, 1) := by decide +kernel
theorem dX0_copyFrom_46 : decode cX0_copyFrom 46 = .ok (.iastore, 1) := by decide +kernel
theorem dX0_copyFrom_47 : decode cX0_copyFrom 47 = .ok (.iinc 2 1, 3) := by decide +kernel
theorem dX0_copyFrom_50 : decode cX0_copyFrom 50 = .ok (.goto (-32), 3) := by decide +kernel
theorem dX0_copyFrom_53 : decode cX0_copyFrom 53 = .ok (.iconst 0, 1) := by decide +kernel
theorem dX0_copyFrom_54 : decode cX0_copyFrom 54 = .ok (.istore_n 2, 1) := by decide +kernel
theorem dX0_copyFrom_55 : decode cX0_copyFrom 55 = .ok (.iload_n 2, 1) := by decide +kernel
theorem dX0_copyFrom_56 : decode cX0_copyFrom 56 = .ok (.iconst 4, 1) := by decide +kernel
theorem dX0_copyFrom_57 : decode cX0_copyFrom 57 = .ok (.if_icmp .ge 16, 3) := by decide +kernel
theorem dX0_copyFrom_60 : decode cX0_copyFrom 60 = .ok (.aload_n 0, 1) := by decide +kernel
theorem dX0_copyFrom_61 : decode cX0_copyFrom 61 = .ok (.aload_n 1, 1) := by decide +kernel
theorem dX0_copyFrom_62 : decode cX0_copyFrom 62 = .ok (.iload_n 2, 1) := by decide +kernel
theorem dX0_copyFrom_63 : decode cX0_copyFrom 63 = .ok (.iload_n 2, 1) := by decide +kernel
theorem dX0_copyFrom_64 : decode cX0_copyFrom 64 = .ok (.invokevirtual 35, 3) := by decide +kernel
theorem dX0_copyFrom_67 : decode cX0_copyFrom 67 = .ok (.iinc 2 1, 3) := by decide +kernel
theorem dX0_copyFrom_70 : decode cX0_copyFrom 70 = .ok (.goto (-15), 3) := by decide +kernel
theorem dX0_copyFrom_73 : decode cX0_copyFrom 73 = .ok (.return_, 1) := by decide +kernel
theorem dX0_copyPlate_0 : decode cX0_copyPlate 0 = .ok (.aload_n 0, 1) := by decide +kernel
theorem dX0_copyPlate_1 : decode cX0_copyPlate 1 = .ok (.getfield 25, 3) := by decide +kernel
theorem dX0_copyPlate_4 : decode cX0_copyPlate 4 = .ok (.iload_n 3, 1) := by decide +kernel
theorem dX0_copyPlate_5 : decode cX0_copyPlate 5 = .ok (.aload_n 1, 1) := by decide +kernel
theorem dX0_copyPlate_6 : decode cX0_copyPlate 6 = .ok (.getfield 25, 3) := by decide +kernel
theorem dX0_copyPlate_9 : decode cX0_copyPlate 9 = .ok (.iload_n 2, 1) := by decide +kernel
theorem dX0_copyPlate_10 : decode cX0_copyPlate 10 = .ok (.iaload, 1) := by decide +kernel
theorem dX0_copyPlate_11 : decode cX0_copyPlate 11 = .ok (.iastore, 1) := by decide +kernel
theorem dX0_copyPlate_12 : decode cX0_copyPlate 12 = .ok (.aload_n 0, 1) := by decide +kernel
theorem dX0_copyPlate_13 : decode cX0_copyPlate 13 = .ok (.getfield 28, 3) := by decide +kernel
theorem dX0_copyPlate_16 : decode cX0_copyPlate 16 = .ok (.iconst 2, 1) := by decide +kernel
theorem dX0_copyPlate_17 : decode cX0_copyPlate 17 = .ok (.iload_n 3, 1) := by decide +kernel
theorem dX0_copyPlate_18 : decode cX0_copyPlate 18 = .ok (.imul, 1) := by decide +kernel
theorem dX0_copyPlate_19 : decode cX0_copyPlate 19 = .ok (.aload_n 1, 1) := by decide +kernel
theorem dX0_copyPlate_20 : decode cX0_copyPlate 20 = .ok (.getfield 28, 3) := by decide +kernel
theorem dX0_copyPlate_23 : decode cX0_copyPlate 23 = .ok (.iconst 2, 1) := by decide +kernel
theorem dX0_copyPlate_24 : decode cX0_copyPlate 24 = .ok (.iload_n 2, 1) := by decide +kernel
theorem dX0_copyPlate_25 : decode cX0_copyPlate 25 = .ok (.imul, 1) := by decide +kernel
theorem dX0_copyPlate_26 : decode cX0_copyPlate 26 = .ok (.iaload, 1) := by decide +kernel
theorem dX0_copyPlate_27 : decode cX0_copyPlate 27 = .ok (.iastore, 1) := by decide +kernel
theorem dX0_copyPlate_28 : decode cX0_copyPlate 28 = .ok (.aload_n 0, 1) := by decide +kernel
theorem dX0_copyPlate_29 : decode cX0_copyPlate 29 = .ok (.getfield 28, 3) := by decide +kernel
theorem dX0_copyPlate_32 : decode cX0_copyPlate 32 = .ok (.iconst 2, 1) := by decide +kernel
theorem dX0_copyPlate_33 : decode cX0_copyPlate 33 = .ok (.iload_n 3, 1) := by decide +kernel
theorem dX0_copyPlate_34 : decode cX0_copyPlate 34 = .ok (.imul, 1) := by decide +kernel
theorem dX0_copyPlate_35 : decode cX0_copyPlate 35 = .ok (.iconst 1, 1) := by decide +kernel
theorem dX0_copyPlate_36 : decode cX0_copyPlate 36 = .ok (.iadd, 1) := by decide +kernel
theorem dX0_copyPlate_37 : decode cX0_copyPlate 37 = .ok (.aload_n 1, 1) := by decide +kernel
theorem dX0_copyPlate_38 : decode cX0_copyPlate 38 = .ok (.getfield 28, 3) := by decide +kernel
theorem dX0_copyPlate_41 : decode cX0_copyPlate 41 = .ok (.iconst 2, 1) := by decide +kernel
theorem dX0_copyPlate_42 : decode cX0_copyPlate 42 = .ok (.iload_n 2, 1) := by decide +kernel
theorem dX0_copyPlate_43 : decode cX0_copyPlate 43 = .ok (.imul, 1) := by decide +kernel
theorem dX0_copyPlate_44 : decode cX0_copyPlate 44 = .ok (.iconst 1, 1) := by decide +kernel
theorem dX0_copyPlate_45 : decode cX0_copyPlate 45 = .ok (.iadd, 1) := by decide +kernel
theorem dX0_copyPlate_46 : decode cX0_copyPlate 46 = .ok (.iaload, 1) := by decide +kernel
theorem dX0_copyPlate_47 : decode cX0_copyPlate 47 = .ok (.iastore, 1) := by decide +kernel
theorem dX0_copyPlate_48 : decode cX0_copyPlate 48 = .ok (.return_, 1) := by decide +kernel
theorem dX0_putNewSpring_0 : decode cX0_putNewSpring 0 = .ok (.aload_n 0, 1) := by decide +kernel
theorem dX0_putNewSpring_1 : decode cX0_putNewSpring 1 = .ok (.getfield 18, 3) := by decide +kernel
theorem dX0_putNewSpring_4 : decode cX0_putNewSpring 4 = .ok (.iload_n 1, 1) := by decide +kernel
theorem dX0_putNewSpring_5 : decode cX0_putNewSpring 5 = .ok (.iconst 1, 1) := by decide +kernel
theorem dX0_putNewSpring_6 : decode cX0_putNewSpring 6 = .ok (.iastore, 1) := by decide +kernel
theorem dX0_putNewSpring_7 : decode cX0_putNewSpring 7 = .ok (.aload_n 0, 1) := by decide +kernel
theorem dX0_putNewSpring_8 : decode cX0_putNewSpring 8 = .ok (.getfield 22, 3) := by decide +kernel
theorem dX0_putNewSpring_11 : decode cX0_putNewSpring 11 = .ok (.iload_n 1, 1) := by decide +kernel
theorem dX0_putNewSpring_12 : decode cX0_putNewSpring 12 = .ok (.bipush 10, 2) := by decide +kernel
theorem dX0_putNewSpring_14 : decode cX0_putNewSpring 14 = .ok (.iastore, 1) := by decide +kernel
theorem dX0_putNewSpring_15 : decode cX0_putNewSpring 15 = .ok (.return_, 1) := by decide +kernel
theorem dX0_hasPlate_0 : decode cX0_hasPlate 0 = .ok (.iload_n 1, 1) := by decide +kernel
theorem dX0_hasPlate_1 : decode cX0_hasPlate 1 = .ok (.ifCond .lt 15, 3) := by decide +kernel
theorem dX0_hasPlate_4 : decode cX0_hasPlate 4 = .ok (.iload_n 1, 1) := by decide +kernel
theorem dX0_hasPlate_5 : decode cX0_hasPlate 5 = .ok (.aload_n 0, 1) := by decide +kernel
theorem dX0_hasPlate_6 : decode cX0_hasPlate 6 = .ok (.getfield 15, 3) := by decide +kernel
theorem dX0_hasPlate_9 : decode cX0_hasPlate 9 = .ok (.if_icmp .ge 7, 3) := by decide +kernel
theorem dX0_hasPlate_12 : decode cX0_hasPlate 12 = .ok (.iconst 1, 1) := by decide +kernel
theorem dX0_hasPlate_13 : decode cX0_hasPlate 13 = .ok (.goto 4, 3) := by decide +kernel
theorem dX0_hasPlate_16 : decode cX0_hasPlate 16 = .ok (.iconst 0, 1) := by decide +kernel
theorem dX0_hasPlate_17 : decode cX0_hasPlate 17 = .ok (.ireturn, 1) := by decide +kernel
theorem dX0_hasSpring_0 : decode cX0_hasSpring 0 = .ok (.iload_n 1, 1) := by decide +kernel
theorem dX0_hasSpring_1 : decode cX0_hasSpring 1 = .ok (.ifCond .lt 15, 3) := by decide +kernel
theorem dX0_hasSpring_4 : decode cX0_hasSpring 4 = .ok (.iload_n 1, 1) := by decide +kernel
theorem dX0_hasSpring_5 : decode cX0_hasSpring 5 = .ok (.aload_n 0, 1) := by decide +kernel
theorem dX0_hasSpring_6 : decode cX0_hasSpring 6 = .ok (.getfield 15, 3) := by decide +kernel
theorem dX0_hasSpring_9 : decode cX0_hasSpring 9 = .ok (.if_icmp .gt 7, 3) := by decide +kernel
theorem dX0_hasSpring_12 : decode cX0_hasSpring 12 = .ok (.iconst 1, 1) := by decide +kernel
theorem dX0_hasSpring_13 : decode cX0_hasSpring 13 = .ok (.goto 4, 3) := by decide +kernel
theorem dX0_hasSpring_16 : decode cX0_hasSpring 16 = .ok (.iconst 0, 1) := by decide +kernel
theorem dX0_hasSpring_17 : decode cX0_hasSpring 17 = .ok (.ireturn, 1) := by decide +kernel
theorem dX0_stopOf_0 : decode cX0_stopOf 0 = .ok (.aload_n 0, 1) := by decide +kernel
theorem dX0_stopOf_1 : decode cX0_stopOf 1 = .ok (.getfield 28, 3) := by decide +kernel
theorem dX0_stopOf_4 : decode cX0_stopOf 4 = .ok (.iconst 2, 1) := by decide +kernel
theorem dX0_stopOf_5 : decode cX0_stopOf 5 = .ok (.iload_n 1, 1) := by decide +kernel
theorem dX0_stopOf_6 : decode cX0_stopOf 6 = .ok (.imul, 1) := by decide +kernel
theorem dX0_stopOf_7 : decode cX0_stopOf 7 = .ok (.iload_n 2, 1) := by decide +kernel
theorem dX0_stopOf_8 : decode cX0_stopOf 8 = .ok (.iadd, 1) := by decide +kernel
theorem dX0_stopOf_9 : decode cX0_stopOf 9 = .ok (.iaload, 1) := by decide +kernel
theorem dX0_stopOf_10 : decode cX0_stopOf 10 = .ok (.ireturn, 1) := by decide +kernel
theorem dX0_countStops_0 : decode cX0_countStops 0 = .ok (.iconst 0, 1) := by decide +kernel
theorem dX0_countStops_1 : decode cX0_countStops 1 = .ok (.istore_n 1, 1) := by decide +kernel
theorem dX0_countStops_2 : decode cX0_countStops 2 = .ok (.iconst 0, 1) := by decide +kernel
theorem dX0_countStops_3 : decode cX0_countStops 3 = .ok (.istore_n 2, 1) := by decide +kernel
theorem dX0_countStops_4 : decode cX0_countStops 4 = .ok (.iload_n 2, 1) := by decide +kernel
theorem dX0_countStops_5 : decode cX0_countStops 5 = .ok (.iconst 2, 1) := by decide +kernel
theorem dX0_countStops_6 : decode cX0_countStops 6 = .ok (.aload_n 0, 1) := by decide +kernel
theorem dX0_countStops_7 : decode cX0_countStops 7 = .ok (.getfield 15, 3) := by decide +kernel
theorem dX0_countStops_10 : decode cX0_countStops 10 = .ok (.imul, 1) := by decide +kernel
theorem dX0_countStops_11 : decode cX0_countStops 11 = .ok (.if_icmp .ge 22, 3) := by decide +kernel
theorem dX0_countStops_14 : decode cX0_countStops 14 = .ok (.aload_n 0, 1) := by decide +kernel
theorem dX0_countStops_15 : decode cX0_countStops 15 = .ok (.getfield 28, 3) := by decide +kernel
theorem dX0_countStops_18 : decode cX0_countStops 18 = .ok (.iload_n 2, 1) := by decide +kernel
theorem dX0_countStops_19 : decode cX0_countStops 19 = .ok (.iaload, 1) := by decide +kernel
theorem dX0_countStops_20 : decode cX0_countStops 20 = .ok (.iconst (-1), 1) := by decide +kernel
theorem dX0_countStops_21 : decode cX0_countStops 21 = .ok (.if_icmp .eq 6, 3) := by decide +kernel
theorem dX0_countStops_24 : decode cX0_countStops 24 = .ok (.iinc 1 1, 3) := by decide +kernel
theorem dX0_countStops_27 : decode cX0_countStops 27 = .ok (.iinc 2 1, 3) := by decide +kernel
theorem dX0_countStops_30 : decode cX0_countStops 30 = .ok (.goto (-26), 3) := by decide +kernel
theorem dX0_countStops_33 : decode cX0_countStops 33 = .ok (.iload_n 1, 1) := by decide +kernel
theorem dX0_countStops_34 : decode cX0_countStops 34 = .ok (.ireturn, 1) := by decide +kernel
theorem dX0_sumOfLoads_0 : decode cX0_sumOfLoads 0 = .ok (.iconst 0, 1) := by decide +kernel
theorem dX0_sumOfLoads_1 : decode cX0_sumOfLoads 1 = .ok (.istore_n 3, 1) := by decide +kernel
theorem dX0_sumOfLoads_2 : decode cX0_sumOfLoads 2 = .ok (.iload_n 1, 1) := by decide +kernel
theorem dX0_sumOfLoads_3 : decode cX0_sumOfLoads 3 = .ok (.istore 4, 2) := by decide +kernel
theorem dX0_sumOfLoads_5 : decode cX0_sumOfLoads 5 = .ok (.iload 4, 2) := by decide +kernel
theorem dX0_sumOfLoads_7 : decode cX0_sumOfLoads 7 = .ok (.iload_n 2, 1) := by decide +kernel
theorem dX0_sumOfLoads_8 : decode cX0_sumOfLoads 8 = .ok (.if_icmp .gt 19, 3) := by decide +kernel
theorem dX0_sumOfLoads_11 : decode cX0_sumOfLoads 11 = .ok (.iload_n 3, 1) := by decide +kernel
theorem dX0_sumOfLoads_12 : decode cX0_sumOfLoads 12 = .ok (.aload_n 0, 1) := by decide +kernel
theorem dX0_sumOfLoads_13 : decode cX0_sumOfLoads 13 = .ok (.getfield 25, 3) := by decide +kernel
theorem dX0_sumOfLoads_16 : decode cX0_sumOfLoads 16 = .ok (.iload 4, 2) := by decide +kernel
theorem dX0_sumOfLoads_18 : decode cX0_sumOfLoads 18 = .ok (.iaload, 1) := by decide +kernel
theorem dX0_sumOfLoads_19 : decode cX0_sumOfLoads 19 = .ok (.iadd, 1) := by decide +kernel
theorem dX0_sumOfLoads_20 : decode cX0_sumOfLoads 20 = .ok (.istore_n 3, 1) := by decide +kernel
theorem dX0_sumOfLoads_21 : decode cX0_sumOfLoads 21 = .ok (.iinc 4 1, 3) := by decide +kernel
theorem dX0_sumOfLoads_24 : decode cX0_sumOfLoads 24 = .ok (.goto (-19), 3) := by decide +kernel
theorem dX0_sumOfLoads_27 : decode cX0_sumOfLoads 27 = .ok (.iload_n 3, 1) := by decide +kernel
theorem dX0_sumOfLoads_28 : decode cX0_sumOfLoads 28 = .ok (.ireturn, 1) := by decide +kernel
set_option maxRecDepth 20000 in
theorem ggX0_leftBoundOf_X0_stopOf : GoodIn wsX0_leftBoundOf wsX0_stopOf := goodIn_r _ [5, 6, 7, 8, 9, 10, 11, 12] (by decide +kernel) (by decide +kernel)
set_option maxRecDepth 20000 in
theorem gX0_leftBoundOf_X0_stopOf : GoodIn wsX0_leftBoundOf (wsV RX0 39 RX0 yX0_stopOf wsX0_stopOf) := goodIn_app (goodIn_of _ (by decide +kernel)) ggX0_leftBoundOf_X0_stopOf
theorem dX0_leftBoundOf_0 : decode cX0_leftBoundOf 0 = .ok (.aload_n 0, 1) := by decide +kernel
theorem dX0_leftBoundOf_1 : decode cX0_leftBoundOf 1 = .ok (.iload_n 1, 1) := by decide +kernel
theorem dX0_leftBoundOf_2 : decode cX0_leftBoundOf 2 = .ok (.iconst 0, 1) := by decide +kernel
theorem dX0_leftBoundOf_3 : decode cX0_leftBoundOf 3 = .ok (.invokevirtual 39, 3) := by decide +kernel
theorem dX0_leftBoundOf_6 : decode cX0_leftBoundOf 6 = .ok (.istore_n 2, 1) := by decide +kernel
theorem dX0_leftBoundOf_7 : decode cX0_leftBoundOf 7 = .ok (.iload_n 2, 1) := by decide +kernel
theorem dX0_leftBoundOf_8 : decode cX0_leftBoundOf 8 = .ok (.iconst (-1), 1) := by decide +kernel
theorem dX0_leftBoundOf_9 : decode cX0_leftBoundOf 9 = .ok (.if_icmp .ne 7, 3) := by decide +kernel
theorem dX0_leftBoundOf_12 : decode cX0_leftBoundOf 12 = .ok (.iconst 0, 1) := by decide +kernel
theorem dX0_leftBoundOf_13 : decode cX0_leftBoundOf 13 = .ok (.goto 4, 3) := by decide +kernel
theorem dX0_leftBoundOf_16 : decode cX0_leftBoundOf 16 = .ok (.iload_n 2, 1) := by decide +kernel
theorem dX0_leftBoundOf_17 : decode cX0_leftBoundOf 17 = .ok (.ireturn, 1) := by decide +kernel
set_option maxRecDepth 20000 in
theorem ggX0_rightBoundOf_X0_stopOf : GoodIn wsX0_rightBoundOf wsX0_stopOf := goodIn_r _ [6, 7, 8, 9, 10, 11, 12, 13] (by decide +kernel) (by decide +kernel)
set_option maxRecDepth 20000 in
theorem gX0_rightBoundOf_X0_stopOf : GoodIn wsX0_rightBoundOf (wsV RX0 39 RX0 yX0_stopOf wsX0_stopOf) := goodIn_app (goodIn_of _ (by decide +kernel)) ggX0_rightBoundOf_X0_stopOf
theorem dX0_rightBoundOf_0 : decode cX0_rightBoundOf 0 = .ok (.aload_n 0, 1) := by decide +kernel
theorem dX0_rightBoundOf_1 : decode cX0_rightBoundOf 1 = .ok (.iload_n 1, 1) := by decide +kernel
theorem dX0_rightBoundOf_2 : decode cX0_rightBoundOf 2 = .ok (.iconst 1, 1) := by decide +kernel
theorem dX0_rightBoundOf_3 : decode cX0_rightBoundOf 3 = .ok (.invokevirtual 39, 3) := by decide +kernel
theorem dX0_rightBoundOf_6 : decode cX0_rightBoundOf 6 = .ok (.istore_n 2, 1) := by decide +kernel
theorem dX0_rightBoundOf_7 : decode cX0_rightBoundOf 7 = .ok (.iload_n 2, 1) := by decide +kernel
theorem dX0_rightBoundOf_8 : decode cX0_rightBoundOf 8 = .ok (.iconst (-1), 1) := by decide +kernel
theorem dX0_rightBoundOf_9 : decode cX0_rightBoundOf 9 = .ok (.if_icmp .ne 10, 3) := by decide +kernel
theorem dX0_rightBoundOf_12 : decode cX0_rightBoundOf 12 = .ok (.aload_n 0, 1) := by decide +kernel
theorem dX0_rightBoundOf_13 : decode cX0_rightBoundOf 13 = .ok (.getfield 9, 3) := by decide +kernel
theorem dX0_rightBoundOf_16 : decode cX0_rightBoundOf 16 = .ok (.goto 4, 3) := by decide +kernel
theorem dX0_rightBoundOf_19 : decode cX0_rightBoundOf 19 = .ok (.iload_n 2, 1) := by decide +kernel
theorem dX0_rightBoundOf_20 : decode cX0_rightBoundOf 20 = .ok (.ireturn, 1) := by decide +kernel
set_option maxRecDepth 20000 in
theorem ggX0_allowsRow_X0_leftBoundOf : GoodIn wsX0_allowsRow wsX0_leftBoundOf := goodIn_r _ [10, 11, 12, 13, 9, 14, 15, 21, 22, 23, 24, 25, 26] (by decide +kernel) (by decide +kernel)
set_option maxRecDepth 20000 in
theorem gX0_allowsRow_X0_leftBoundOf : GoodIn wsX0_allowsRow (wsV RX0 43 RX0 yX0_leftBoundOf wsX0_leftBoundOf) := goodIn_app (goodIn_of _ (by decide +kernel)) ggX0_allowsRow_X0_leftBoundOf
set_option maxRecDepth 20000 in
theorem ggX0_allowsRow_X0_rightBoundOf : GoodIn wsX0_allowsRow wsX0_rightBoundOf := goodIn_r _ [19, 20, 11, 12, 13, 9, 14, 15, 21, 22, 23, 24, 25, 26] (by decide +kernel) (by decide +kernel)
set_option maxRecDepth 20000 in
theorem gX0_allowsRow_X0_rightBoundOf : GoodIn wsX0_allowsRow (wsV RX0 52 RX0 yX0_rightBoundOf wsX0_rightBoundOf) := goodIn_app (goodIn_of _ (by decide +kernel)) ggX0_allowsRow_X0_rightBoundOf
theorem dX0_allowsRow_0 : decode cX0_allowsRow 0 = .ok (.iconst 0, 1) := by decide +kernel
theorem dX0_allowsRow_1 : decode cX0_allowsRow 1 = .ok (.istore_n 1, 1) := by decide +kernel
theorem dX0_allowsRow_2 : decode cX0_allowsRow 2 = .ok (.iconst 0, 1) := by decide +kernel
theorem dX0_allowsRow_3 : decode cX0_allowsRow 3 = .ok (.istore_n 2, 1) := by decide +kernel
theorem dX0_allowsRow_4 : decode cX0_allowsRow 4 = .ok (.iload_n 2, 1) := by decide +kernel
theorem dX0_allowsRow_5 : decode cX0_allowsRow 5 = .ok (.aload_n 0, 1) := by decide +kernel
theorem dX0_allowsRow_6 : decode cX0_allowsRow 6 = .ok (.getfield 15, 3) := by decide +kernel
theorem dX0_allowsRow_9 : decode cX0_allowsRow 9 = .ok (.if_icmp .ge 30, 3) := by decide +kernel
theorem dX0_allowsRow_12 : decode cX0_allowsRow 12 = .ok (.iload_n 1, 1) := by decide +kernel
theorem dX0_allowsRow_13 : decode cX0_allowsRow 13 = .ok (.aload_n 0, 1) := by decide +kernel
theorem dX0_allowsRow_14 : decode cX0_allowsRow 14 = .ok (.iload_n 2, 1) := by decide +kernel
theorem dX0_allowsRow_15 : decode cX0_allowsRow 15 = .ok (.invokevirtual 43, 3) := by decide +kernel
theorem dX0_allowsRow_18 : decode cX0_allowsRow 18 = .ok (.invokestatic 47, 3) := by decide +kernel
theorem dX0_allowsRow_21 : decode cX0_allowsRow 21 = .ok (.istore_n 1, 1) := by decide +kernel
theorem dX0_allowsRow_22 : decode cX0_allowsRow 22 = .ok (.iload_n 1, 1) := by decide +kernel
theorem dX0_allowsRow_23 : decode cX0_allowsRow 23 = .ok (.aload_n 0, 1) := by decide +kernel
theorem dX0_allowsRow_24 : decode cX0_allowsRow 24 = .ok (.iload_n 2, 1) := by decide +kernel
theorem dX0_allowsRow_25 : decode cX0_allowsRow 25 = .ok (.invokevirtual 52, 3) := by decide +kernel
theorem dX0_allowsRow_28 : decode cX0_allowsRow 28 = .ok (.if_icmp .le 5, 3) := by decide +kernel
theorem dX0_allowsRow_31 : decode cX0_allowsRow 31 = .ok (.iconst 0, 1) := by decide +kernel
theorem dX0_allowsRow_32 : decode cX0_allowsRow 32 = .ok (.ireturn, 1) := by decide +kernel
theorem dX0_allowsRow_33 : decode cX0_allowsRow 33 = .ok (.iinc 2 1, 3) := by decide +kernel
theorem dX0_allowsRow_36 : decode cX0_allowsRow 36 = .ok (.goto (-32), 3) := by decide +kernel
theorem dX0_allowsRow_39 : decode cX0_allowsRow 39 = .ok (.iconst 1, 1) := by decide +kernel
theorem dX0_allowsRow_40 : decode cX0_allowsRow 40 = .ok (.ireturn, 1) := by decide +kernel
theorem dX0_hasStopBeyond_0 : decode cX0_hasStopBeyond 0 = .ok (.iconst 0, 1) := by decide +kernel
theorem dX0_hasStopBeyond_1 : decode cX0_hasStopBeyond 1 = .ok (.istore_n 2, 1) := by decide +kernel
theorem dX0_hasStopBeyond_2 : decode cX0_hasStopBeyond 2 = .ok (.iload_n 2, 1) := by decide +kernel
theorem dX0_hasStopBeyond_3 : decode cX0_hasStopBeyond 3 = .ok (.iconst 2, 1) := by decide +kernel
theorem dX0_hasStopBeyond_4 : decode cX0_hasStopBeyond 4 = .ok (.aload_n 0, 1) := by decide +kernel
theorem dX0_hasStopBeyond_5 : decode cX0_hasStopBeyond 5 = .ok (.getfield 15, 3) := by decide +kernel
theorem dX0_hasStopBeyond_8 : decode cX0_hasStopBeyond 8 = .ok (.imul, 1) := by decide +kernel
theorem dX0_hasStopBeyond_9 : decode cX0_hasStopBeyond 9 = .ok (.if_icmp .ge 21, 3) := by decide +kernel
theorem dX0_hasStopBeyond_12 : decode cX0_hasStopBeyond 12 = .ok (.aload_n 0, 1) := by decide +kernel
theorem dX0_hasStopBeyond_13 : decode cX0_hasStopBeyond 13 = .ok (.getfield 28, 3) := by decide +kernel
theorem dX0_hasStopBeyond_16 : decode cX0_hasStopBeyond 16 = .ok (.iload_n 2, 1) := by decide +kernel
theorem dX0_hasStopBeyond_17 : decode cX0_hasStopBeyond 17 = .ok (.iaload, 1) := by decide +kernel
theorem dX0_hasStopBeyond_18 : decode cX0_hasStopBeyond 18 = .ok (.iload_n 1, 1) := by decide +kernel
theorem dX0_hasStopBeyond_19 : decode cX0_hasStopBeyond 19 = .ok (.if_icmp .le 5, 3) := by decide +kernel
theorem dX0_hasStopBeyond_22 : decode cX0_hasStopBeyond 22 = .ok (.iconst 1, 1) := by decide +kernel
theorem dX0_hasStopBeyond_23 : decode cX0_hasStopBeyond 23 = .ok (.ireturn, 1) := by decide +kernel
theorem dX0_hasStopBeyond_24 : decode cX0_hasStopBeyond 24 = .ok (.iinc 2 1, 3) := by decide +kernel
theorem dX0_hasStopBeyond_27 : decode cX0_hasStopBeyond 27 = .ok (.goto (-25), 3) := by decide +kernel
theorem dX0_hasStopBeyond_30 : decode cX0_hasStopBeyond 30 = .ok (.iconst 0, 1) := by decide +kernel
theorem dX0_hasStopBeyond_31 : decode cX0_hasStopBeyond 31 = .ok (.ireturn, 1) := by decide +kernel
set_option maxRecDepth 20000 in
theorem ggX0_setWidth_X0_hasStopBeyond : GoodIn wsX0_setWidth wsX0_hasStopBeyond := goodIn_r _ [8, 9, 10, 11, 12, 13, 14, 15, 16] (by decide +kernel) (by decide +kernel)
set_option maxRecDepth 20000 in
theorem gX0_setWidth_X0_hasStopBeyond : GoodIn wsX0_setWidth (wsV RX0 56 RX0 yX0_hasStopBeyond wsX0_hasStopBeyond) := goodIn_app (goodIn_of _ (by decide +kernel)) ggX0_setWidth_X0_hasStopBeyond
theorem dX0_setWidth_0 : decode cX0_setWidth 0 = .ok (.iload_n 1, 1) := by decide +kernel
theorem dX0_setWidth_1 : decode cX0_setWidth 1 = .ok (.bipush 10, 2) := by decide +kernel
theorem dX0_setWidth_3 : decode cX0_setWidth 3 = .ok (.if_icmp .lt 9, 3) := by decide +kernel
theorem dX0_setWidth_6 : decode cX0_setWidth 6 = .ok (.iload_n 1, 1) := by decide +kernel
theorem dX0_setWidth_7 : decode cX0_setWidth 7 = .ok (.bipush 99, 2) := by decide +kernel
theorem dX0_setWidth_9 : decode cX0_setWidth 9 = .ok (.if_icmp .le 6, 3) := by decide +kernel
theorem dX0_setWidth_12 : decode cX0_setWidth 12 = .ok (.ldc 55, 2) := by decide +kernel
theorem dX0_setWidth_14 : decode cX0_setWidth 14 = .ok (.ireturn, 1) := by decide +kernel
theorem dX0_setWidth_15 : decode cX0_setWidth 15 = .ok (.aload_n 0, 1) := by decide +kernel
theorem dX0_setWidth_16 : decode cX0_setWidth 16 = .ok (.iload_n 1, 1) := by decide +kernel
theorem dX0_setWidth_17 : decode cX0_setWidth 17 = .ok (.invokevirtual 56, 3) := by decide +kernel
theorem dX0_setWidth_20 : decode cX0_setWidth 20 = .ok (.ifCond .eq 6, 3) := by decide +kernel
theorem dX0_setWidth_23 : decode cX0_setWidth 23 = .ok (.ldc 60, 2) := by decide +kernel
theorem dX0_setWidth_25 : decode cX0_setWidth 25 = .ok (.ireturn, 1) := by decide +kernel
theorem dX0_setWidth_26 : decode cX0_setWidth 26 = .ok (.aload_n 0, 1) := by decide +kernel
theorem dX0_setWidth_27 : decode cX0_setWidth 27 = .ok (.getfield 9, 3) := by decide +kernel
theorem dX0_setWidth_30 : decode cX0_setWidth 30 = .ok (.istore_n 2, 1) := by decide +kernel
theorem dX0_setWidth_31 : decode cX0_setWidth 31 = .ok (.aload_n 0, 1) := by decide +kernel
theorem dX0_setWidth_32 : decode cX0_setWidth 32 = .ok (.iload_n 1, 1) := by decide +kernel
theorem dX0_setWidth_33 : decode cX0_setWidth 33 = .ok (.putfield 9, 3) := by decide +kernel
theorem dX0_setWidth_36 : decode cX0_setWidth 36 = .ok (.iload_n 2, 1) := by decide +kernel
theorem dX0_setWidth_37 : decode cX0_setWidth 37 = .ok (.ireturn, 1) := by decide +kernel
set_option maxRecDepth 20000 in
theorem ggX0_addPlate_X0_putNewSpring : GoodIn wsX0_addPlate wsX0_putNewSpring := goodIn_r _ [9, 10, 11, 12, 13, 14, 15, 16, 17] (by decide +kernel) (by decide +kernel)
set_option maxRecDepth 20000 in
theorem gX0_addPlate_X0_putNewSpring : GoodIn wsX0_addPlate (wsV RX0 31 RX0 yX0_putNewSpring wsX0_putNewSpring) := goodIn_app (goodIn_of _ (by decide +kernel)) ggX0_addPlate_X0_putNewSpring
theorem dX0_addPlate_0 : decode cX0_addPlate 0 = .ok (.aload_n 0, 1) := by decide +kernel
theorem dX0_addPlate_1 : decode cX0_addPlate 1 = .ok (.getfield 15, 3) := by decide +kernel
theorem dX0_addPlate_4 : decode cX0_addPlate 4 = .ok (.iconst 4, 1) := by decide +kernel
theorem dX0_addPlate_5 : decode cX0_addPlate 5 = .ok (.if_icmp .lt 6, 3) := by decide +kernel
theorem dX0_addPlate_8 : decode cX0_addPlate 8 = .ok (.ldc 61, 2) := by decide +kernel
theorem dX0_addPlate_10 : decode cX0_addPlate 10 = .ok (.ireturn, 1) := by decide +kernel
theorem dX0_addPlate_11 : decode cX0_addPlate 11 = .ok (.aload_n 0, 1) := by decide +kernel
theorem dX0_addPlate_12 : decode cX0_addPlate 12 = .ok (.getfield 15, 3) := by decide +kernel
theorem dX0_addPlate_15 : decode cX0_addPlate 15 = .ok (.istore_n 1, 1) := by decide +kernel
theorem dX0_addPlate_16 : decode cX0_addPlate 16 = .ok (.aload_n 0, 1) := by decide +kernel
theorem dX0_addPlate_17 : decode cX0_addPlate 17 = .ok (.getfield 25, 3) := by decide +kernel
theorem dX0_addPlate_20 : decode cX0_addPlate 20 = .ok (.iload_n 1, 1) := by decide +kernel
theorem dX0_addPlate_21 : decode cX0_addPlate 21 = .ok (.iconst 0, 1) := by decide +kernel
theorem dX0_addPlate_22 : decode cX0_addPlate 22 = .ok (.iastore, 1) := by decide +kernel
theorem dX0_addPlate_23 : decode cX0_addPlate 23 = .ok (.aload_n 0, 1) := by decide +kernel
theorem dX0_addPlate_24 : decode cX0_addPlate 24 = .ok (.getfield 28, 3) := by decide +kernel
theorem dX0_addPlate_27 : decode cX0_addPlate 27 = .ok (.iconst 2, 1) := by decide +kernel
theorem dX0_addPlate_28 : decode cX0_addPlate 28 = .ok (.iload_n 1, 1) := by decide +kernel
theorem dX0_addPlate_29 : decode cX0_addPlate 29 = .ok (.imul, 1) := by decide +kernel
theorem dX0_addPlate_30 : decode cX0_addPlate 30 = .ok (.iconst (-1), 1) := by decide +kernel
theorem dX0_addPlate_31 : decode cX0_addPlate 31 = .ok (.iastore, 1) := by decide +kernel
theorem dX0_addPlate_32 : decode cX0_addPlate 32 = .ok (.aload_n 0, 1) := by decide +kernel
theorem dX0_addPlate_33 : decode cX0_addPlate 33 = .ok (.getfield 28, 3) := by decide +kernel
theorem dX0_addPlate_36 : decode cX0_addPlate 36 = .ok (.iconst 2, 1) := by decide +kernel
theorem dX0_addPlate_37 : decode cX0_addPlate 37 = .ok (.iload_n 1, 1) := by decide +kernel
theorem dX0_addPlate_38 : decode cX0_addPlate 38 = .ok (.imul, 1) := by decide +kernel
theorem dX0_addPlate_39 : decode cX0_addPlate 39 = .ok (.iconst 1, 1) := by decide +kernel
theorem dX0_addPlate_40 : decode cX0_addPlate 40 = .ok (.iadd, 1) := by decide +kernel
theorem dX0_addPlate_41 : decode cX0_addPlate 41 = .ok (.iconst (-1), 1) := by decide +kernel
theorem dX0_addPlate_42 : decode cX0_addPlate 42 = .ok (.iastore, 1) := by decide +kernel
theorem dX0_addPlate_43 : decode cX0_addPlate 43 = .ok (.aload_n 0, 1) := by decide +kernel
theorem dX0_addPlate_44 : decode cX0_addPlate 44 = .ok (.iload_n 1, 1) := by decide +kernel
theorem dX0_addPlate_45 : decode cX0_addPlate 45 = .ok (.iconst 1, 1) := by decide +kernel
theorem dX0_addPlate_46 : decode cX0_addPlate 46 = .ok (.iadd, 1) := by decide +kernel
theorem dX0_addPlate_47 : decode cX0_addPlate 47 = .ok (.invokevirtual 31, 3) := by decide +kernel
theorem dX0_addPlate_50 : decode cX0_addPlate 50 = .ok (.aload_n 0, 1) := by decide +kernel
theorem dX0_addPlate_51 : decode cX0_addPlate 51 = .ok (.dup, 1) := by decide +kernel
theorem dX0_addPlate_52 : decode cX0_addPlate 52 = .ok (.getfield 15, 3) := by decide +kernel
theorem dX0_addPlate_55 : decode cX0_addPlate 55 = .ok (.iconst 1, 1) := by decide +kernel
theorem dX0_addPlate_56 : decode cX0_addPlate 56 = .ok (.iadd, 1) := by decide +kernel
theorem dX0_addPlate_57 : decode cX0_addPlate 57 = .ok (.putfield 15, 3) := by decide +kernel
theorem dX0_addPlate_60 : decode cX0_addPlate 60 = .ok (.iload_n 1, 1) := by decide +kernel
theorem dX0_addPlate_61 : decode cX0_addPlate 61 = .ok (.ireturn, 1) := by decide +kernel
set_option maxRecDepth 20000 in
theorem ggX0_removePlate_X0_hasPlate : GoodIn wsX0_removePlate wsX0_hasPlate := goodIn_r _ [9, 2, 16, 17, 18, 19, 20, 21] (by decide +kernel) (by decide +kernel)
set_option maxRecDepth 20000 in
theorem gX0_removePlate_X0_hasPlate : GoodIn wsX0_removePlate (wsV RX0 62 RX0 yX0_hasPlate wsX0_hasPlate) := goodIn_app (goodIn_of _ (by decide +kernel)) ggX0_removePlate_X0_hasPlate
set_option maxRecDepth 20000 in
theorem ggX0_removePlate_X0_copyPlate : GoodIn wsX0_removePlate wsX0_copyPlate := goodIn_r _ [13, 14, 15, 16, 17, 18, 19, 20, 21] (by decide +kernel) (by decide +kernel)
set_option maxRecDepth 20000 in
theorem gX0_removePlate_X0_copyPlate : GoodIn wsX0_removePlate (wsV RX0 35 RX0 yX0_copyPlate wsX0_copyPlate) := goodIn_app (goodIn_of _ (by decide +kernel)) ggX0_removePlate_X0_copyPlate
theorem dX0_removePlate_0 : decode cX0_removePlate 0 = .ok (.aload_n 0, 1) := by decide +kernel
theorem dX0_removePlate_1 : decode cX0_removePlate 1 = .ok (.iload_n 1, 1) := by decide +kernel
theorem dX0_removePlate_2 : decode cX0_removePlate 2 = .ok (.invokevirtual 62, 3) := by decide +kernel
theorem dX0_removePlate_5 : decode cX0_removePlate 5 = .ok (.ifCond .ne 6, 3) := by decide +kernel
theorem dX0_removePlate_8 : decode cX0_removePlate 8 = .ok (.ldc 55, 2) := by decide +kernel
theorem dX0_removePlate_10 : decode cX0_removePlate 10 = .ok (.ireturn, 1) := by decide +kernel
theorem dX0_removePlate_11 : decode cX0_removePlate 11 = .ok (.iload_n 1, 1) := by decide +kernel
theorem dX0_removePlate_12 : decode cX0_removePlate 12 = .ok (.istore_n 2, 1) := by decide +kernel
theorem dX0_removePlate_13 : decode cX0_removePlate 13 = .ok (.iload_n 2, 1) := by decide +kernel
theorem dX0_removePlate_14 : decode cX0_removePlate 14 = .ok (.iconst 1, 1) := by decide +kernel
theorem dX0_removePlate_15 : decode cX0_removePlate 15 = .ok (.iadd, 1) := by decide +kernel
theorem dX0_removePlate_16 : decode cX0_removePlate 16 = .ok (.aload_n 0, 1) := by decide +kernel
theorem dX0_removePlate_17 : decode cX0_removePlate 17 = .ok (.getfield 15, 3) := by decide +kernel
theorem dX0_removePlate_20 : decode cX0_removePlate 20 = .ok (.if_icmp .ge 50, 3) := by decide +kernel
theorem dX0_removePlate_23 : decode cX0_removePlate 23 = .ok (.aload_n 0, 1) := by decide +kernel
theorem dX0_removePlate_24 : decode cX0_removePlate 24 = .ok (.aload_n 0, 1) := by decide +kernel
theorem dX0_removePlate_25 : decode cX0_removePlate 25 = .ok (.iload_n 2, 1) := by decide +kernel
theorem dX0_removePlate_26 : decode cX0_removePlate 26 = .ok (.iconst 1, 1) := by decide +kernel
theorem dX0_removePlate_27 : decode cX0_removePlate 27 = .ok (.iadd, 1) := by decide +kernel
theorem dX0_removePlate_28 : decode cX0_removePlate 28 = .ok (.iload_n 2, 1) := by decide +kernel
theorem dX0_removePlate_29 : decode cX0_removePlate 29 = .ok (.invokevirtual 35, 3) := by decide +kernel
theorem dX0_removePlate_32 : decode cX0_removePlate 32 = .ok (.aload_n 0, 1) := by decide +kernel
theorem dX0_removePlate_33 : decode cX0_removePlate 33 = .ok (.getfield 18, 3) := by decide +kernel
theorem dX0_removePlate_36 : decode cX0_removePlate 36 = .ok (.iload_n 2, 1) := by decide +kernel
theorem dX0_removePlate_37 : decode cX0_removePlate 37 = .ok (.iconst 1, 1) := by decide +kernel
theorem dX0_removePlate_38 : decode cX0_removePlate 38 = .ok (.iadd, 1) := by decide +kernel
theorem dX0_removePlate_39 : decode cX0_removePlate 39 = .ok (.aload_n 0, 1) := by decide +kernel
theorem dX0_removePlate_40 : decode cX0_removePlate 40 = .ok (.getfield 18, 3) := by decide +kernel
theorem dX0_removePlate_43 : decode cX0_removePlate 43 = .ok (.iload_n 2, 1) := by decide +kernel
theorem dX0_removePlate_44 : decode cX0_removePlate 44 = .ok (.iconst 2, 1) := by decide +kernel
theorem dX0_removePlate_45 : decode cX0_removePlate 45 = .ok (.iadd, 1) := by decide +kernel
theorem dX0_removePlate_46 : decode cX0_removePlate 46 = .ok (.iaload, 1) := by decide +kernel
theorem dX0_removePlate_47 : decode cX0_removePlate 47 = .ok (.iastore, 1) := by decide +kernel
theorem dX0_removePlate_48 : decode cX0_removePlate 48 = .ok (.aload_n 0, 1) := by decide +kernel
theorem dX0_removePlate_49 : decode cX0_removePlate 49 = .ok (.getfield 22, 3) := by decide +kernel
theorem dX0_removePlate_52 : decode cX0_removePlate 52 = .ok (.iload_n 2, 1) := by decide +kernel
theorem dX0_removePlate_53 : decode cX0_removePlate 53 = .ok (.iconst 1, 1) := by decide +kernel
theorem dX0_removePlate_54 : decode cX0_removePlate 54 = .ok (.iadd, 1) := by decide +kernel
theorem dX0_removePlate_55 : decode cX0_removePlate 55 = .ok (.aload_n 0, 1) := by decide +kernel
theorem dX0_removePlate_56 : decode cX0_removePlate 56 = .ok (.getfield 22, 3) := by decide +kernel
theorem dX0_removePlate_59 : decode cX0_removePlate 59 = .ok (.iload_n 2, 1) := by decide +kernel
theorem dX0_removePlate_60 : decode cX0_removePlate 60 = .ok (.iconst 2, 1) := by decide +kernel
theorem dX0_removePlate_61 : decode cX0_removePlate 61 = .ok (.iadd, 1) := by decide +kernel
theorem dX0_removePlate_62 : decode cX0_removePlate 62 = .ok (.iaload, 1) := by decide +kernel
theorem dX0_removePlate_63 : decode cX0_removePlate 63 = .ok (.iastore, 1) := by decide +kernel
theorem dX0_removePlate_64 : decode cX0_removePlate 64 = .ok (.iinc 2 1, 3) := by decide +kernel
theorem dX0_removePlate_67 : decode cX0_removePlate 67 = .ok (.goto (-54), 3) := by decide +kernel
theorem dX0_removePlate_70 : decode cX0_removePlate 70 = .ok (.aload_n 0, 1) := by decide +kernel
theorem dX0_removePlate_71 : decode cX0_removePlate 71 = .ok (.dup, 1) := by decide +kernel
theorem dX0_removePlate_72 : decode cX0_removePlate 72 = .ok (.getfield 15, 3) := by decide +kernel
theorem dX0_removePlate_75 : decode cX0_removePlate 75 = .ok (.iconst 1, 1) := by decide +kernel
theorem dX0_removePlate_76 : decode cX0_removePlate 76 = .ok (.isub, 1) := by decide +kernel
theorem dX0_removePlate_77 : decode cX0_removePlate 77 = .ok (.putfield 15, 3) := by decide +kernel
theorem dX0_removePlate_80 : decode cX0_removePlate 80 = .ok (.aload_n 0, 1) := by decide +kernel
theorem dX0_removePlate_81 : decode cX0_removePlate 81 = .ok (.getfield 15, 3) := by decide +kernel
theorem dX0_removePlate_84 : decode cX0_removePlate 84 = .ok (.ireturn, 1) := by decide +kernel
set_option maxRecDepth 20000 in
theorem ggX0_setSpring_X0_hasSpring : GoodIn wsX0_setSpring wsX0_hasSpring := goodIn_r _ [8, 9, 10, 11, 12, 13, 14, 15] (by decide +kernel) (by decide +kernel)
set_option maxRecDepth 20000 in
theorem gX0_setSpring_X0_hasSpring : GoodIn wsX0_setSpring (wsV RX0 65 RX0 yX0_hasSpring wsX0_hasSpring) := goodIn_app (goodIn_of _ (by decide +kernel)) ggX0_setSpring_X0_hasSpring
theorem dX0_setSpring_0 : decode cX0_setSpring 0 = .ok (.aload_n 0, 1) := by decide +kernel
theorem dX0_setSpring_1 : decode cX0_setSpring 1 = .ok (.iload_n 1, 1) := by decide +kernel
theorem dX0_setSpring_2 : decode cX0_setSpring 2 = .ok (.invokevirtual 65, 3) := by decide +kernel
theorem dX0_setSpring_5 : decode cX0_setSpring 5 = .ok (.ifCond .eq 24, 3) := by decide +kernel
theorem dX0_setSpring_8 : decode cX0_setSpring 8 = .ok (.iload_n 2, 1) := by decide +kernel
theorem dX0_setSpring_9 : decode cX0_setSpring 9 = .ok (.iconst 1, 1) := by decide +kernel
theorem dX0_setSpring_10 : decode cX0_setSpring 10 = .ok (.if_icmp .lt 19, 3) := by decide +kernel
theorem dX0_setSpring_13 : decode cX0_setSpring 13 = .ok (.iload_n 2, 1) := by decide +kernel
theorem dX0_setSpring_14 : decode cX0_setSpring 14 = .ok (.bipush 9, 2) := by decide +kernel
theorem dX0_setSpring_16 : decode cX0_setSpring 16 = .ok (.if_icmp .gt 13, 3) := by decide +kernel
theorem dX0_setSpring_19 : decode cX0_setSpring 19 = .ok (.iload_n 3, 1) := by decide +kernel
theorem dX0_setSpring_20 : decode cX0_setSpring 20 = .ok (.ifCond .lt 9, 3) := by decide +kernel
theorem dX0_setSpring_23 : decode cX0_setSpring 23 = .ok (.iload_n 3, 1) := by decide +kernel
theorem dX0_setSpring_24 : decode cX0_setSpring 24 = .ok (.bipush 50, 2) := by decide +kernel
theorem dX0_setSpring_26 : decode cX0_setSpring 26 = .ok (.if_icmp .le 6, 3) := by decide +kernel
theorem dX0_setSpring_29 : decode cX0_setSpring 29 = .ok (.ldc 55, 2) := by decide +kernel
theorem dX0_setSpring_31 : decode cX0_setSpring 31 = .ok (.ireturn, 1) := by decide +kernel
theorem dX0_setSpring_32 : decode cX0_setSpring 32 = .ok (.bipush 100, 2) := by decide +kernel
theorem dX0_setSpring_34 : decode cX0_setSpring 34 = .ok (.aload_n 0, 1) := by decide +kernel
theorem dX0_setSpring_35 : decode cX0_setSpring 35 = .ok (.getfield 18, 3) := by decide +kernel
theorem dX0_setSpring_38 : decode cX0_setSpring 38 = .ok (.iload_n 1, 1) := by decide +kernel
theorem dX0_setSpring_39 : decode cX0_setSpring 39 = .ok (.iaload, 1) := by decide +kernel
theorem dX0_setSpring_40 : decode cX0_setSpring 40 = .ok (.imul, 1) := by decide +kernel
theorem dX0_setSpring_41 : decode cX0_setSpring 41 = .ok (.aload_n 0, 1) := by decide +kernel
theorem dX0_setSpring_42 : decode cX0_setSpring 42 = .ok (.getfield 22, 3) := by decide +kernel
theorem dX0_setSpring_45 : decode cX0_setSpring 45 = .ok (.iload_n 1, 1) := by decide +kernel
theorem dX0_setSpring_46 : decode cX0_setSpring 46 = .ok (.iaload, 1) := by decide +kernel
theorem dX0_setSpring_47 : decode cX0_setSpring 47 = .ok (.iadd, 1) := by decide +kernel
theorem dX0_setSpring_48 : decode cX0_setSpring 48 = .ok (.istore 4, 2) := by decide +kernel
theorem dX0_setSpring_50 : decode cX0_setSpring 50 = .ok (.aload_n 0, 1) := by decide +kernel
theorem dX0_setSpring_51 : decode cX0_setSpring 51 = .ok (.getfield 18, 3) := by decide +kernel
theorem dX0_setSpring_54 : decode cX0_setSpring 54 = .ok (.iload_n 1, 1) := by decide +kernel
theorem dX0_setSpring_55 : decode cX0_setSpring 55 = .ok (.iload_n 2, 1) := by decide +kernel
theorem dX0_setSpring_56 : decode cX0_setSpring 56 = .ok (.iastore, 1) := by decide +kernel
theorem dX0_setSpring_57 : decode cX0_setSpring 57 = .ok (.aload_n 0, 1) := by decide +kernel
theorem dX0_setSpring_58 : decode cX0_setSpring 58 = .ok (.getfield 22, 3) := by decide +kernel
theorem dX0_setSpring_61 : decode cX0_setSpring 61 = .ok (.iload_n 1, 1) := by decide +kernel
theorem dX0_setSpring_62 : decode cX0_setSpring 62 = .ok (.iload_n 3, 1) := by decide +kernel
theorem dX0_setSpring_63 : decode cX0_setSpring 63 = .ok (.iastore, 1) := by decide +kernel
theorem dX0_setSpring_64 : decode cX0_setSpring 64 = .ok (.iload 4, 2) := by decide +kernel
theorem dX0_setSpring_66 : decode cX0_setSpring 66 = .ok (.ireturn, 1) := by decide +kernel
set_option maxRecDepth 20000 in
theorem ggX0_setLoad_X0_hasPlate : GoodIn wsX0_setLoad wsX0_hasPlate := goodIn_r _ [7, 8, 9, 10, 11, 12, 13, 14] (by decide +kernel) (by decide +kernel)
set_option maxRecDepth 20000 in
theorem gX0_setLoad_X0_hasPlate : GoodIn wsX0_setLoad (wsV RX0 62 RX0 yX0_hasPlate wsX0_hasPlate) := goodIn_app (goodIn_of _ (by decide +kernel)) ggX0_setLoad_X0_hasPlate
theorem dX0_setLoad_0 : decode cX0_setLoad 0 = .ok (.aload_n 0, 1) := by decide +kernel
theorem dX0_setLoad_1 : decode cX0_setLoad 1 = .ok (.iload_n 1, 1) := by decide +kernel
theorem dX0_setLoad_2 : decode cX0_setLoad 2 = .ok (.invokevirtual 62, 3) := by decide +kernel
theorem dX0_setLoad_5 : decode cX0_setLoad 5 = .ok (.ifCond .eq 15, 3) := by decide +kernel
theorem dX0_setLoad_8 : decode cX0_setLoad 8 = .ok (.iload_n 2, 1) := by decide +kernel
theorem dX0_setLoad_9 : decode cX0_setLoad 9 = .ok (.bipush (-99), 2) := by decide +kernel
theorem dX0_setLoad_11 : decode cX0_setLoad 11 = .ok (.if_icmp .lt 9, 3) := by decide +kernel
theorem dX0_setLoad_14 : decode cX0_setLoad 14 = .ok (.iload_n 2, 1) := by decide +kernel
theorem dX0_setLoad_15 : decode cX0_setLoad 15 = .ok (.bipush 99, 2) := by decide +kernel
theorem dX0_setLoad_17 : decode cX0_setLoad 17 = .ok (.if_icmp .le 6, 3) := by decide +kernel
theorem dX0_setLoad_20 : decode cX0_setLoad 20 = .ok (.ldc 55, 2) := by decide +kernel
theorem dX0_setLoad_22 : decode cX0_setLoad 22 = .ok (.ireturn, 1) := by decide +kernel
theorem dX0_setLoad_23 : decode cX0_setLoad 23 = .ok (.aload_n 0, 1) := by decide +kernel
theorem dX0_setLoad_24 : decode cX0_setLoad 24 = .ok (.getfield 25, 3) := by decide +kernel
theorem dX0_setLoad_27 : decode cX0_setLoad 27 = .ok (.iload_n 1, 1) := by decide +kernel
theorem dX0_setLoad_28 : decode cX0_setLoad 28 = .ok (.iaload, 1) := by decide +kernel
theorem dX0_setLoad_29 : decode cX0_setLoad 29 = .ok (.istore_n 3, 1) := by decide +kernel
theorem dX0_setLoad_30 : decode cX0_setLoad 30 = .ok (.aload_n 0, 1) := by decide +kernel
theorem dX0_setLoad_31 : decode cX0_setLoad 31 = .ok (.getfield 25, 3) := by decide +kernel
theorem dX0_setLoad_34 : decode cX0_setLoad 34 = .ok (.iload_n 1, 1) := by decide +kernel
theorem dX0_setLoad_35 : decode cX0_setLoad 35 = .ok (.iload_n 2, 1) := by decide +kernel
theorem dX0_setLoad_36 : decode cX0_setLoad 36 = .ok (.iastore, 1) := by decide +kernel
theorem dX0_setLoad_37 : decode cX0_setLoad 37 = .ok (.iload_n 3, 1) := by decide +kernel
theorem dX0_setLoad_38 : decode cX0_setLoad 38 = .ok (.sipush 1000, 3) := by decide +kernel
theorem dX0_setLoad_41 : decode cX0_setLoad 41 = .ok (.iadd, 1) := by decide +kernel
theorem dX0_setLoad_42 : decode cX0_setLoad 42 = .ok (.ireturn, 1) := by decide +kernel
set_option maxRecDepth 20000 in
theorem ggX0_setStop_X0_hasPlate : GoodIn wsX0_setStop wsX0_hasPlate := goodIn_r _ [9, 10, 34, 35, 36, 37, 38, 39] (by decide +kernel) (by decide +kernel)
set_option maxRecDepth 20000 in
theorem gX0_setStop_X0_hasPlate : GoodIn wsX0_setStop (wsV RX0 62 RX0 yX0_hasPlate wsX0_hasPlate) := goodIn_app (goodIn_of _ (by decide +kernel)) ggX0_setStop_X0_hasPlate
set_option maxRecDepth 20000 in
theorem ggX0_setStop_X3_isSide : GoodIn wsX0_setStop wsX3_isSide := goodIn_r _ [13] (by decide +kernel) (by decide +kernel)
set_option maxRecDepth 20000 in
theorem gX0_setStop_X3_isSide_n68 : GoodIn wsX0_setStop (wsX3_isSide) := ggX0_setStop_X3_isSide
set_option maxRecDepth 20000 in
theorem ggX0_setStop_X0_stopOf : GoodIn wsX0_setStop wsX0_stopOf := goodIn_r _ [17, 3, 34, 35, 36, 37, 38, 39] (by decide +kernel) (by decide +kernel)
set_option maxRecDepth 20000 in
theorem gX0_setStop_X0_stopOf : GoodIn wsX0_setStop (wsV RX0 39 RX0 yX0_stopOf wsX0_stopOf) := goodIn_app (goodIn_of _ (by decide +kernel)) ggX0_setStop_X0_stopOf
set_option maxRecDepth 20000 in
theorem ggX0_setStop_X0_allowsRow : GoodIn wsX0_setStop wsX0_allowsRow := goodIn_r _ [21, 10, 22, 23, 24, 25, 26, 27, 28, 8, 29, 14, 15, 16, 17, 3, 30, 31, 32, 33, 1, 34, 35, 36, 37, 38, 39] (by decide +kernel) (by decide +kernel)
set_option maxRecDepth 20000 in
theorem gX0_setStop_X0_allowsRow : GoodIn wsX0_setStop (wsV RX0 71 RX0 yX0_allowsRow wsX0_allowsRow) := goodIn_app (goodIn_of _ (by decide +kernel)) ggX0_setStop_X0_allowsRow
theorem dX0_setStop_0 : decode cX0_setStop 0 = .ok (.aload_n 0, 1) := by decide +kernel
theorem dX0_setStop_1 : decode cX0_setStop 1 = .ok (.iload_n 1, 1) := by decide +kernel
theorem dX0_setStop_2 : decode cX0_setStop 2 = .ok (.invokevirtual 62, 3) := by decide +kernel
theorem dX0_setStop_5 : decode cX0_setStop 5 = .ok (.ifCond .eq 22, 3) := by decide +kernel
theorem dX0_setStop_8 : decode cX0_setStop 8 = .ok (.iload_n 2, 1) := by decide +kernel
theorem dX0_setStop_9 : decode cX0_setStop 9 = .ok (.invokestatic 68, 3) := by decide +kernel
theorem dX0_setStop_12 : decode cX0_setStop 12 = .ok (.ifCond .eq 15, 3) := by decide +kernel
theorem dX0_setStop_15 : decode cX0_setStop 15 = .ok (.iload_n 3, 1) := by decide +kernel
theorem dX0_setStop_16 : decode cX0_setStop 16 = .ok (.ifCond .lt 11, 3) := by decide +kernel
theorem dX0_setStop_19 : decode cX0_setStop 19 = .ok (.iload_n 3, 1) := by decide +kernel
theorem dX0_setStop_20 : decode cX0_setStop 20 = .ok (.aload_n 0, 1) := by decide +kernel
theorem dX0_setStop_21 : decode cX0_setStop 21 = .ok (.getfield 9, 3) := by decide +kernel
theorem dX0_setStop_24 : decode cX0_setStop 24 = .ok (.if_icmp .le 6, 3) := by decide +kernel
theorem dX0_setStop_27 : decode cX0_setStop 27 = .ok (.ldc 55, 2) := by decide +kernel
theorem dX0_setStop_29 : decode cX0_setStop 29 = .ok (.ireturn, 1) := by decide +kernel
theorem dX0_setStop_30 : decode cX0_setStop 30 = .ok (.aload_n 0, 1) := by decide +kernel
theorem dX0_setStop_31 : decode cX0_setStop 31 = .ok (.iload_n 1, 1) := by decide +kernel
theorem dX0_setStop_32 : decode cX0_setStop 32 = .ok (.iload_n 2, 1) := by decide +kernel
theorem dX0_setStop_33 : decode cX0_setStop 33 = .ok (.invokevirtual 39, 3) := by decide +kernel
theorem dX0_setStop_36 : decode cX0_setStop 36 = .ok (.istore 4, 2) := by decide +kernel
theorem dX0_setStop_38 : decode cX0_setStop 38 = .ok (.aload_n 0, 1) := by decide +kernel
theorem dX0_setStop_39 : decode cX0_setStop 39 = .ok (.getfield 28, 3) := by decide +kernel
theorem dX0_setStop_42 : decode cX0_setStop 42 = .ok (.iconst 2, 1) := by decide +kernel
theorem dX0_setStop_43 : decode cX0_setStop 43 = .ok (.iload_n 1, 1) := by decide +kernel
theorem dX0_setStop_44 : decode cX0_setStop 44 = .ok (.imul, 1) := by decide +kernel
theorem dX0_setStop_45 : decode cX0_setStop 45 = .ok (.iload_n 2, 1) := by decide +kernel
theorem dX0_setStop_46 : decode cX0_setStop 46 = .ok (.iadd, 1) := by decide +kernel
theorem dX0_setStop_47 : decode cX0_setStop 47 = .ok (.iload_n 3, 1) := by decide +kernel
theorem dX0_setStop_48 : decode cX0_setStop 48 = .ok (.iastore, 1) := by decide +kernel
theorem dX0_setStop_49 : decode cX0_setStop 49 = .ok (.aload_n 0, 1) := by decide +kernel
theorem dX0_setStop_50 : decode cX0_setStop 50 = .ok (.invokevirtual 71, 3) := by decide +kernel
theorem dX0_setStop_53 : decode cX0_setStop 53 = .ok (.ifCond .ne 18, 3) := by decide +kernel
theorem dX0_setStop_56 : decode cX0_setStop 56 = .ok (.aload_n 0, 1) := by decide +kernel
theorem dX0_setStop_57 : decode cX0_setStop 57 = .ok (.getfield 28, 3) := by decide +kernel
theorem dX0_setStop_60 : decode cX0_setStop 60 = .ok (.iconst 2, 1) := by decide +kernel
theorem dX0_setStop_61 : decode cX0_setStop 61 = .ok (.iload_n 1, 1) := by decide +kernel
theorem dX0_setStop_62 : decode cX0_setStop 62 = .ok (.imul, 1) := by decide +kernel
theorem dX0_setStop_63 : decode cX0_setStop 63 = .ok (.iload_n 2, 1) := by decide +kernel
theorem dX0_setStop_64 : decode cX0_setStop 64 = .ok (.iadd, 1) := by decide +kernel
theorem dX0_setStop_65 : decode cX0_setStop 65 = .ok (.iload 4, 2) := by decide +kernel
theorem dX0_setStop_67 : decode cX0_setStop 67 = .ok (.iastore, 1) := by decide +kernel
theorem dX0_setStop_68 : decode cX0_setStop 68 = .ok (.ldc 60, 2) := by decide +kernel
theorem dX0_setStop_70 : decode cX0_setStop 70 = .ok (.ireturn, 1) := by decide +kernel
theorem dX0_setStop_71 : decode cX0_setStop 71 = .ok (.iload 4, 2) := by decide +kernel
theorem dX0_setStop_73 : decode cX0_setStop 73 = .ok (.ireturn, 1) := by decide +kernel
set_option maxRecDepth 20000 in
theorem ggX0_removeStop_X0_hasPlate : GoodIn wsX0_removeStop wsX0_hasPlate := goodIn_r _ [8, 9, 17, 18, 19, 20, 21, 22] (by decide +kernel) (by decide +kernel)
set_option maxRecDepth 20000 in
theorem gX0_removeStop_X0_hasPlate : GoodIn wsX0_removeStop (wsV RX0 62 RX0 yX0_hasPlate wsX0_hasPlate) := goodIn_app (goodIn_of _ (by decide +kernel)) ggX0_removeStop_X0_hasPlate
set_option maxRecDepth 20000 in
theorem ggX0_removeStop_X3_isSide : GoodIn wsX0_removeStop wsX3_isSide := goodIn_r _ [12] (by decide +kernel) (by decide +kernel)
set_option maxRecDepth 20000 in
theorem gX0_removeStop_X3_isSide_n68 : GoodIn wsX0_removeStop (wsX3_isSide) := ggX0_removeStop_X3_isSide
set_option maxRecDepth 20000 in
theorem ggX0_removeStop_X0_stopOf : GoodIn wsX0_removeStop wsX0_stopOf := goodIn_r _ [16, 3, 17, 18, 19, 20, 21, 22] (by decide +kernel) (by decide +kernel)
set_option maxRecDepth 20000 in
theorem gX0_removeStop_X0_stopOf : GoodIn wsX0_removeStop (wsV RX0 39 RX0 yX0_stopOf wsX0_stopOf) := goodIn_app (goodIn_of _ (by decide +kernel)) ggX0_removeStop_X0_stopOf
theorem dX0_removeStop_0 : decode cX0_removeStop 0 = .ok (.aload_n 0, 1) := by decide +kernel
theorem dX0_removeStop_1 : decode cX0_removeStop 1 = .ok (.iload_n 1, 1) := by decide +kernel
theorem dX0_removeStop_2 : decode cX0_removeStop 2 = .ok (.invokevirtual 62, 3) := by decide +kernel
theorem dX0_removeStop_5 : decode cX0_removeStop 5 = .ok (.ifCond .eq 10, 3) := by decide +kernel
theorem dX0_removeStop_8 : decode cX0_removeStop 8 = .ok (.iload_n 2, 1) := by decide +kernel
theorem dX0_removeStop_9 : decode cX0_removeStop 9 = .ok (.invokestatic 68, 3) := by decide +kernel
theorem dX0_removeStop_12 : decode cX0_removeStop 12 = .ok (.ifCond .ne 6, 3) := by decide +kernel
theorem dX0_removeStop_15 : decode cX0_removeStop 15 = .ok (.ldc 55, 2) := by decide +kernel
theorem dX0_removeStop_17 : decode cX0_removeStop 17 = .ok (.ireturn, 1) := by decide +kernel
theorem dX0_removeStop_18 : decode cX0_removeStop 18 = .ok (.aload_n 0, 1) := by decide +kernel
theorem dX0_removeStop_19 : decode cX0_removeStop 19 = .ok (.iload_n 1, 1) := by decide +kernel
theorem dX0_removeStop_20 : decode cX0_removeStop 20 = .ok (.iload_n 2, 1) := by decide +kernel
theorem dX0_removeStop_21 : decode cX0_removeStop 21 = .ok (.invokevirtual 39, 3) := by decide +kernel
theorem dX0_removeStop_24 : decode cX0_removeStop 24 = .ok (.istore_n 3, 1) := by decide +kernel
theorem dX0_removeStop_25 : decode cX0_removeStop 25 = .ok (.iload_n 3, 1) := by decide +kernel
theorem dX0_removeStop_26 : decode cX0_removeStop 26 = .ok (.iconst (-1), 1) := by decide +kernel
theorem dX0_removeStop_27 : decode cX0_removeStop 27 = .ok (.if_icmp .ne 6, 3) := by decide +kernel
theorem dX0_removeStop_30 : decode cX0_removeStop 30 = .ok (.ldc 60, 2) := by decide +kernel
theorem dX0_removeStop_32 : decode cX0_removeStop 32 = .ok (.ireturn, 1) := by decide +kernel
theorem dX0_removeStop_33 : decode cX0_removeStop 33 = .ok (.aload_n 0, 1) := by decide +kernel
theorem dX0_removeStop_34 : decode cX0_removeStop 34 = .ok (.getfield 28, 3) := by decide +kernel
theorem dX0_removeStop_37 : decode cX0_removeStop 37 = .ok (.iconst 2, 1) := by decide +kernel
theorem dX0_removeStop_38 : decode cX0_removeStop 38 = .ok (.iload_n 1, 1) := by decide +kernel
theorem dX0_removeStop_39 : decode cX0_removeStop 39 = .ok (.imul, 1) := by decide +kernel
theorem dX0_removeStop_40 : decode cX0_removeStop 40 = .ok (.iload_n 2, 1) := by decide +kernel
theorem dX0_removeStop_41 : decode cX0_removeStop 41 = .ok (.iadd, 1) := by decide +kernel
theorem dX0_removeStop_42 : decode cX0_removeStop 42 = .ok (.iconst (-1), 1) := by decide +kernel
theorem dX0_removeStop_43 : decode cX0_removeStop 43 = .ok (.iastore, 1) := by decide +kernel
theorem dX0_removeStop_44 : decode cX0_removeStop 44 = .ok (.iload_n 3, 1) := by decide +kernel
theorem dX0_removeStop_45 : decode cX0_removeStop 45 = .ok (.ireturn, 1) := by decide +kernel
