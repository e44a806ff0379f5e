theorem dX4_init_0 : decode cX4_init 0 = .ok (.aload_n 0, 1) := by decide +kernel
theorem dX4_init_1 : decode cX4_init 1 = .ok (.invokespecial 1, 3) := by decide +kernel
theorem dX4_init_4 : decode cX4_init 4 = .ok (.aload_n 0, 1) := by decide +kernel
theorem dX4_init_5 : decode cX4_init 5 = .ok (.bipush 24, 2) := by decide +kernel
theorem dX4_init_7 : decode cX4_init 7 = .ok (.newarray .int, 2) := by decide +kernel
theorem dX4_init_9 : decode cX4_init 9 = .ok (.putfield 7, 3) := by decide +kernel
theorem dX4_init_12 : decode cX4_init 12 = .ok (.aload_n 0, 1) := by decide +kernel
theorem dX4_init_13 : decode cX4_init 13 = .ok (.bipush 96, 2) := by decide +kernel
theorem dX4_init_15 : decode cX4_init 15 = .ok (.newarray .int, 2) := by decide +kernel
theorem dX4_init_17 : decode cX4_init 17 = .ok (.putfield 13, 3) := by decide +kernel
theorem dX4_init_20 : decode cX4_init 20 = .ok (.aload_n 0, 1) := by decide +kernel
theorem dX4_init_21 : decode cX4_init 21 = .ok (.bipush 24, 2) := by decide +kernel
theorem dX4_init_23 : decode cX4_init 23 = .ok (.newarray .int, 2) := by decide +kernel
theorem dX4_init_25 : decode cX4_init 25 = .ok (.putfield 16, 3) := by decide +kernel
theorem dX4_init_28 : decode cX4_init 28 = .ok (.aload_n 0, 1) := by decide +kernel
theorem dX4_init_29 : decode cX4_init 29 = .ok (.bipush 60, 2) := by decide +kernel
theorem dX4_init_31 : decode cX4_init 31 = .ok (.newarray .int, 2) := by decide +kernel
theorem dX4_init_33 : decode cX4_init 33 = .ok (.putfield 19, 3) := by decide +kernel
theorem dX4_init_36 : decode cX4_init 36 = .ok (.aload_n 0, 1) := by decide +kernel
theorem dX4_init_37 : decode cX4_init 37 = .ok (.iconst 4, 1) := by decide +kernel
theorem dX4_init_38 : decode cX4_init 38 = .ok (.newarray .long, 2) := by decide +kernel
theorem dX4_init_40 : decode cX4_init 40 = .ok (.putfield 22, 3) := by decide +kernel
theorem dX4_init_43 : decode cX4_init 43 = .ok (.aload_n 0, 1) := by decide +kernel
theorem dX4_init_44 : decode cX4_init 44 = .ok (.iconst 5, 1) := by decide +kernel
theorem dX4_init_45 : decode cX4_init 45 = .ok (.newarray .int, 2) := by decide +kernel
theorem dX4_init_47 : decode cX4_init 47 = .ok (.putfield 26, 3) := by decide +kernel
theorem dX4_init_50 : decode cX4_init 50 = .ok (.aload_n 0, 1) := by decide +kernel
theorem dX4_init_51 : decode cX4_init 51 = .ok (.bipush 20, 2) := by decide +kernel
theorem dX4_init_53 : decode cX4_init 53 = .ok (.newarray .long, 2) := by decide +kernel
theorem dX4_init_55 : decode cX4_init 55 = .ok (.putfield 29, 3) := by decide +kernel
theorem dX4_init_58 : decode cX4_init 58 = .ok (.aload_n 0, 1) := by decide +kernel
theorem dX4_init_59 : decode cX4_init 59 = .ok (.iconst 4, 1) := by decide +kernel
theorem dX4_init_60 : decode cX4_init 60 = .ok (.newarray .long, 2) := by decide +kernel
theorem dX4_init_62 : decode cX4_init 62 = .ok (.putfield 32, 3) := by decide +kernel
theorem dX4_init_65 : decode cX4_init 65 = .ok (.aload_n 0, 1) := by decide +kernel
theorem dX4_init_66 : decode cX4_init 66 = .ok (.iconst 3, 1) := by decide +kernel
theorem dX4_init_67 : decode cX4_init 67 = .ok (.newarray .int, 2) := by decide +kernel
theorem dX4_init_69 : decode cX4_init 69 = .ok (.putfield 35, 3) := by decide +kernel
theorem dX4_init_72 : decode cX4_init 72 = .ok (.aload_n 0, 1) := by decide +kernel
theorem dX4_init_73 : decode cX4_init 73 = .ok (.getfield 7, 3) := by decide +kernel
theorem dX4_init_76 : decode cX4_init 76 = .ok (.iconst 0, 1) := by decide +kernel
theorem dX4_init_77 : decode cX4_init 77 = .ok (.bipush 60, 2) := by decide +kernel
theorem dX4_init_79 : decode cX4_init 79 = .ok (.iastore, 1) := by decide +kernel
theorem dX4_init_80 : decode cX4_init 80 = .ok (.aload_n 0, 1) := by decide +kernel
theorem dX4_init_81 : decode cX4_init 81 = .ok (.getfield 7, 3) := by decide +kernel
theorem dX4_init_84 : decode cX4_init 84 = .ok (.iconst 2, 1) := by decide +kernel
theorem dX4_init_85 : decode cX4_init 85 = .ok (.iconst 1, 1) := by decide +kernel
theorem dX4_init_86 : decode cX4_init 86 = .ok (.iastore, 1) := by decide +kernel
theorem dX4_init_87 : decode cX4_init 87 = .ok (.aload_n 0, 1) := by decide +kernel
theorem dX4_init_88 : decode cX4_init 88 = .ok (.getfield 7, 3) := by decide +kernel
theorem dX4_init_91 : decode cX4_init 91 = .ok (.bipush 7, 2) := by decide +kernel
theorem dX4_init_93 : decode cX4_init 93 = .ok (.bipush 10, 2) := by decide +kernel
theorem dX4_init_95 : decode cX4_init 95 = .ok (.iastore, 1) := by decide +kernel
theorem dX4_init_96 : decode cX4_init 96 = .ok (.return_, 1) := by decide +kernel
theorem dX4_in_0 : decode cX4_in 0 = .ok (.iload_n 0, 1) := by decide +kernel
theorem dX4_in_1 : decode cX4_in 1 = .ok (.iload_n 1, 1) := by decide +kernel
theorem dX4_in_2 : decode cX4_in 2 = .ok (.if_icmp .lt 12, 3) := by decide +kernel
theorem dX4_in_5 : decode cX4_in 5 = .ok (.iload_n 0, 1) := by decide +kernel
theorem dX4_in_6 : decode cX4_in 6 = .ok (.iload_n 2, 1) := by decide +kernel
theorem dX4_in_7 : decode cX4_in 7 = .ok (.if_icmp .gt 7, 3) := by decide +kernel
theorem dX4_in_10 : decode cX4_in 10 = .ok (.iconst 1, 1) := by decide +kernel
theorem dX4_in_11 : decode cX4_in 11 = .ok (.goto 4, 3) := by decide +kernel
theorem dX4_in_14 : decode cX4_in 14 = .ok (.iconst 0, 1) := by decide +kernel
theorem dX4_in_15 : decode cX4_in 15 = .ok (.ireturn, 1) := by decide +kernel
theorem dX4_copies_0 : decode cX4_copies 0 = .ok (.iconst 0, 1) := by decide +kernel
theorem dX4_copies_1 : decode cX4_copies 1 = .ok (.istore_n 2, 1) := by decide +kernel
theorem dX4_copies_2 : decode cX4_copies 2 = .ok (.iload_n 2, 1) := by decide +kernel
theorem dX4_copies_3 : decode cX4_copies 3 = .ok (.bipush 24, 2) := by decide +kernel
theorem dX4_copies_5 : decode cX4_copies 5 = .ok (.if_icmp .ge 15, 3) := by decide +kernel
theorem dX4_copies_8 : decode cX4_copies 8 = .ok (.aload_n 1, 1) := by decide +kernel
theorem dX4_copies_9 : decode cX4_copies 9 = .ok (.iload_n 2, 1) := by decide +kernel
theorem dX4_copies_10 : decode cX4_copies 10 = .ok (.aload_n 0, 1) := by decide +kernel
theorem dX4_copies_11 : decode cX4_copies 11 = .ok (.iload_n 2, 1) := by decide +kernel
theorem dX4_copies_12 : decode cX4_copies 12 = .ok (.iaload, 1) := by decide +kernel
theorem dX4_copies_13 : decode cX4_copies 13 = .ok (.iastore, 1) := by decide +kernel
theorem dX4_copies_14 : decode cX4_copies 14 = .ok (.iinc 2 1, 3) := by decide +kernel
theorem dX4_copies_17 : decode cX4_copies 17 = .ok (.goto (-15), 3) := by decide +kernel
theorem dX4_copies_20 : decode cX4_copies 20 = .ok (.return_, 1) := by decide +kernel
theorem dX4_changes_0 : decode cX4_changes 0 = .ok (.aload_n 0, 1) := by decide +kernel
theorem dX4_changes_1 : decode cX4_changes 1 = .ok (.getfield 38, 3) := by decide +kernel
theorem dX4_changes_4 : decode cX4_changes 4 = .ok (.ifCond .eq 4, 3) := by decide +kernel
theorem dX4_changes_7 : decode cX4_changes 7 = .ok (.return_, 1) := by decide +kernel
theorem dX4_changes_8 : decode cX4_changes 8 = .ok (.aload_n 0, 1) := by decide +kernel
theorem dX4_changes_9 : decode cX4_changes 9 = .ok (.getfield 42, 3) := by decide +kernel
theorem dX4_changes_12 : decode cX4_changes 12 = .ok (.iconst 4, 1) := by decide +kernel
theorem dX4_changes_13 : decode cX4_changes 13 = .ok (.if_icmp .ne 42, 3) := by decide +kernel
theorem dX4_changes_16 : decode cX4_changes 16 = .ok (.iconst 0, 1) := by decide +kernel
theorem dX4_changes_17 : decode cX4_changes 17 = .ok (.istore_n 1, 1) := by decide +kernel
theorem dX4_changes_18 : decode cX4_changes 18 = .ok (.iload_n 1, 1) := by decide +kernel
theorem dX4_changes_19 : decode cX4_changes 19 = .ok (.bipush 72, 2) := by decide +kernel
theorem dX4_changes_21 : decode cX4_changes 21 = .ok (.if_icmp .ge 24, 3) := by decide +kernel
theorem dX4_changes_24 : decode cX4_changes 24 = .ok (.aload_n 0, 1) := by decide +kernel
theorem dX4_changes_25 : decode cX4_changes 25 = .ok (.getfield 13, 3) := by decide +kernel
theorem dX4_changes_28 : decode cX4_changes 28 = .ok (.iload_n 1, 1) := by decide +kernel
theorem dX4_changes_29 : decode cX4_changes 29 = .ok (.aload_n 0, 1) := by decide +kernel
theorem dX4_changes_30 : decode cX4_changes 30 = .ok (.getfield 13, 3) := by decide +kernel
theorem dX4_changes_33 : decode cX4_changes 33 = .ok (.iload_n 1, 1) := by decide +kernel
theorem dX4_changes_34 : decode cX4_changes 34 = .ok (.bipush 24, 2) := by decide +kernel
theorem dX4_changes_36 : decode cX4_changes 36 = .ok (.iadd, 1) := by decide +kernel
theorem dX4_changes_37 : decode cX4_changes 37 = .ok (.iaload, 1) := by decide +kernel
theorem dX4_changes_38 : decode cX4_changes 38 = .ok (.iastore, 1) := by decide +kernel
theorem dX4_changes_39 : decode cX4_changes 39 = .ok (.iinc 1 1, 3) := by decide +kernel
theorem dX4_changes_42 : decode cX4_changes 42 = .ok (.goto (-24), 3) := by decide +kernel
theorem dX4_changes_45 : decode cX4_changes 45 = .ok (.aload_n 0, 1) := by decide +kernel
theorem dX4_changes_46 : decode cX4_changes 46 = .ok (.dup, 1) := by decide +kernel
theorem dX4_changes_47 : decode cX4_changes 47 = .ok (.getfield 42, 3) := by decide +kernel
theorem dX4_changes_50 : decode cX4_changes 50 = .ok (.iconst 1, 1) := by decide +kernel
theorem dX4_changes_51 : decode cX4_changes 51 = .ok (.isub, 1) := by decide +kernel
theorem dX4_changes_52 : decode cX4_changes 52 = .ok (.putfield 42, 3) := by decide +kernel
theorem dX4_changes_55 : decode cX4_changes 55 = .ok (.iconst 0, 1) := by decide +kernel
theorem dX4_changes_56 : decode cX4_changes 56 = .ok (.istore_n 1, 1) := by decide +kernel
theorem dX4_changes_57 : decode cX4_changes 57 = .ok (.iload_n 1, 1) := by decide +kernel
theorem dX4_changes_58 : decode cX4_changes 58 = .ok (.bipush 24, 2) := by decide +kernel
theorem dX4_changes_60 : decode cX4_changes 60 = .ok (.if_icmp .ge 29, 3) := by decide +kernel
theorem dX4_changes_63 : decode cX4_changes 63 = .ok (.aload_n 0, 1) := by decide +kernel
theorem dX4_changes_64 : decode cX4_changes 64 = .ok (.getfield 13, 3) := by decide +kernel
theorem dX4_changes_67 : decode cX4_changes 67 = .ok (.bipush 24, 2) := by decide +kernel
theorem dX4_changes_69 : decode cX4_changes 69 = .ok (.aload_n 0, 1) := by decide +kernel
theorem dX4_changes_70 : decode cX4_changes 70 = .ok (.getfield 42, 3) := by decide +kernel
theorem dX4_changes_73 : decode cX4_changes 73 = .ok (.imul, 1) := by decide +kernel
theorem dX4_changes_74 : decode cX4_changes 74 = .ok (.iload_n 1, 1) := by decide +kernel
theorem dX4_changes_75 : decode cX4_changes 75 = .ok (.iadd, 1) := by decide +kernel
theorem dX4_changes_76 : decode cX4_changes 76 = .ok (.aload_n 0, 1) := by decide +kernel
theorem dX4_changes_77 : decode cX4_changes 77 = .ok (.getfield 7, 3) := by decide +kernel
theorem dX4_changes_80 : decode cX4_changes 80 = .ok (.iload_n 1, 1) := by decide +kernel
theorem dX4_changes_81 : decode cX4_changes 81 = .ok (.iaload, 1) := by decide +kernel
theorem dX4_changes_82 : decode cX4_changes 82 = .ok (.iastore, 1) := by decide +kernel
theorem dX4_changes_83 : decode cX4_changes 83 = .ok (.iinc 1 1, 3) := by decide +kernel
theorem dX4_changes_86 : decode cX4_changes 86 = .ok (.goto (-29), 3) := by decide +kernel
theorem dX4_changes_89 : decode cX4_changes 89 = .ok (.aload_n 0, 1) := by decide +kernel
theorem dX4_changes_90 : decode cX4_changes 90 = .ok (.dup, 1) := by decide +kernel
theorem dX4_changes_91 : decode cX4_changes 91 = .ok (.getfield 42, 3) := by decide +kernel
theorem dX4_changes_94 : decode cX4_changes 94 = .ok (.iconst 1, 1) := by decide +kernel
theorem dX4_changes_95 : decode cX4_changes 95 = .ok (.iadd, 1) := by decide +kernel
theorem dX4_changes_96 : decode cX4_changes 96 = .ok (.putfield 42, 3) := by decide +kernel
theorem dX4_changes_99 : decode cX4_changes 99 = .ok (.return_, 1) := by decide +kernel
theorem dX4_isPlate_0 : decode cX4_isPlate 0 = .ok (.iload_n 1, 1) := by decide +kernel
theorem dX4_isPlate_1 : decode cX4_isPlate 1 = .ok (.ifCond .lt 17, 3) := by decide +kernel
theorem dX4_isPlate_4 : decode cX4_isPlate 4 = .ok (.iload_n 1, 1) := by decide +kernel
theorem dX4_isPlate_5 : decode cX4_isPlate 5 = .ok (.aload_n 0, 1) := by decide +kernel
theorem dX4_isPlate_6 : decode cX4_isPlate 6 = .ok (.getfield 7, 3) := by decide +kernel
theorem dX4_isPlate_9 : decode cX4_isPlate 9 = .ok (.iconst 1, 1) := by decide +kernel
theorem dX4_isPlate_10 : decode cX4_isPlate 10 = .ok (.iaload, 1) := by decide +kernel
theorem dX4_isPlate_11 : decode cX4_isPlate 11 = .ok (.if_icmp .ge 7, 3) := by decide +kernel
theorem dX4_isPlate_14 : decode cX4_isPlate 14 = .ok (.iconst 1, 1) := by decide +kernel
theorem dX4_isPlate_15 : decode cX4_isPlate 15 = .ok (.goto 4, 3) := by decide +kernel
theorem dX4_isPlate_18 : decode cX4_isPlate 18 = .ok (.iconst 0, 1) := by decide +kernel
theorem dX4_isPlate_19 : decode cX4_isPlate 19 = .ok (.ireturn, 1) := by decide +kernel
theorem dX4_isSpring_0 : decode cX4_isSpring 0 = .ok (.iload_n 1, 1) := by decide +kernel
theorem dX4_isSpring_1 : decode cX4_isSpring 1 = .ok (.ifCond .lt 17, 3) := by decide +kernel
theorem dX4_isSpring_4 : decode cX4_isSpring 4 = .ok (.iload_n 1, 1) := by decide +kernel
theorem dX4_isSpring_5 : decode cX4_isSpring 5 = .ok (.aload_n 0, 1) := by decide +kernel
theorem dX4_isSpring_6 : decode cX4_isSpring 6 = .ok (.getfield 7, 3) := by decide +kernel
theorem dX4_isSpring_9 : decode cX4_isSpring 9 = .ok (.iconst 1, 1) := by decide +kernel
theorem dX4_isSpring_10 : decode cX4_isSpring 10 = .ok (.iaload, 1) := by decide +kernel
theorem dX4_isSpring_11 : decode cX4_isSpring 11 = .ok (.if_icmp .gt 7, 3) := by decide +kernel
theorem dX4_isSpring_14 : decode cX4_isSpring 14 = .ok (.iconst 1, 1) := by decide +kernel
theorem dX4_isSpring_15 : decode cX4_isSpring 15 = .ok (.goto 4, 3) := by decide +kernel
theorem dX4_isSpring_18 : decode cX4_isSpring 18 = .ok (.iconst 0, 1) := by decide +kernel
theorem dX4_isSpring_19 : decode cX4_isSpring 19 = .ok (.ireturn, 1) := by decide +kernel
theorem dX4_low_0 : decode cX4_low 0 = .ok (.aload_n 0, 1) := by decide +kernel
theorem dX4_low_1 : decode cX4_low 1 = .ok (.getfield 7, 3) := by decide +kernel
theorem dX4_low_4 : decode cX4_low 4 = .ok (.bipush 16, 2) := by decide +kernel
theorem dX4_low_6 : decode cX4_low 6 = .ok (.iload_n 1, 1) := by decide +kernel
theorem dX4_low_7 : decode cX4_low 7 = .ok (.iadd, 1) := by decide +kernel
theorem dX4_low_8 : decode cX4_low 8 = .ok (.iaload, 1) := by decide +kernel
theorem dX4_low_9 : decode cX4_low 9 = .ok (.ifCond .ge 7, 3) := by decide +kernel
theorem dX4_low_12 : decode cX4_low 12 = .ok (.iconst 0, 1) := by decide +kernel
theorem dX4_low_13 : decode cX4_low 13 = .ok (.goto 12, 3) := by decide +kernel
theorem dX4_low_16 : decode cX4_low 16 = .ok (.aload_n 0, 1) := by decide +kernel
theorem dX4_low_17 : decode cX4_low 17 = .ok (.getfield 7, 3) := by decide +kernel
theorem dX4_low_20 : decode cX4_low 20 = .ok (.bipush 16, 2) := by decide +kernel
theorem dX4_low_22 : decode cX4_low 22 = .ok (.iload_n 1, 1) := by decide +kernel
theorem dX4_low_23 : decode cX4_low 23 = .ok (.iadd, 1) := by decide +kernel
theorem dX4_low_24 : decode cX4_low 24 = .ok (.iaload, 1) := by decide +kernel
theorem dX4_low_25 : decode cX4_low 25 = .ok (.ireturn, 1) := by decide +kernel
theorem dX4_high_0 : decode cX4_high 0 = .ok (.aload_n 0, 1) := by decide +kernel
theorem dX4_high_1 : decode cX4_high 1 = .ok (.getfield 7, 3) := by decide +kernel
theorem dX4_high_4 : decode cX4_high 4 = .ok (.bipush 20, 2) := by decide +kernel
theorem dX4_high_6 : decode cX4_high 6 = .ok (.iload_n 1, 1) := by decide +kernel
theorem dX4_high_7 : decode cX4_high 7 = .ok (.iadd, 1) := by decide +kernel
theorem dX4_high_8 : decode cX4_high 8 = .ok (.iaload, 1) := by decide +kernel
theorem dX4_high_9 : decode cX4_high 9 = .ok (.ifCond .ge 12, 3) := by decide +kernel
theorem dX4_high_12 : decode cX4_high 12 = .ok (.aload_n 0, 1) := by decide +kernel
theorem dX4_high_13 : decode cX4_high 13 = .ok (.getfield 7, 3) := by decide +kernel
theorem dX4_high_16 : decode cX4_high 16 = .ok (.iconst 0, 1) := by decide +kernel
theorem dX4_high_17 : decode cX4_high 17 = .ok (.iaload, 1) := by decide +kernel
theorem dX4_high_18 : decode cX4_high 18 = .ok (.goto 12, 3) := by decide +kernel
theorem dX4_high_21 : decode cX4_high 21 = .ok (.aload_n 0, 1) := by decide +kernel
theorem dX4_high_22 : decode cX4_high 22 = .ok (.getfield 7, 3) := by decide +kernel
theorem dX4_high_25 : decode cX4_high 25 = .ok (.bipush 20, 2) := by decide +kernel
theorem dX4_high_27 : decode cX4_high 27 = .ok (.iload_n 1, 1) := by decide +kernel
theorem dX4_high_28 : decode cX4_high 28 = .ok (.iadd, 1) := by decide +kernel
theorem dX4_high_29 : decode cX4_high 29 = .ok (.iaload, 1) := by decide +kernel
theorem dX4_high_30 : decode cX4_high 30 = .ok (.ireturn, 1) := by decide +kernel
set_option maxRecDepth 20000 in
theorem ggX4_isAllowed_X4_low : GoodIn wsX4_isAllowed wsX4_low := goodIn_r _ [6, 1, 11, 12, 13, 14, 15, 16, 17, 18, 19, 20, 21, 22, 23, 24, 25, 26, 27, 28, 29, 30, 31] (by decide +kernel) (by decide +kernel)
set_option maxRecDepth 20000 in
theorem gX4_isAllowed_X4_low : GoodIn wsX4_isAllowed (wsV RX4 46 RX4 yX4_low wsX4_low) := goodIn_app (goodIn_of _ (by decide +kernel)) ggX4_isAllowed_X4_low
set_option maxRecDepth 20000 in
theorem ggX4_isAllowed_X4_high : GoodIn wsX4_isAllowed wsX4_high := goodIn_r _ [10, 1, 11, 12, 13, 14, 15, 16, 17, 18, 19, 20, 21, 22, 23, 24, 25, 26, 27, 28, 29, 30, 31] (by decide +kernel) (by decide +kernel)
set_option maxRecDepth 20000 in
theorem gX4_isAllowed_X4_high : GoodIn wsX4_isAllowed (wsV RX4 50 RX4 yX4_high wsX4_high) := goodIn_app (goodIn_of _ (by decide +kernel)) ggX4_isAllowed_X4_high
theorem dX4_isAllowed_0 : decode cX4_isAllowed 0 = .ok (.iconst 1, 1) := by decide +kernel
theorem dX4_isAllowed_1 : decode cX4_isAllowed 1 = .ok (.istore_n 1, 1) := by decide +kernel
theorem dX4_isAllowed_2 : decode cX4_isAllowed 2 = .ok (.iconst 0, 1) := by decide +kernel
theorem dX4_isAllowed_3 : decode cX4_isAllowed 3 = .ok (.istore_n 2, 1) := by decide +kernel
theorem dX4_isAllowed_4 : decode cX4_isAllowed 4 = .ok (.iconst 0, 1) := by decide +kernel
theorem dX4_isAllowed_5 : decode cX4_isAllowed 5 = .ok (.istore_n 3, 1) := by decide +kernel
theorem dX4_isAllowed_6 : decode cX4_isAllowed 6 = .ok (.iload_n 3, 1) := by decide +kernel
theorem dX4_isAllowed_7 : decode cX4_isAllowed 7 = .ok (.aload_n 0, 1) := by decide +kernel
theorem dX4_isAllowed_8 : decode cX4_isAllowed 8 = .ok (.getfield 7, 3) := by decide +kernel
theorem dX4_isAllowed_11 : decode cX4_isAllowed 11 = .ok (.iconst 1, 1) := by decide +kernel
theorem dX4_isAllowed_12 : decode cX4_isAllowed 12 = .ok (.iaload, 1) := by decide +kernel
theorem dX4_isAllowed_13 : decode cX4_isAllowed 13 = .ok (.if_icmp .ge 47, 3) := by decide +kernel
theorem dX4_isAllowed_16 : decode cX4_isAllowed 16 = .ok (.aload_n 0, 1) := by decide +kernel
theorem dX4_isAllowed_17 : decode cX4_isAllowed 17 = .ok (.iload_n 3, 1) := by decide +kernel
theorem dX4_isAllowed_18 : decode cX4_isAllowed 18 = .ok (.invokevirtual 46, 3) := by decide +kernel
theorem dX4_isAllowed_21 : decode cX4_isAllowed 21 = .ok (.iload_n 2, 1) := by decide +kernel
theorem dX4_isAllowed_22 : decode cX4_isAllowed 22 = .ok (.if_icmp .le 11, 3) := by decide +kernel
theorem dX4_isAllowed_25 : decode cX4_isAllowed 25 = .ok (.aload_n 0, 1) := by decide +kernel
theorem dX4_isAllowed_26 : decode cX4_isAllowed 26 = .ok (.iload_n 3, 1) := by decide +kernel
theorem dX4_isAllowed_27 : decode cX4_isAllowed 27 = .ok (.invokevirtual 46, 3) := by decide +kernel
theorem dX4_isAllowed_30 : decode cX4_isAllowed 30 = .ok (.goto 4, 3) := by decide +kernel
theorem dX4_isAllowed_33 : decode cX4_isAllowed 33 = .ok (.iload_n 2, 1) := by decide +kernel
theorem dX4_isAllowed_34 : decode cX4_isAllowed 34 = .ok (.istore_n 2, 1) := by decide +kernel
theorem dX4_isAllowed_35 : decode cX4_isAllowed 35 = .ok (.iload_n 1, 1) := by decide +kernel
theorem dX4_isAllowed_36 : decode cX4_isAllowed 36 = .ok (.ifCond .eq 16, 3) := by decide +kernel
theorem dX4_isAllowed_39 : decode cX4_isAllowed 39 = .ok (.iload_n 2, 1) := by decide +kernel
theorem dX4_isAllowed_40 : decode cX4_isAllowed 40 = .ok (.aload_n 0, 1) := by decide +kernel
theorem dX4_isAllowed_41 : decode cX4_isAllowed 41 = .ok (.iload_n 3, 1) := by decide +kernel
theorem dX4_isAllowed_42 : decode cX4_isAllowed 42 = .ok (.invokevirtual 50, 3) := by decide +kernel
theorem dX4_isAllowed_45 : decode cX4_isAllowed 45 = .ok (.if_icmp .gt 7, 3) := by decide +kernel
theorem dX4_isAllowed_48 : decode cX4_isAllowed 48 = .ok (.iconst 1, 1) := by decide +kernel
theorem dX4_isAllowed_49 : decode cX4_isAllowed 49 = .ok (.goto 4, 3) := by decide +kernel
theorem dX4_isAllowed_52 : decode cX4_isAllowed 52 = .ok (.iconst 0, 1) := by decide +kernel
theorem dX4_isAllowed_53 : decode cX4_isAllowed 53 = .ok (.istore_n 1, 1) := by decide +kernel
theorem dX4_isAllowed_54 : decode cX4_isAllowed 54 = .ok (.iinc 3 1, 3) := by decide +kernel
theorem dX4_isAllowed_57 : decode cX4_isAllowed 57 = .ok (.goto (-51), 3) := by decide +kernel
theorem dX4_isAllowed_60 : decode cX4_isAllowed 60 = .ok (.iload_n 1, 1) := by decide +kernel
theorem dX4_isAllowed_61 : decode cX4_isAllowed 61 = .ok (.ireturn, 1) := by decide +kernel
set_option maxRecDepth 20000 in
theorem ggX4_width_X4_in : GoodIn wsX4_width wsX4_in := goodIn_r _ [7] (by decide +kernel) (by decide +kernel)
set_option maxRecDepth 20000 in
theorem gX4_width_X4_in : GoodIn wsX4_width (va_wsS RX4 53 yX4_in wsX4_in) := goodIn_app (goodIn_of _ (by decide +kernel)) ggX4_width_X4_in
set_option maxRecDepth 20000 in
theorem ggX4_width_X4_changes : GoodIn wsX4_width wsX4_changes := goodIn_r _ [11, 12, 13, 14, 2, 15, 16, 17, 18, 19, 20, 21, 22, 23, 24, 25, 26, 27, 28, 29, 30, 31, 32, 33, 34, 35] (by decide +kernel) (by decide +kernel)
set_option maxRecDepth 20000 in
theorem gX4_width_X4_changes : GoodIn wsX4_width (wsV RX4 59 RX4 yX4_changes wsX4_changes) := goodIn_app (goodIn_of _ (by decide +kernel)) ggX4_width_X4_changes
theorem dX4_width_0 : decode cX4_width 0 = .ok (.iload_n 1, 1) := by decide +kernel
theorem dX4_width_1 : decode cX4_width 1 = .ok (.bipush 10, 2) := by decide +kernel
theorem dX4_width_3 : decode cX4_width 3 = .ok (.bipush 99, 2) := by decide +kernel
theorem dX4_width_5 : decode cX4_width 5 = .ok (.invokestatic 53, 3) := by decide +kernel
theorem dX4_width_8 : decode cX4_width 8 = .ok (.ifCond .ne 6, 3) := by decide +kernel
theorem dX4_width_11 : decode cX4_width 11 = .ok (.ldc 57, 2) := by decide +kernel
theorem dX4_width_13 : decode cX4_width 13 = .ok (.ireturn, 1) := by decide +kernel
theorem dX4_width_14 : decode cX4_width 14 = .ok (.iconst 0, 1) := by decide +kernel
theorem dX4_width_15 : decode cX4_width 15 = .ok (.istore_n 2, 1) := by decide +kernel
theorem dX4_width_16 : decode cX4_width 16 = .ok (.iload_n 2, 1) := by decide +kernel
theorem dX4_width_17 : decode cX4_width 17 = .ok (.aload_n 0, 1) := by decide +kernel
theorem dX4_width_18 : decode cX4_width 18 = .ok (.getfield 7, 3) := by decide +kernel
theorem dX4_width_21 : decode cX4_width 21 = .ok (.iconst 1, 1) := by decide +kernel
theorem dX4_width_22 : decode cX4_width 22 = .ok (.iaload, 1) := by decide +kernel
theorem dX4_width_23 : decode cX4_width 23 = .ok (.if_icmp .ge 38, 3) := by decide +kernel
theorem dX4_width_26 : decode cX4_width 26 = .ok (.aload_n 0, 1) := by decide +kernel
theorem dX4_width_27 : decode cX4_width 27 = .ok (.getfield 7, 3) := by decide +kernel
theorem dX4_width_30 : decode cX4_width 30 = .ok (.bipush 16, 2) := by decide +kernel
theorem dX4_width_32 : decode cX4_width 32 = .ok (.iload_n 2, 1) := by decide +kernel
theorem dX4_width_33 : decode cX4_width 33 = .ok (.iadd, 1) := by decide +kernel
theorem dX4_width_34 : decode cX4_width 34 = .ok (.iaload, 1) := by decide +kernel
theorem dX4_width_35 : decode cX4_width 35 = .ok (.iload_n 1, 1) := by decide +kernel
theorem dX4_width_36 : decode cX4_width 36 = .ok (.if_icmp .gt 16, 3) := by decide +kernel
theorem dX4_width_39 : decode cX4_width 39 = .ok (.aload_n 0, 1) := by decide +kernel
theorem dX4_width_40 : decode cX4_width 40 = .ok (.getfield 7, 3) := by decide +kernel
theorem dX4_width_43 : decode cX4_width 43 = .ok (.bipush 20, 2) := by decide +kernel
theorem dX4_width_45 : decode cX4_width 45 = .ok (.iload_n 2, 1) := by decide +kernel
theorem dX4_width_46 : decode cX4_width 46 = .ok (.iadd, 1) := by decide +kernel
theorem dX4_width_47 : decode cX4_width 47 = .ok (.iaload, 1) := by decide +kernel
theorem dX4_width_48 : decode cX4_width 48 = .ok (.iload_n 1, 1) := by decide +kernel
theorem dX4_width_49 : decode cX4_width 49 = .ok (.if_icmp .le 6, 3) := by decide +kernel
theorem dX4_width_52 : decode cX4_width 52 = .ok (.ldc 58, 2) := by decide +kernel
theorem dX4_width_54 : decode cX4_width 54 = .ok (.ireturn, 1) := by decide +kernel
theorem dX4_width_55 : decode cX4_width 55 = .ok (.iinc 2 1, 3) := by decide +kernel
theorem dX4_width_58 : decode cX4_width 58 = .ok (.goto (-42), 3) := by decide +kernel
theorem dX4_width_61 : decode cX4_width 61 = .ok (.aload_n 0, 1) := by decide +kernel
theorem dX4_width_62 : decode cX4_width 62 = .ok (.invokevirtual 59, 3) := by decide +kernel
theorem dX4_width_65 : decode cX4_width 65 = .ok (.aload_n 0, 1) := by decide +kernel
theorem dX4_width_66 : decode cX4_width 66 = .ok (.getfield 7, 3) := by decide +kernel
theorem dX4_width_69 : decode cX4_width 69 = .ok (.iconst 0, 1) := by decide +kernel
theorem dX4_width_70 : decode cX4_width 70 = .ok (.iaload, 1) := by decide +kernel
theorem dX4_width_71 : decode cX4_width 71 = .ok (.istore_n 2, 1) := by decide +kernel
theorem dX4_width_72 : decode cX4_width 72 = .ok (.aload_n 0, 1) := by decide +kernel
theorem dX4_width_73 : decode cX4_width 73 = .ok (.getfield 7, 3) := by decide +kernel
theorem dX4_width_76 : decode cX4_width 76 = .ok (.iconst 0, 1) := by decide +kernel
theorem dX4_width_77 : decode cX4_width 77 = .ok (.iload_n 1, 1) := by decide +kernel
theorem dX4_width_78 : decode cX4_width 78 = .ok (.iastore, 1) := by decide +kernel
theorem dX4_width_79 : decode cX4_width 79 = .ok (.iload_n 2, 1) := by decide +kernel
theorem dX4_width_80 : decode cX4_width 80 = .ok (.ireturn, 1) := by decide +kernel
set_option maxRecDepth 20000 in
theorem ggX4_plate_X4_changes : GoodIn wsX4_plate wsX4_changes := goodIn_r _ [7, 8, 9, 10, 1, 11, 12, 13, 14, 15, 16, 17, 18, 19, 20, 21, 22, 23, 24, 25, 26, 27, 28, 29, 30, 31] (by decide +kernel) (by decide +kernel)
set_option maxRecDepth 20000 in
theorem gX4_plate_X4_changes : GoodIn wsX4_plate (wsV RX4 59 RX4 yX4_changes wsX4_changes) := goodIn_app (goodIn_of _ (by decide +kernel)) ggX4_plate_X4_changes
theorem dX4_plate_0 : decode cX4_plate 0 = .ok (.aload_n 0, 1) := by decide +kernel
theorem dX4_plate_1 : decode cX4_plate 1 = .ok (.getfield 7, 3) := by decide +kernel
theorem dX4_plate_4 : decode cX4_plate 4 = .ok (.iconst 1, 1) := by decide +kernel
theorem dX4_plate_5 : decode cX4_plate 5 = .ok (.iaload, 1) := by decide +kernel
theorem dX4_plate_6 : decode cX4_plate 6 = .ok (.istore_n 1, 1) := by decide +kernel
theorem dX4_plate_7 : decode cX4_plate 7 = .ok (.iload_n 1, 1) := by decide +kernel
theorem dX4_plate_8 : decode cX4_plate 8 = .ok (.iconst 4, 1) := by decide +kernel
theorem dX4_plate_9 : decode cX4_plate 9 = .ok (.if_icmp .ne 6, 3) := by decide +kernel
theorem dX4_plate_12 : decode cX4_plate 12 = .ok (.ldc 62, 2) := by decide +kernel
theorem dX4_plate_14 : decode cX4_plate 14 = .ok (.ireturn, 1) := by decide +kernel
theorem dX4_plate_15 : decode cX4_plate 15 = .ok (.aload_n 0, 1) := by decide +kernel
theorem dX4_plate_16 : decode cX4_plate 16 = .ok (.invokevirtual 59, 3) := by decide +kernel
theorem dX4_plate_19 : decode cX4_plate 19 = .ok (.aload_n 0, 1) := by decide +kernel
theorem dX4_plate_20 : decode cX4_plate 20 = .ok (.getfield 7, 3) := by decide +kernel
theorem dX4_plate_23 : decode cX4_plate 23 = .ok (.iconst 1, 1) := by decide +kernel
theorem dX4_plate_24 : decode cX4_plate 24 = .ok (.dup2, 1) := by decide +kernel
theorem dX4_plate_25 : decode cX4_plate 25 = .ok (.iaload, 1) := by decide +kernel
theorem dX4_plate_26 : decode cX4_plate 26 = .ok (.iconst 1, 1) := by decide +kernel
theorem dX4_plate_27 : decode cX4_plate 27 = .ok (.iadd, 1) := by decide +kernel
theorem dX4_plate_28 : decode cX4_plate 28 = .ok (.iastore, 1) := by decide +kernel
theorem dX4_plate_29 : decode cX4_plate 29 = .ok (.aload_n 0, 1) := by decide +kernel
theorem dX4_plate_30 : decode cX4_plate 30 = .ok (.getfield 7, 3) := by decide +kernel
theorem dX4_plate_33 : decode cX4_plate 33 = .ok (.iconst 2, 1) := by decide +kernel
theorem dX4_plate_34 : decode cX4_plate 34 = .ok (.iload_n 1, 1) := by decide +kernel
theorem dX4_plate_35 : decode cX4_plate 35 = .ok (.iadd, 1) := by decide +kernel
theorem dX4_plate_36 : decode cX4_plate 36 = .ok (.iconst 1, 1) := by decide +kernel
theorem dX4_plate_37 : decode cX4_plate 37 = .ok (.iadd, 1) := by decide +kernel
theorem dX4_plate_38 : decode cX4_plate 38 = .ok (.iconst 1, 1) := by decide +kernel
theorem dX4_plate_39 : decode cX4_plate 39 = .ok (.iastore, 1) := by decide +kernel
theorem dX4_plate_40 : decode cX4_plate 40 = .ok (.aload_n 0, 1) := by decide +kernel
theorem dX4_plate_41 : decode cX4_plate 41 = .ok (.getfield 7, 3) := by decide +kernel
theorem dX4_plate_44 : decode cX4_plate 44 = .ok (.bipush 7, 2) := by decide +kernel
theorem dX4_plate_46 : decode cX4_plate 46 = .ok (.iload_n 1, 1) := by decide +kernel
theorem dX4_plate_47 : decode cX4_plate 47 = .ok (.iadd, 1) := by decide +kernel
theorem dX4_plate_48 : decode cX4_plate 48 = .ok (.iconst 1, 1) := by decide +kernel
theorem dX4_plate_49 : decode cX4_plate 49 = .ok (.iadd, 1) := by decide +kernel
theorem dX4_plate_50 : decode cX4_plate 50 = .ok (.bipush 10, 2) := by decide +kernel
theorem dX4_plate_52 : decode cX4_plate 52 = .ok (.iastore, 1) := by decide +kernel
theorem dX4_plate_53 : decode cX4_plate 53 = .ok (.aload_n 0, 1) := by decide +kernel
theorem dX4_plate_54 : decode cX4_plate 54 = .ok (.getfield 7, 3) := by decide +kernel
theorem dX4_plate_57 : decode cX4_plate 57 = .ok (.bipush 12, 2) := by decide +kernel
theorem dX4_plate_59 : decode cX4_plate 59 = .ok (.iload_n 1, 1) := by decide +kernel
theorem dX4_plate_60 : decode cX4_plate 60 = .ok (.iadd, 1) := by decide +kernel
theorem dX4_plate_61 : decode cX4_plate 61 = .ok (.iconst 0, 1) := by decide +kernel
theorem dX4_plate_62 : decode cX4_plate 62 = .ok (.iastore, 1) := by decide +kernel
theorem dX4_plate_63 : decode cX4_plate 63 = .ok (.aload_n 0, 1) := by decide +kernel
theorem dX4_plate_64 : decode cX4_plate 64 = .ok (.getfield 7, 3) := by decide +kernel
theorem dX4_plate_67 : decode cX4_plate 67 = .ok (.bipush 16, 2) := by decide +kernel
theorem dX4_plate_69 : decode cX4_plate 69 = .ok (.iload_n 1, 1) := by decide +kernel
theorem dX4_plate_70 : decode cX4_plate 70 = .ok (.iadd, 1) := by decide +kernel
theorem dX4_plate_71 : decode cX4_plate 71 = .ok (.iconst (-1), 1) := by decide +kernel
theorem dX4_plate_72 : decode cX4_plate 72 = .ok (.iastore, 1) := by decide +kernel
theorem dX4_plate_73 : decode cX4_plate 73 = .ok (.aload_n 0, 1) := by decide +kernel
theorem dX4_plate_74 : decode cX4_plate 74 = .ok (.getfield 7, 3) := by decide +kernel
theorem dX4_plate_77 : decode cX4_plate 77 = .ok (.bipush 20, 2) := by decide +kernel
theorem dX4_plate_79 : decode cX4_plate 79 = .ok (.iload_n 1, 1) := by decide +kernel
theorem dX4_plate_80 : decode cX4_plate 80 = .ok (.iadd, 1) := by decide +kernel
theorem dX4_plate_81 : decode cX4_plate 81 = .ok (.iconst (-1), 1) := by decide +kernel
theorem dX4_plate_82 : decode cX4_plate 82 = .ok (.iastore, 1) := by decide +kernel
theorem dX4_plate_83 : decode cX4_plate 83 = .ok (.iload_n 1, 1) := by decide +kernel
theorem dX4_plate_84 : decode cX4_plate 84 = .ok (.ireturn, 1) := by decide +kernel
set_option maxRecDepth 20000 in
theorem ggX4_drop_X4_isPlate : GoodIn wsX4_drop wsX4_isPlate := goodIn_r _ [7, 2, 15, 16, 17, 18, 19, 20, 21, 22, 23, 24, 25, 26, 27, 28, 29, 30, 31, 32, 33, 34, 35] (by decide +kernel) (by decide +kernel)
set_option maxRecDepth 20000 in
theorem gX4_drop_X4_isPlate : GoodIn wsX4_drop (wsV RX4 63 RX4 yX4_isPlate wsX4_isPlate) := goodIn_app (goodIn_of _ (by decide +kernel)) ggX4_drop_X4_isPlate
set_option maxRecDepth 20000 in
theorem ggX4_drop_X4_changes : GoodIn wsX4_drop wsX4_changes := goodIn_r _ [11, 12, 13, 14, 2, 15, 16, 17, 18, 19, 20, 21, 22, 23, 24, 25, 26, 27, 28, 29, 30, 31, 32, 33, 34, 35] (by decide +kernel) (by decide +kernel)
set_option maxRecDepth 20000 in
theorem gX4_drop_X4_changes : GoodIn wsX4_drop (wsV RX4 59 RX4 yX4_changes wsX4_changes) := goodIn_app (goodIn_of _ (by decide +kernel)) ggX4_drop_X4_changes
theorem dX4_drop_0 : decode cX4_drop 0 = .ok (.aload_n 0, 1) := by decide +kernel
theorem dX4_drop_1 : decode cX4_drop 1 = .ok (.iload_n 1, 1) := by decide +kernel
theorem dX4_drop_2 : decode cX4_drop 2 = .ok (.invokevirtual 63, 3) := by decide +kernel
theorem dX4_drop_5 : decode cX4_drop 5 = .ok (.ifCond .ne 6, 3) := by decide +kernel
theorem dX4_drop_8 : decode cX4_drop 8 = .ok (.ldc 57, 2) := by decide +kernel
theorem dX4_drop_10 : decode cX4_drop 10 = .ok (.ireturn, 1) := by decide +kernel
theorem dX4_drop_11 : decode cX4_drop 11 = .ok (.aload_n 0, 1) := by decide +kernel
theorem dX4_drop_12 : decode cX4_drop 12 = .ok (.invokevirtual 59, 3) := by decide +kernel
theorem dX4_drop_15 : decode cX4_drop 15 = .ok (.aload_n 0, 1) := by decide +kernel
theorem dX4_drop_16 : decode cX4_drop 16 = .ok (.getfield 7, 3) := by decide +kernel
theorem dX4_drop_19 : decode cX4_drop 19 = .ok (.iconst 1, 1) := by decide +kernel
theorem dX4_drop_20 : decode cX4_drop 20 = .ok (.dup2, 1) := by decide +kernel
theorem dX4_drop_21 : decode cX4_drop 21 = .ok (.iaload, 1) := by decide +kernel
theorem dX4_drop_22 : decode cX4_drop 22 = .ok (.iconst 1, 1) := by decide +kernel
theorem dX4_drop_23 : decode cX4_drop 23 = .ok (.isub, 1) := by decide +kernel
theorem dX4_drop_24 : decode cX4_drop 24 = .ok (.iastore, 1) := by decide +kernel
theorem dX4_drop_25 : decode cX4_drop 25 = .ok (.iload_n 1, 1) := by decide +kernel
theorem dX4_drop_26 : decode cX4_drop 26 = .ok (.istore_n 2, 1) := by decide +kernel
theorem dX4_drop_27 : decode cX4_drop 27 = .ok (.iload_n 2, 1) := by decide +kernel
theorem dX4_drop_28 : decode cX4_drop 28 = .ok (.aload_n 0, 1) := by decide +kernel
theorem dX4_drop_29 : decode cX4_drop 29 = .ok (.getfield 7, 3) := by decide +kernel
theorem dX4_drop_32 : decode cX4_drop 32 = .ok (.iconst 1, 1) := by decide +kernel
theorem dX4_drop_33 : decode cX4_drop 33 = .ok (.iaload, 1) := by decide +kernel
theorem dX4_drop_34 : decode cX4_drop 34 = .ok (.if_icmp .ge 111, 3) := by decide +kernel
theorem dX4_drop_37 : decode cX4_drop 37 = .ok (.aload_n 0, 1) := by decide +kernel
theorem dX4_drop_38 : decode cX4_drop 38 = .ok (.getfield 7, 3) := by decide +kernel
theorem dX4_drop_41 : decode cX4_drop 41 = .ok (.iconst 2, 1) := by decide +kernel
theorem dX4_drop_42 : decode cX4_drop 42 = .ok (.iload_n 2, 1) := by decide +kernel
theorem dX4_drop_43 : decode cX4_drop 43 = .ok (.iadd, 1) := by decide +kernel
theorem dX4_drop_44 : decode cX4_drop 44 = .ok (.iconst 1, 1) := by decide +kernel
theorem dX4_drop_45 : decode cX4_drop 45 = .ok (.iadd, 1) := by decide +kernel
theorem dX4_drop_46 : decode cX4_drop 46 = .ok (.aload_n 0, 1) := by decide +kernel
theorem dX4_drop_47 : decode cX4_drop 47 = .ok (.getfield 7, 3) := by decide +kernel
theorem dX4_drop_50 : decode cX4_drop 50 = .ok (.iconst 2, 1) := by decide +kernel
theorem dX4_drop_51 : decode cX4_drop 51 = .ok (.iload_n 2, 1) := by decide +kernel
theorem dX4_drop_52 : decode cX4_drop 52 = .ok (.iadd, 1) := by decide +kernel
theorem dX4_drop_53 : decode cX4_drop 53 = .ok (.iconst 2, 1) := by decide +kernel
theorem dX4_drop_54 : decode cX4_drop 54 = .ok (.iadd, 1) := by decide +kernel
theorem dX4_drop_55 : decode cX4_drop 55 = .ok (.iaload, 1) := by decide +kernel
theorem dX4_drop_56 : decode cX4_drop 56 = .ok (.iastore, 1) := by decide +kernel
theorem dX4_drop_57 : decode cX4_drop 57 = .ok (.aload_n 0, 1) := by decide +kernel
theorem dX4_drop_58 : decode cX4_drop 58 = .ok (.getfield 7, 3) := by decide +kernel
theorem dX4_drop_61 : decode cX4_drop 61 = .ok (.bipush 7, 2) := by decide +kernel
theorem dX4_drop_63 : decode cX4_drop 63 = .ok (.iload_n 2, 1) := by decide +kernel
theorem dX4_drop_64 : decode cX4_drop 64 = .ok (.iadd, 1) := by decide +kernel
theorem dX4_drop_65 : decode cX4_drop 65 = .ok (.iconst 1, 1) := by decide +kernel
theorem dX4_drop_66 : decode cX4_drop 66 = .ok (.iadd, 1) := by decide +kernel
theorem dX4_drop_67 : decode cX4_drop 67 = .ok (.aload_n 0, 1) := by decide +kernel
theorem dX4_drop_68 : decode cX4_drop 68 = .ok (.getfield 7, 3) := by decide +kernel
theorem dX4_drop_71 : decode cX4_drop 71 = .ok (.bipush 7, 2) := by decide +kernel
theorem dX4_drop_73 : decode cX4_drop 73 = .ok (.iload_n 2, 1) := by decide +kernel
theorem dX4_drop_74 : decode cX4_drop 74 = .ok (.iadd, 1) := by decide +kernel
theorem dX4_drop_75 : decode cX4_drop 75 = .ok (.iconst 2, 1) := by decide +kernel
theorem dX4_drop_76 : decode cX4_drop 76 = .ok (.iadd, 1) := by decide +kernel
theorem dX4_drop_77 : decode cX4_drop 77 = .ok (.iaload, 1) := by decide +kernel
theorem dX4_drop_78 : decode cX4_drop 78 = .ok (.iastore, 1) := by decide +kernel
theorem dX4_drop_79 : decode cX4_drop 79 = .ok (.aload_n 0, 1) := by decide +kernel
theorem dX4_drop_80 : decode cX4_drop 80 = .ok (.getfield 7, 3) := by decide +kernel
theorem dX4_drop_83 : decode cX4_drop 83 = .ok (.bipush 12, 2) := by decide +kernel
theorem dX4_drop_85 : decode cX4_drop 85 = .ok (.iload_n 2, 1) := by decide +kernel
theorem dX4_drop_86 : decode cX4_drop 86 = .ok (.iadd, 1) := by decide +kernel
theorem dX4_drop_87 : decode cX4_drop 87 = .ok (.aload_n 0, 1) := by decide +kernel
theorem dX4_drop_88 : decode cX4_drop 88 = .ok (.getfield 7, 3) := by decide +kernel
theorem dX4_drop_91 : decode cX4_drop 91 = .ok (.bipush 12, 2) := by decide +kernel
theorem dX4_drop_93 : decode cX4_drop 93 = .ok (.iload_n 2, 1) := by decide +kernel
theorem dX4_drop_94 : decode cX4_drop 94 = .ok (.iadd, 1) := by decide +kernel
theorem dX4_drop_95 : decode cX4_drop 95 = .ok (.iconst 1, 1) := by decide +kernel
theorem dX4_drop_96 : decode cX4_drop 96 = .ok (.iadd, 1) := by decide +kernel
theorem dX4_drop_97 : decode cX4_drop 97 = .ok (.iaload, 1) := by decide +kernel
theorem dX4_drop_98 : decode cX4_drop 98 = .ok (.iastore, 1) := by decide +kernel
theorem dX4_drop_99 : decode cX4_drop 99 = .ok (.aload_n 0, 1) := by decide +kernel
theorem dX4_drop_100 : decode cX4_drop 100 = .ok (.getfield 7, 3) := by decide +kernel
theorem dX4_drop_103 : decode cX4_drop 103 = .ok (.bipush 16, 2) := by decide +kernel
theorem dX4_drop_105 : decode cX4_drop 105 = .ok (.iload_n 2, 1) := by decide +kernel
theorem dX4_drop_106 : decode cX4_drop 106 = .ok (.iadd, 1) := by decide +kernel
theorem dX4_drop_107 : decode cX4_drop 107 = .ok (.aload_n 0, 1) := by decide +kernel
theorem dX4_drop_108 : decode cX4_drop 108 = .ok (.getfield 7, 3) := by decide +kernel
theorem dX4_drop_111 : decode cX4_drop 111 = .ok (.bipush 16, 2) := by decide +kernel
theorem dX4_drop_113 : decode cX4_drop 113 = .ok (.iload_n 2, 1) := by decide +kernel
theorem dX4_drop_114 : decode cX4_drop 114 = .ok (.iadd, 1) := by decide +kernel
theorem dX4_drop_115 : decode cX4_drop 115 = .ok (.iconst 1, 1) := by decide +kernel
theorem dX4_drop_116 : decode cX4_drop 116 = .ok (.iadd, 1) := by decide +kernel
theorem dX4_drop_117 : decode cX4_drop 117 = .ok (.iaload, 1) := by decide +kernel
theorem dX4_drop_118 : decode cX4_drop 118 = .ok (.iastore, 1) := by decide +kernel
theorem dX4_drop_119 : decode cX4_drop 119 = .ok (.aload_n 0, 1) := by decide +kernel
theorem dX4_drop_120 : decode cX4_drop 120 = .ok (.getfield 7, 3) := by decide +kernel
theorem dX4_drop_123 : decode cX4_drop 123 = .ok (.bipush 20, 2) := by decide +kernel
theorem dX4_drop_125 : decode cX4_drop 125 = .ok (.iload_n 2, 1) := by decide +kernel
theorem dX4_drop_126 : decode cX4_drop 126 = .ok (.iadd, 1) := by decide +kernel
theorem dX4_drop_127 : decode cX4_drop 127 = .ok (.aload_n 0, 1) := by decide +kernel
theorem dX4_drop_128 : decode cX4_drop 128 = .ok (.getfield 7, 3) := by decide +kernel
theorem dX4_drop_131 : decode cX4_drop 131 = .ok (.bipush 20, 2) := by decide +kernel
theorem dX4_drop_133 : decode cX4_drop 133 = .ok (.iload_n 2, 1) := by decide +kernel
theorem dX4_drop_134 : decode cX4_drop 134 = .ok (.iadd, 1) := by decide +kernel
theorem dX4_drop_135 : decode cX4_drop 135 = .ok (.iconst 1, 1) := by decide +kernel
theorem dX4_drop_136 : decode cX4_drop 136 = .ok (.iadd, 1) := by decide +kernel
theorem dX4_drop_137 : decode cX4_drop 137 = .ok (.iaload, 1) := by decide +kernel
theorem dX4_drop_138 : decode cX4_drop 138 = .ok (.iastore, 1) := by decide +kernel
theorem dX4_drop_139 : decode cX4_drop 139 = .ok (.iinc 2 1, 3) := by decide +kernel
theorem dX4_drop_142 : decode cX4_drop 142 = .ok (.goto (-115), 3) := by decide +kernel
theorem dX4_drop_145 : decode cX4_drop 145 = .ok (.aload_n 0, 1) := by decide +kernel
theorem dX4_drop_146 : decode cX4_drop 146 = .ok (.getfield 7, 3) := by decide +kernel
theorem dX4_drop_149 : decode cX4_drop 149 = .ok (.iconst 1, 1) := by decide +kernel
theorem dX4_drop_150 : decode cX4_drop 150 = .ok (.iaload, 1) := by decide +kernel
theorem dX4_drop_151 : decode cX4_drop 151 = .ok (.ireturn, 1) := by decide +kernel
set_option maxRecDepth 20000 in
theorem ggX4_spring_X4_isSpring : GoodIn wsX4_spring wsX4_isSpring := goodIn_r _ [7, 2, 18, 19, 20, 21, 22, 23, 24, 25, 26, 27, 28, 29, 30, 31, 32, 33, 34, 35, 36, 37, 38] (by decide +kernel) (by decide +kernel)
set_option maxRecDepth 20000 in
theorem gX4_spring_X4_isSpring : GoodIn wsX4_spring (wsV RX4 67 RX4 yX4_isSpring wsX4_isSpring) := goodIn_app (goodIn_of _ (by decide +kernel)) ggX4_spring_X4_isSpring
set_option maxRecDepth 20000 in
theorem ggX4_spring_X4_in : GoodIn wsX4_spring wsX4_in := goodIn_r _ [10] (by decide +kernel) (by decide +kernel)
set_option maxRecDepth 20000 in
theorem gX4_spring_X4_in : GoodIn wsX4_spring (va_wsS RX4 53 yX4_in wsX4_in) := goodIn_app (goodIn_of _ (by decide +kernel)) ggX4_spring_X4_in
set_option maxRecDepth 20000 in
theorem ggX4_spring_X4_changes : GoodIn wsX4_spring wsX4_changes := goodIn_r _ [14, 15, 16, 17, 2, 18, 19, 20, 21, 22, 23, 24, 25, 26, 27, 28, 29, 30, 31, 32, 33, 34, 35, 36, 37, 38] (by decide +kernel) (by decide +kernel)
set_option maxRecDepth 20000 in
theorem gX4_spring_X4_changes : GoodIn wsX4_spring (wsV RX4 59 RX4 yX4_changes wsX4_changes) := goodIn_app (goodIn_of _ (by decide +kernel)) ggX4_spring_X4_changes
theorem dX4_spring_0 : decode cX4_spring 0 = .ok (.aload_n 0, 1) := by decide +kernel
theorem dX4_spring_1 : decode cX4_spring 1 = .ok (.iload_n 1, 1) := by decide +kernel
theorem dX4_spring_2 : decode cX4_spring 2 = .ok (.invokevirtual 67, 3) := by decide +kernel
theorem dX4_spring_5 : decode cX4_spring 5 = .ok (.ifCond .eq 23, 3) := by decide +kernel
theorem dX4_spring_8 : decode cX4_spring 8 = .ok (.iload_n 2, 1) := by decide +kernel
theorem dX4_spring_9 : decode cX4_spring 9 = .ok (.iconst 1, 1) := by decide +kernel
theorem dX4_spring_10 : decode cX4_spring 10 = .ok (.bipush 9, 2) := by decide +kernel
theorem dX4_spring_12 : decode cX4_spring 12 = .ok (.invokestatic 53, 3) := by decide +kernel
theorem dX4_spring_15 : decode cX4_spring 15 = .ok (.ifCond .eq 13, 3) := by decide +kernel
theorem dX4_spring_18 : decode cX4_spring 18 = .ok (.iload_n 3, 1) := by decide +kernel
theorem dX4_spring_19 : decode cX4_spring 19 = .ok (.iconst 0, 1) := by decide +kernel
theorem dX4_spring_20 : decode cX4_spring 20 = .ok (.bipush 50, 2) := by decide +kernel
theorem dX4_spring_22 : decode cX4_spring 22 = .ok (.invokestatic 53, 3) := by decide +kernel
theorem dX4_spring_25 : decode cX4_spring 25 = .ok (.ifCond .ne 6, 3) := by decide +kernel
theorem dX4_spring_28 : decode cX4_spring 28 = .ok (.ldc 57, 2) := by decide +kernel
theorem dX4_spring_30 : decode cX4_spring 30 = .ok (.ireturn, 1) := by decide +kernel
theorem dX4_spring_31 : decode cX4_spring 31 = .ok (.aload_n 0, 1) := by decide +kernel
theorem dX4_spring_32 : decode cX4_spring 32 = .ok (.invokevirtual 59, 3) := by decide +kernel
theorem dX4_spring_35 : decode cX4_spring 35 = .ok (.bipush 100, 2) := by decide +kernel
theorem dX4_spring_37 : decode cX4_spring 37 = .ok (.aload_n 0, 1) := by decide +kernel
theorem dX4_spring_38 : decode cX4_spring 38 = .ok (.getfield 7, 3) := by decide +kernel
theorem dX4_spring_41 : decode cX4_spring 41 = .ok (.iconst 2, 1) := by decide +kernel
theorem dX4_spring_42 : decode cX4_spring 42 = .ok (.iload_n 1, 1) := by decide +kernel
theorem dX4_spring_43 : decode cX4_spring 43 = .ok (.iadd, 1) := by decide +kernel
theorem dX4_spring_44 : decode cX4_spring 44 = .ok (.iaload, 1) := by decide +kernel
theorem dX4_spring_45 : decode cX4_spring 45 = .ok (.imul, 1) := by decide +kernel
theorem dX4_spring_46 : decode cX4_spring 46 = .ok (.aload_n 0, 1) := by decide +kernel
theorem dX4_spring_47 : decode cX4_spring 47 = .ok (.getfield 7, 3) := by decide +kernel
theorem dX4_spring_50 : decode cX4_spring 50 = .ok (.bipush 7, 2) := by decide +kernel
theorem dX4_spring_52 : decode cX4_spring 52 = .ok (.iload_n 1, 1) := by decide +kernel
theorem dX4_spring_53 : decode cX4_spring 53 = .ok (.iadd, 1) := by decide +kernel
theorem dX4_spring_54 : decode cX4_spring 54 = .ok (.iaload, 1) := by decide +kernel
theorem dX4_spring_55 : decode cX4_spring 55 = .ok (.iadd, 1) := by decide +kernel
theorem dX4_spring_56 : decode cX4_spring 56 = .ok (.istore 4, 2) := by decide +kernel
theorem dX4_spring_58 : decode cX4_spring 58 = .ok (.aload_n 0, 1) := by decide +kernel
theorem dX4_spring_59 : decode cX4_spring 59 = .ok (.getfield 7, 3) := by decide +kernel
theorem dX4_spring_62 : decode cX4_spring 62 = .ok (.iconst 2, 1) := by decide +kernel
theorem dX4_spring_63 : decode cX4_spring 63 = .ok (.iload_n 1, 1) := by decide +kernel
theorem dX4_spring_64 : decode cX4_spring 64 = .ok (.iadd, 1) := by decide +kernel
theorem dX4_spring_65 : decode cX4_spring 65 = .ok (.iload_n 2, 1) := by decide +kernel
theorem dX4_spring_66 : decode cX4_spring 66 = .ok (.iastore, 1) := by decide +kernel
theorem dX4_spring_67 : decode cX4_spring 67 = .ok (.aload_n 0, 1) := by decide +kernel
theorem dX4_spring_68 : decode cX4_spring 68 = .ok (.getfield 7, 3) := by decide +kernel
theorem dX4_spring_71 : decode cX4_spring 71 = .ok (.bipush 7, 2) := by decide +kernel
theorem dX4_spring_73 : decode cX4_spring 73 = .ok (.iload_n 1, 1) := by decide +kernel
theorem dX4_spring_74 : decode cX4_spring 74 = .ok (.iadd, 1) := by decide +kernel
theorem dX4_spring_75 : decode cX4_spring 75 = .ok (.iload_n 3, 1) := by decide +kernel
theorem dX4_spring_76 : decode cX4_spring 76 = .ok (.iastore, 1) := by decide +kernel
theorem dX4_spring_77 : decode cX4_spring 77 = .ok (.iload 4, 2) := by decide +kernel
theorem dX4_spring_79 : decode cX4_spring 79 = .ok (.ireturn, 1) := by decide +kernel
set_option maxRecDepth 20000 in
theorem ggX4_load_X4_isPlate : GoodIn wsX4_load wsX4_isPlate := goodIn_r _ [7, 2, 18, 19, 20, 21, 22, 23, 24, 25, 26, 27, 28, 29, 30, 31, 32, 33, 34, 35, 36, 37, 38] (by decide +kernel) (by decide +kernel)
set_option maxRecDepth 20000 in
theorem gX4_load_X4_isPlate : GoodIn wsX4_load (wsV RX4 63 RX4 yX4_isPlate wsX4_isPlate) := goodIn_app (goodIn_of _ (by decide +kernel)) ggX4_load_X4_isPlate
set_option maxRecDepth 20000 in
theorem ggX4_load_X4_in : GoodIn wsX4_load wsX4_in := goodIn_r _ [10] (by decide +kernel) (by decide +kernel)
set_option maxRecDepth 20000 in
theorem gX4_load_X4_in : GoodIn wsX4_load (va_wsS RX4 53 yX4_in wsX4_in) := goodIn_app (goodIn_of _ (by decide +kernel)) ggX4_load_X4_in
set_option maxRecDepth 20000 in
theorem ggX4_load_X4_changes : GoodIn wsX4_load wsX4_changes := goodIn_r _ [14, 15, 16, 17, 2, 18, 19, 20, 21, 22, 23, 24, 25, 26, 27, 28, 29, 30, 31, 32, 33, 34, 35, 36, 37, 38] (by decide +kernel) (by decide +kernel)
set_option maxRecDepth 20000 in
theorem gX4_load_X4_changes : GoodIn wsX4_load (wsV RX4 59 RX4 yX4_changes wsX4_changes) := goodIn_app (goodIn_of _ (by decide +kernel)) ggX4_load_X4_changes
theorem dX4_load_0 : decode cX4_load 0 = .ok (.aload_n 0, 1) := by decide +kernel
theorem dX4_load_1 : decode cX4_load 1 = .ok (.iload_n 1, 1) := by decide +kernel
theorem dX4_load_2 : decode cX4_load 2 = .ok (.invokevirtual 63, 3) := by decide +kernel
theorem dX4_load_5 : decode cX4_load 5 = .ok (.ifCond .eq 14, 3) := by decide +kernel
theorem dX4_load_8 : decode cX4_load 8 = .ok (.iload_n 2, 1) := by decide +kernel
theorem dX4_load_9 : decode cX4_load 9 = .ok (.bipush (-99), 2) := by decide +kernel
theorem dX4_load_11 : decode cX4_load 11 = .ok (.bipush 99, 2) := by decide +kernel
theorem dX4_load_13 : decode cX4_load 13 = .ok (.invokestatic 53, 3) := by decide +kernel
theorem dX4_load_16 : decode cX4_load 16 = .ok (.ifCond .ne 6, 3) := by decide +kernel
theorem dX4_load_19 : decode cX4_load 19 = .ok (.ldc 57, 2) := by decide +kernel
theorem dX4_load_21 : decode cX4_load 21 = .ok (.ireturn, 1) := by decide +kernel
theorem dX4_load_22 : decode cX4_load 22 = .ok (.aload_n 0, 1) := by decide +kernel
theorem dX4_load_23 : decode cX4_load 23 = .ok (.invokevirtual 59, 3) := by decide +kernel
theorem dX4_load_26 : decode cX4_load 26 = .ok (.aload_n 0, 1) := by decide +kernel
theorem dX4_load_27 : decode cX4_load 27 = .ok (.getfield 7, 3) := by decide +kernel
theorem dX4_load_30 : decode cX4_load 30 = .ok (.bipush 12, 2) := by decide +kernel
theorem dX4_load_32 : decode cX4_load 32 = .ok (.iload_n 1, 1) := by decide +kernel
theorem dX4_load_33 : decode cX4_load 33 = .ok (.iadd, 1) := by decide +kernel
theorem dX4_load_34 : decode cX4_load 34 = .ok (.iaload, 1) := by decide +kernel
theorem dX4_load_35 : decode cX4_load 35 = .ok (.istore_n 3, 1) := by decide +kernel
theorem dX4_load_36 : decode cX4_load 36 = .ok (.aload_n 0, 1) := by decide +kernel
theorem dX4_load_37 : decode cX4_load 37 = .ok (.getfield 7, 3) := by decide +kernel
theorem dX4_load_40 : decode cX4_load 40 = .ok (.bipush 12, 2) := by decide +kernel
theorem dX4_load_42 : decode cX4_load 42 = .ok (.iload_n 1, 1) := by decide +kernel
theorem dX4_load_43 : decode cX4_load 43 = .ok (.iadd, 1) := by decide +kernel
theorem dX4_load_44 : decode cX4_load 44 = .ok (.iload_n 2, 1) := by decide +kernel
theorem dX4_load_45 : decode cX4_load 45 = .ok (.iastore, 1) := by decide +kernel
theorem dX4_load_46 : decode cX4_load 46 = .ok (.iload_n 3, 1) := by decide +kernel
theorem dX4_load_47 : decode cX4_load 47 = .ok (.sipush 1000, 3) := by decide +kernel
theorem dX4_load_50 : decode cX4_load 50 = .ok (.iadd, 1) := by decide +kernel
theorem dX4_load_51 : decode cX4_load 51 = .ok (.ireturn, 1) := by decide +kernel
theorem dX4_stopAt_0 : decode cX4_stopAt 0 = .ok (.iload_n 2, 1) := by decide +kernel
theorem dX4_stopAt_1 : decode cX4_stopAt 1 = .ok (.ifCond .ne 8, 3) := by decide +kernel
theorem dX4_stopAt_4 : decode cX4_stopAt 4 = .ok (.bipush 16, 2) := by decide +kernel
theorem dX4_stopAt_6 : decode cX4_stopAt 6 = .ok (.goto 5, 3) := by decide +kernel
theorem dX4_stopAt_9 : decode cX4_stopAt 9 = .ok (.bipush 20, 2) := by decide +kernel
theorem dX4_stopAt_11 : decode cX4_stopAt 11 = .ok (.iload_n 1, 1) := by decide +kernel
theorem dX4_stopAt_12 : decode cX4_stopAt 12 = .ok (.iadd, 1) := by decide +kernel
theorem dX4_stopAt_13 : decode cX4_stopAt 13 = .ok (.ireturn, 1) := by decide +kernel
set_option maxRecDepth 20000 in
theorem ggX4_stop_X4_isPlate : GoodIn wsX4_stop wsX4_isPlate := goodIn_r _ [8, 1, 35, 36, 37, 38, 39, 40, 41, 42, 43, 44, 45, 46, 47, 48, 49, 50, 51, 52, 53, 54, 55] (by decide +kernel) (by decide +kernel)
set_option maxRecDepth 20000 in
theorem gX4_stop_X4_isPlate : GoodIn wsX4_stop (wsV RX4 63 RX4 yX4_isPlate wsX4_isPlate) := goodIn_app (goodIn_of _ (by decide +kernel)) ggX4_stop_X4_isPlate
set_option maxRecDepth 20000 in
theorem ggX4_stop_X4_in : GoodIn wsX4_stop wsX4_in := goodIn_r _ [11] (by decide +kernel) (by decide +kernel)
set_option maxRecDepth 20000 in
theorem gX4_stop_X4_in : GoodIn wsX4_stop (va_wsS RX4 53 yX4_in wsX4_in) := goodIn_app (goodIn_of _ (by decide +kernel)) ggX4_stop_X4_in
set_option maxRecDepth 20000 in
theorem ggX4_stop_X4_stopAt : GoodIn wsX4_stop wsX4_stopAt := goodIn_r _ [15] (by decide +kernel) (by decide +kernel)
set_option maxRecDepth 20000 in
theorem gX4_stop_X4_stopAt : GoodIn wsX4_stop (wsV RX4 70 RX4 yX4_stopAt wsX4_stopAt) := goodIn_app (goodIn_of _ (by decide +kernel)) ggX4_stop_X4_stopAt
set_option maxRecDepth 20000 in
theorem ggX4_stop_X4_isAllowed : GoodIn wsX4_stop wsX4_isAllowed := goodIn_r _ [19, 1, 20, 21, 22, 7, 23, 24, 25, 26, 27, 35, 36, 37, 38, 39, 40, 41, 42, 43, 44, 45, 46, 47, 48, 49, 50, 51, 52, 53, 54, 55] (by decide +kernel) (by decide +kernel)
set_option maxRecDepth 20000 in
theorem gX4_stop_X4_isAllowed : GoodIn wsX4_stop (wsV RX4 74 RX4 yX4_isAllowed wsX4_isAllowed) := goodIn_app (goodIn_of _ (by decide +kernel)) ggX4_stop_X4_isAllowed
set_option maxRecDepth 20000 in
theorem ggX4_stop_X4_changes : GoodIn wsX4_stop wsX4_changes := goodIn_r _ [31, 32, 33, 34, 1, 35, 36, 37, 38, 39, 40, 41, 42, 43, 44, 45, 46, 47, 48, 49, 50, 51, 52, 53, 54, 55] (by decide +kernel) (by decide +kernel)
set_option maxRecDepth 20000 in
theorem gX4_stop_X4_changes : GoodIn wsX4_stop (wsV RX4 59 RX4 yX4_changes wsX4_changes) := goodIn_app (goodIn_of _ (by decide +kernel)) ggX4_stop_X4_changes
theorem dX4_stop_0 : decode cX4_stop 0 = .ok (.aload_n 0, 1) := by decide +kernel
theorem dX4_stop_1 : decode cX4_stop 1 = .ok (.iload_n 1, 1) := by decide +kernel
theorem dX4_stop_2 : decode cX4_stop 2 = .ok (.invokevirtual 63, 3) := by decide +kernel
theorem dX4_stop_5 : decode cX4_stop 5 = .ok (.ifCond .eq 26, 3) := by decide +kernel
theorem dX4_stop_8 : decode cX4_stop 8 = .ok (.iload_n 2, 1) := by decide +kernel
theorem dX4_stop_9 : decode cX4_stop 9 = .ok (.iconst 0, 1) := by decide +kernel
theorem dX4_stop_10 : decode cX4_stop 10 = .ok (.iconst 1, 1) := by decide +kernel
theorem dX4_stop_11 : decode cX4_stop 11 = .ok (.invokestatic 53, 3) := by decide +kernel
theorem dX4_stop_14 : decode cX4_stop 14 = .ok (.ifCond .eq 17, 3) := by decide +kernel
theorem dX4_stop_17 : decode cX4_stop 17 = .ok (.iload_n 3, 1) := by decide +kernel
theorem dX4_stop_18 : decode cX4_stop 18 = .ok (.iconst 0, 1) := by decide +kernel
theorem dX4_stop_19 : decode cX4_stop 19 = .ok (.aload_n 0, 1) := by decide +kernel
theorem dX4_stop_20 : decode cX4_stop 20 = .ok (.getfield 7, 3) := by decide +kernel
theorem dX4_stop_23 : decode cX4_stop 23 = .ok (.iconst 0, 1) := by decide +kernel
theorem dX4_stop_24 : decode cX4_stop 24 = .ok (.iaload, 1) := by decide +kernel
theorem dX4_stop_25 : decode cX4_stop 25 = .ok (.invokestatic 53, 3) := by decide +kernel
theorem dX4_stop_28 : decode cX4_stop 28 = .ok (.ifCond .ne 6, 3) := by decide +kernel
theorem dX4_stop_31 : decode cX4_stop 31 = .ok (.ldc 57, 2) := by decide +kernel
theorem dX4_stop_33 : decode cX4_stop 33 = .ok (.ireturn, 1) := by decide +kernel
theorem dX4_stop_34 : decode cX4_stop 34 = .ok (.aload_n 0, 1) := by decide +kernel
theorem dX4_stop_35 : decode cX4_stop 35 = .ok (.iload_n 1, 1) := by decide +kernel
theorem dX4_stop_36 : decode cX4_stop 36 = .ok (.iload_n 2, 1) := by decide +kernel
theorem dX4_stop_37 : decode cX4_stop 37 = .ok (.invokevirtual 70, 3) := by decide +kernel
theorem dX4_stop_40 : decode cX4_stop 40 = .ok (.istore 4, 2) := by decide +kernel
theorem dX4_stop_42 : decode cX4_stop 42 = .ok (.aload_n 0, 1) := by decide +kernel
theorem dX4_stop_43 : decode cX4_stop 43 = .ok (.getfield 7, 3) := by decide +kernel
theorem dX4_stop_46 : decode cX4_stop 46 = .ok (.iload 4, 2) := by decide +kernel
theorem dX4_stop_48 : decode cX4_stop 48 = .ok (.iaload, 1) := by decide +kernel
theorem dX4_stop_49 : decode cX4_stop 49 = .ok (.istore 5, 2) := by decide +kernel
theorem dX4_stop_51 : decode cX4_stop 51 = .ok (.aload_n 0, 1) := by decide +kernel
theorem dX4_stop_52 : decode cX4_stop 52 = .ok (.getfield 7, 3) := by decide +kernel
theorem dX4_stop_55 : decode cX4_stop 55 = .ok (.iload 4, 2) := by decide +kernel
theorem dX4_stop_57 : decode cX4_stop 57 = .ok (.iload_n 3, 1) := by decide +kernel
theorem dX4_stop_58 : decode cX4_stop 58 = .ok (.iastore, 1) := by decide +kernel
theorem dX4_stop_59 : decode cX4_stop 59 = .ok (.aload_n 0, 1) := by decide +kernel
theorem dX4_stop_60 : decode cX4_stop 60 = .ok (.invokevirtual 74, 3) := by decide +kernel
theorem dX4_stop_63 : decode cX4_stop 63 = .ok (.istore 6, 2) := by decide +kernel
theorem dX4_stop_65 : decode cX4_stop 65 = .ok (.aload_n 0, 1) := by decide +kernel
theorem dX4_stop_66 : decode cX4_stop 66 = .ok (.getfield 7, 3) := by decide +kernel
theorem dX4_stop_69 : decode cX4_stop 69 = .ok (.iload 4, 2) := by decide +kernel
theorem dX4_stop_71 : decode cX4_stop 71 = .ok (.iload 5, 2) := by decide +kernel
theorem dX4_stop_73 : decode cX4_stop 73 = .ok (.iastore, 1) := by decide +kernel
theorem dX4_stop_74 : decode cX4_stop 74 = .ok (.iload 6, 2) := by decide +kernel
theorem dX4_stop_76 : decode cX4_stop 76 = .ok (.ifCond .ne 6, 3) := by decide +kernel
theorem dX4_stop_79 : decode cX4_stop 79 = .ok (.ldc 58, 2) := by decide +kernel
theorem dX4_stop_81 : decode cX4_stop 81 = .ok (.ireturn, 1) := by decide +kernel
theorem dX4_stop_82 : decode cX4_stop 82 = .ok (.aload_n 0, 1) := by decide +kernel
theorem dX4_stop_83 : decode cX4_stop 83 = .ok (.invokevirtual 59, 3) := by decide +kernel
theorem dX4_stop_86 : decode cX4_stop 86 = .ok (.aload_n 0, 1) := by decide +kernel
theorem dX4_stop_87 : decode cX4_stop 87 = .ok (.getfield 7, 3) := by decide +kernel
theorem dX4_stop_90 : decode cX4_stop 90 = .ok (.iload 4, 2) := by decide +kernel
theorem dX4_stop_92 : decode cX4_stop 92 = .ok (.iload_n 3, 1) := by decide +kernel
theorem dX4_stop_93 : decode cX4_stop 93 = .ok (.iastore, 1) := by decide +kernel
theorem dX4_stop_94 : decode cX4_stop 94 = .ok (.iload 5, 2) := by decide +kernel
theorem dX4_stop_96 : decode cX4_stop 96 = .ok (.ireturn, 1) := by decide +kernel
set_option maxRecDepth 20000 in
theorem ggX4_unstop_X4_isPlate : GoodIn wsX4_unstop wsX4_isPlate := goodIn_r _ [8, 2, 23, 24, 25, 26, 27, 28, 29, 30, 31, 32, 33, 34, 35, 36, 37, 38, 39, 40, 41, 42, 43] (by decide +kernel) (by decide +kernel)
set_option maxRecDepth 20000 in
theorem gX4_unstop_X4_isPlate : GoodIn wsX4_unstop (wsV RX4 63 RX4 yX4_isPlate wsX4_isPlate) := goodIn_app (goodIn_of _ (by decide +kernel)) ggX4_unstop_X4_isPlate
set_option maxRecDepth 20000 in
theorem ggX4_unstop_X4_in : GoodIn wsX4_unstop wsX4_in := goodIn_r _ [11] (by decide +kernel) (by decide +kernel)
set_option maxRecDepth 20000 in
theorem gX4_unstop_X4_in : GoodIn wsX4_unstop (va_wsS RX4 53 yX4_in wsX4_in) := goodIn_app (goodIn_of _ (by decide +kernel)) ggX4_unstop_X4_in
set_option maxRecDepth 20000 in
theorem ggX4_unstop_X4_stopAt : GoodIn wsX4_unstop wsX4_stopAt := goodIn_r _ [15] (by decide +kernel) (by decide +kernel)
set_option maxRecDepth 20000 in
theorem gX4_unstop_X4_stopAt : GoodIn wsX4_unstop (wsV RX4 70 RX4 yX4_stopAt wsX4_stopAt) := goodIn_app (goodIn_of _ (by decide +kernel)) ggX4_unstop_X4_stopAt
set_option maxRecDepth 20000 in
theorem ggX4_unstop_X4_changes : GoodIn wsX4_unstop wsX4_changes := goodIn_r _ [19, 20, 21, 22, 2, 23, 24, 25, 26, 27, 28, 29, 30, 31, 32, 33, 34, 35, 36, 37, 38, 39, 40, 41, 42, 43] (by decide +kernel) (by decide +kernel)
set_option maxRecDepth 20000 in
theorem gX4_unstop_X4_changes : GoodIn wsX4_unstop (wsV RX4 59 RX4 yX4_changes wsX4_changes) := goodIn_app (goodIn_of _ (by decide +kernel)) ggX4_unstop_X4_changes
theorem dX4_unstop_0 : decode cX4_unstop 0 = .ok (.aload_n 0, 1) := by decide +kernel
theorem dX4_unstop_1 : decode cX4_unstop 1 = .ok (.iload_n 1, 1) := by decide +kernel
theorem dX4_unstop_2 : decode cX4_unstop 2 = .ok (.invokevirtual 63, 3) := by decide +kernel
theorem dX4_unstop_5 : decode cX4_unstop 5 = .ok (.ifCond .eq 12, 3) := by decide +kernel
theorem dX4_unstop_8 : decode cX4_unstop 8 = .ok (.iload_n 2, 1) := by decide +kernel
theorem dX4_unstop_9 : decode cX4_unstop 9 = .ok (.iconst 0, 1) := by decide +kernel
theorem dX4_unstop_10 : decode cX4_unstop 10 = .ok (.iconst 1, 1) := by decide +kernel
theorem dX4_unstop_11 : decode cX4_unstop 11 = .ok (.invokestatic 53, 3) := by decide +kernel
theorem dX4_unstop_14 : decode cX4_unstop 14 = .ok (.ifCond .ne 6, 3) := by decide +kernel
theorem dX4_unstop_17 : decode cX4_unstop 17 = .ok (.ldc 57, 2) := by decide +kernel
theorem dX4_unstop_19 : decode cX4_unstop 19 = .ok (.ireturn, 1) := by decide +kernel
theorem dX4_unstop_20 : decode cX4_unstop 20 = .ok (.aload_n 0, 1) := by decide +kernel
theorem dX4_unstop_21 : decode cX4_unstop 21 = .ok (.iload_n 1, 1) := by decide +kernel
theorem dX4_unstop_22 : decode cX4_unstop 22 = .ok (.iload_n 2, 1) := by decide +kernel
theorem dX4_unstop_23 : decode cX4_unstop 23 = .ok (.invokevirtual 70, 3) := by decide +kernel
theorem dX4_unstop_26 : decode cX4_unstop 26 = .ok (.istore_n 3, 1) := by decide +kernel
theorem dX4_unstop_27 : decode cX4_unstop 27 = .ok (.aload_n 0, 1) := by decide +kernel
theorem dX4_unstop_28 : decode cX4_unstop 28 = .ok (.getfield 7, 3) := by decide +kernel
theorem dX4_unstop_31 : decode cX4_unstop 31 = .ok (.iload_n 3, 1) := by decide +kernel
theorem dX4_unstop_32 : decode cX4_unstop 32 = .ok (.iaload, 1) := by decide +kernel
theorem dX4_unstop_33 : decode cX4_unstop 33 = .ok (.istore 4, 2) := by decide +kernel
theorem dX4_unstop_35 : decode cX4_unstop 35 = .ok (.iload 4, 2) := by decide +kernel
theorem dX4_unstop_37 : decode cX4_unstop 37 = .ok (.ifCond .ge 6, 3) := by decide +kernel
theorem dX4_unstop_40 : decode cX4_unstop 40 = .ok (.ldc 58, 2) := by decide +kernel
theorem dX4_unstop_42 : decode cX4_unstop 42 = .ok (.ireturn, 1) := by decide +kernel
theorem dX4_unstop_43 : decode cX4_unstop 43 = .ok (.aload_n 0, 1) := by decide +kernel
theorem dX4_unstop_44 : decode cX4_unstop 44 = .ok (.invokevirtual 59, 3) := by decide +kernel
theorem dX4_unstop_47 : decode cX4_unstop 47 = .ok (.aload_n 0, 1) := by decide +kernel
theorem dX4_unstop_48 : decode cX4_unstop 48 = .ok (.getfield 7, 3) := by decide +kernel
theorem dX4_unstop_51 : decode cX4_unstop 51 = .ok (.iload_n 3, 1) := by decide +kernel
theorem dX4_unstop_52 : decode cX4_unstop 52 = .ok (.iconst (-1), 1) := by decide +kernel
theorem dX4_unstop_53 : decode cX4_unstop 53 = .ok (.iastore, 1) := by decide +kernel
theorem dX4_unstop_54 : decode cX4_unstop 54 = .ok (.iload 4, 2) := by decide +kernel
theorem dX4_unstop_56 : decode cX4_unstop 56 = .ok (.ireturn, 1) := by decide +kernel
set_option maxRecDepth 20000 in
theorem ggX4_plateOf_X4_isPlate : GoodIn wsX4_plateOf wsX4_isPlate := goodIn_r _ [8, 2, 16, 17, 18, 19, 20, 21, 22, 23, 24, 25, 26, 27, 28, 29, 30, 31, 32, 33, 34, 35, 36] (by decide +kernel) (by decide +kernel)
set_option maxRecDepth 20000 in
theorem gX4_plateOf_X4_isPlate : GoodIn wsX4_plateOf (wsV RX4 63 RX4 yX4_isPlate wsX4_isPlate) := goodIn_app (goodIn_of _ (by decide +kernel)) ggX4_plateOf_X4_isPlate
set_option maxRecDepth 20000 in
theorem ggX4_plateOf_X4_in : GoodIn wsX4_plateOf wsX4_in := goodIn_r _ [11] (by decide +kernel) (by decide +kernel)
set_option maxRecDepth 20000 in
theorem gX4_plateOf_X4_in : GoodIn wsX4_plateOf (va_wsS RX4 53 yX4_in wsX4_in) := goodIn_app (goodIn_of _ (by decide +kernel)) ggX4_plateOf_X4_in
set_option maxRecDepth 20000 in
theorem ggX4_plateOf_X4_stopAt : GoodIn wsX4_plateOf wsX4_stopAt := goodIn_r _ [15] (by decide +kernel) (by decide +kernel)
set_option maxRecDepth 20000 in
theorem gX4_plateOf_X4_stopAt : GoodIn wsX4_plateOf (wsV RX4 70 RX4 yX4_stopAt wsX4_stopAt) := goodIn_app (goodIn_of _ (by decide +kernel)) ggX4_plateOf_X4_stopAt
theorem dX4_plateOf_0 : decode cX4_plateOf 0 = .ok (.aload_n 0, 1) := by decide +kernel
theorem dX4_plateOf_1 : decode cX4_plateOf 1 = .ok (.iload_n 1, 1) := by decide +kernel
theorem dX4_plateOf_2 : decode cX4_plateOf 2 = .ok (.invokevirtual 63, 3) := by decide +kernel
theorem dX4_plateOf_5 : decode cX4_plateOf 5 = .ok (.ifCond .eq 13, 3) := by decide +kernel
theorem dX4_plateOf_8 : decode cX4_plateOf 8 = .ok (.iload_n 2, 1) := by decide +kernel
theorem dX4_plateOf_9 : decode cX4_plateOf 9 = .ok (.iconst 0, 1) := by decide +kernel
theorem dX4_plateOf_10 : decode cX4_plateOf 10 = .ok (.bipush 6, 2) := by decide +kernel
theorem dX4_plateOf_12 : decode cX4_plateOf 12 = .ok (.invokestatic 53, 3) := by decide +kernel
theorem dX4_plateOf_15 : decode cX4_plateOf 15 = .ok (.ifCond .ne 6, 3) := by decide +kernel
theorem dX4_plateOf_18 : decode cX4_plateOf 18 = .ok (.ldc 57, 2) := by decide +kernel
theorem dX4_plateOf_20 : decode cX4_plateOf 20 = .ok (.ireturn, 1) := by decide +kernel
theorem dX4_plateOf_21 : decode cX4_plateOf 21 = .ok (.iload_n 2, 1) := by decide +kernel
theorem dX4_plateOf_22 : decode cX4_plateOf 22 = .ok (.tableswitch 75 0 2 #[26, 40, 40], 26) := by decide +kernel
theorem dX4_plateOf_48 : decode cX4_plateOf 48 = .ok (.aload_n 0, 1) := by decide +kernel
theorem dX4_plateOf_49 : decode cX4_plateOf 49 = .ok (.getfield 7, 3) := by decide +kernel
theorem dX4_plateOf_52 : decode cX4_plateOf 52 = .ok (.bipush 12, 2) := by decide +kernel
theorem dX4_plateOf_54 : decode cX4_plateOf 54 = .ok (.iload_n 1, 1) := by decide +kernel
theorem dX4_plateOf_55 : decode cX4_plateOf 55 = .ok (.iadd, 1) := by decide +kernel
theorem dX4_plateOf_56 : decode cX4_plateOf 56 = .ok (.iaload, 1) := by decide +kernel
theorem dX4_plateOf_57 : decode cX4_plateOf 57 = .ok (.sipush 1000, 3) := by decide +kernel
theorem dX4_plateOf_60 : decode cX4_plateOf 60 = .ok (.iadd, 1) := by decide +kernel
theorem dX4_plateOf_61 : decode cX4_plateOf 61 = .ok (.ireturn, 1) := by decide +kernel
theorem dX4_plateOf_62 : decode cX4_plateOf 62 = .ok (.aload_n 0, 1) := by decide +kernel
theorem dX4_plateOf_63 : decode cX4_plateOf 63 = .ok (.getfield 7, 3) := by decide +kernel
theorem dX4_plateOf_66 : decode cX4_plateOf 66 = .ok (.aload_n 0, 1) := by decide +kernel
theorem dX4_plateOf_67 : decode cX4_plateOf 67 = .ok (.iload_n 1, 1) := by decide +kernel
theorem dX4_plateOf_68 : decode cX4_plateOf 68 = .ok (.iload_n 2, 1) := by decide +kernel
theorem dX4_plateOf_69 : decode cX4_plateOf 69 = .ok (.iconst 1, 1) := by decide +kernel
theorem dX4_plateOf_70 : decode cX4_plateOf 70 = .ok (.isub, 1) := by decide +kernel
theorem dX4_plateOf_71 : decode cX4_plateOf 71 = .ok (.invokevirtual 70, 3) := by decide +kernel
theorem dX4_plateOf_74 : decode cX4_plateOf 74 = .ok (.iaload, 1) := by decide +kernel
theorem dX4_plateOf_75 : decode cX4_plateOf 75 = .ok (.ifCond .ge 8, 3) := by decide +kernel
theorem dX4_plateOf_78 : decode cX4_plateOf 78 = .ok (.ldc 78, 2) := by decide +kernel
theorem dX4_plateOf_80 : decode cX4_plateOf 80 = .ok (.goto 16, 3) := by decide +kernel
theorem dX4_plateOf_83 : decode cX4_plateOf 83 = .ok (.aload_n 0, 1) := by decide +kernel
theorem dX4_plateOf_84 : decode cX4_plateOf 84 = .ok (.getfield 7, 3) := by decide +kernel
theorem dX4_plateOf_87 : decode cX4_plateOf 87 = .ok (.aload_n 0, 1) := by decide +kernel
theorem dX4_plateOf_88 : decode cX4_plateOf 88 = .ok (.iload_n 1, 1) := by decide +kernel
theorem dX4_plateOf_89 : decode cX4_plateOf 89 = .ok (.iload_n 2, 1) := by decide +kernel
theorem dX4_plateOf_90 : decode cX4_plateOf 90 = .ok (.iconst 1, 1) := by decide +kernel
theorem dX4_plateOf_91 : decode cX4_plateOf 91 = .ok (.isub, 1) := by decide +kernel
theorem dX4_plateOf_92 : decode cX4_plateOf 92 = .ok (.invokevirtual 70, 3) := by decide +kernel
theorem dX4_plateOf_95 : decode cX4_plateOf 95 = .ok (.iaload, 1) := by decide +kernel
theorem dX4_plateOf_96 : decode cX4_plateOf 96 = .ok (.ireturn, 1) := by decide +kernel
theorem dX4_plateOf_97 : decode cX4_plateOf 97 = .ok (.aload_n 0, 1) := by decide +kernel
theorem dX4_plateOf_98 : decode cX4_plateOf 98 = .ok (.getfield 7, 3) := by decide +kernel
theorem dX4_plateOf_101 : decode cX4_plateOf 101 = .ok (.iload_n 2, 1) := by decide +kernel
theorem dX4_plateOf_102 : decode cX4_plateOf 102 = .ok (.iconst 2, 1) := by decide +kernel
theorem dX4_plateOf_103 : decode cX4_plateOf 103 = .ok (.irem, 1) := by decide +kernel
theorem dX4_plateOf_104 : decode cX4_plateOf 104 = .ok (.iconst 1, 1) := by decide +kernel
theorem dX4_plateOf_105 : decode cX4_plateOf 105 = .ok (.if_icmp .ne 7, 3) := by decide +kernel
theorem dX4_plateOf_108 : decode cX4_plateOf 108 = .ok (.iconst 2, 1) := by decide +kernel
theorem dX4_plateOf_109 : decode cX4_plateOf 109 = .ok (.goto 5, 3) := by decide +kernel
theorem dX4_plateOf_112 : decode cX4_plateOf 112 = .ok (.bipush 7, 2) := by decide +kernel
theorem dX4_plateOf_114 : decode cX4_plateOf 114 = .ok (.iload_n 1, 1) := by decide +kernel
theorem dX4_plateOf_115 : decode cX4_plateOf 115 = .ok (.iadd, 1) := by decide +kernel
theorem dX4_plateOf_116 : decode cX4_plateOf 116 = .ok (.iload_n 2, 1) := by decide +kernel
theorem dX4_plateOf_117 : decode cX4_plateOf 117 = .ok (.iconst 3, 1) := by decide +kernel
theorem dX4_plateOf_118 : decode cX4_plateOf 118 = .ok (.isub, 1) := by decide +kernel
theorem dX4_plateOf_119 : decode cX4_plateOf 119 = .ok (.iconst 2, 1) := by decide +kernel
theorem dX4_plateOf_120 : decode cX4_plateOf 120 = .ok (.idiv, 1) := by decide +kernel
theorem dX4_plateOf_121 : decode cX4_plateOf 121 = .ok (.iadd, 1) := by decide +kernel
theorem dX4_plateOf_122 : decode cX4_plateOf 122 = .ok (.iaload, 1) := by decide +kernel
theorem dX4_plateOf_123 : decode cX4_plateOf 123 = .ok (.ireturn, 1) := by decide +kernel
theorem dX4_at_0 : decode cX4_at 0 = .ok (.iload_n 1, 1) := by decide +kernel
theorem dX4_at_1 : decode cX4_at 1 = .ok (.ifCond .ge 7, 3) := by decide +kernel
theorem dX4_at_4 : decode cX4_at 4 = .ok (.lconst 0, 1) := by decide +kernel
theorem dX4_at_5 : decode cX4_at 5 = .ok (.goto 34, 3) := by decide +kernel
theorem dX4_at_8 : decode cX4_at 8 = .ok (.iload_n 1, 1) := by decide +kernel
theorem dX4_at_9 : decode cX4_at 9 = .ok (.aload_n 0, 1) := by decide +kernel
theorem dX4_at_10 : decode cX4_at 10 = .ok (.getfield 7, 3) := by decide +kernel
theorem dX4_at_13 : decode cX4_at 13 = .ok (.iconst 1, 1) := by decide +kernel
theorem dX4_at_14 : decode cX4_at 14 = .ok (.iaload, 1) := by decide +kernel
theorem dX4_at_15 : decode cX4_at 15 = .ok (.if_icmp .ne 18, 3) := by decide +kernel
theorem dX4_at_18 : decode cX4_at 18 = .ok (.aload_n 0, 1) := by decide +kernel
theorem dX4_at_19 : decode cX4_at 19 = .ok (.getfield 7, 3) := by decide +kernel
theorem dX4_at_22 : decode cX4_at 22 = .ok (.iconst 0, 1) := by decide +kernel
theorem dX4_at_23 : decode cX4_at 23 = .ok (.iaload, 1) := by decide +kernel
theorem dX4_at_24 : decode cX4_at 24 = .ok (.i2l, 1) := by decide +kernel
theorem dX4_at_25 : decode cX4_at 25 = .ok (.aload_n 0, 1) := by decide +kernel
theorem dX4_at_26 : decode cX4_at 26 = .ok (.getfield 79, 3) := by decide +kernel
theorem dX4_at_29 : decode cX4_at 29 = .ok (.lmul, 1) := by decide +kernel
theorem dX4_at_30 : decode cX4_at 30 = .ok (.goto 9, 3) := by decide +kernel
theorem dX4_at_33 : decode cX4_at 33 = .ok (.aload_n 0, 1) := by decide +kernel
theorem dX4_at_34 : decode cX4_at 34 = .ok (.getfield 22, 3) := by decide +kernel
theorem dX4_at_37 : decode cX4_at 37 = .ok (.iload_n 1, 1) := by decide +kernel
theorem dX4_at_38 : decode cX4_at 38 = .ok (.laload, 1) := by decide +kernel
theorem dX4_at_39 : decode cX4_at 39 = .ok (.lreturn, 1) := by decide +kernel
set_option maxRecDepth 20000 in
theorem ggX4_pullOf_X4_at : GoodIn wsX4_pullOf wsX4_at := goodIn_r _ [7, 1, 2, 8, 9, 10, 11, 12, 13, 14, 15, 16, 17, 18, 19, 20, 21, 22, 23, 24, 25, 26, 27, 28, 29] (by decide +kernel) (by decide +kernel)
set_option maxRecDepth 20000 in
theorem gX4_pullOf_X4_at : GoodIn wsX4_pullOf (wsV RX4 83 RX4 yX4_at wsX4_at) := goodIn_app (goodIn_of _ (by decide +kernel)) ggX4_pullOf_X4_at
theorem dX4_pullOf_0 : decode cX4_pullOf 0 = .ok (.aload_n 0, 1) := by decide +kernel
theorem dX4_pullOf_1 : decode cX4_pullOf 1 = .ok (.getfield 7, 3) := by decide +kernel
theorem dX4_pullOf_4 : decode cX4_pullOf 4 = .ok (.iconst 2, 1) := by decide +kernel
theorem dX4_pullOf_5 : decode cX4_pullOf 5 = .ok (.iload_n 1, 1) := by decide +kernel
theorem dX4_pullOf_6 : decode cX4_pullOf 6 = .ok (.iadd, 1) := by decide +kernel
theorem dX4_pullOf_7 : decode cX4_pullOf 7 = .ok (.iaload, 1) := by decide +kernel
theorem dX4_pullOf_8 : decode cX4_pullOf 8 = .ok (.i2l, 1) := by decide +kernel
theorem dX4_pullOf_9 : decode cX4_pullOf 9 = .ok (.aload_n 0, 1) := by decide +kernel
theorem dX4_pullOf_10 : decode cX4_pullOf 10 = .ok (.iload_n 1, 1) := by decide +kernel
theorem dX4_pullOf_11 : decode cX4_pullOf 11 = .ok (.invokevirtual 83, 3) := by decide +kernel
theorem dX4_pullOf_14 : decode cX4_pullOf 14 = .ok (.aload_n 0, 1) := by decide +kernel
theorem dX4_pullOf_15 : decode cX4_pullOf 15 = .ok (.iload_n 1, 1) := by decide +kernel
theorem dX4_pullOf_16 : decode cX4_pullOf 16 = .ok (.iconst 1, 1) := by decide +kernel
theorem dX4_pullOf_17 : decode cX4_pullOf 17 = .ok (.isub, 1) := by decide +kernel
theorem dX4_pullOf_18 : decode cX4_pullOf 18 = .ok (.invokevirtual 83, 3) := by decide +kernel
theorem dX4_pullOf_21 : decode cX4_pullOf 21 = .ok (.lsub, 1) := by decide +kernel
theorem dX4_pullOf_22 : decode cX4_pullOf 22 = .ok (.aload_n 0, 1) := by decide +kernel
theorem dX4_pullOf_23 : decode cX4_pullOf 23 = .ok (.getfield 7, 3) := by decide +kernel
theorem dX4_pullOf_26 : decode cX4_pullOf 26 = .ok (.bipush 7, 2) := by decide +kernel
theorem dX4_pullOf_28 : decode cX4_pullOf 28 = .ok (.iload_n 1, 1) := by decide +kernel
theorem dX4_pullOf_29 : decode cX4_pullOf 29 = .ok (.iadd, 1) := by decide +kernel
theorem dX4_pullOf_30 : decode cX4_pullOf 30 = .ok (.iaload, 1) := by decide +kernel
theorem dX4_pullOf_31 : decode cX4_pullOf 31 = .ok (.i2l, 1) := by decide +kernel
theorem dX4_pullOf_32 : decode cX4_pullOf 32 = .ok (.aload_n 0, 1) := by decide +kernel
theorem dX4_pullOf_33 : decode cX4_pullOf 33 = .ok (.getfield 79, 3) := by decide +kernel
theorem dX4_pullOf_36 : decode cX4_pullOf 36 = .ok (.lmul, 1) := by decide +kernel
theorem dX4_pullOf_37 : decode cX4_pullOf 37 = .ok (.lsub, 1) := by decide +kernel
theorem dX4_pullOf_38 : decode cX4_pullOf 38 = .ok (.lmul, 1) := by decide +kernel
theorem dX4_pullOf_39 : decode cX4_pullOf 39 = .ok (.lreturn, 1) := by decide +kernel
set_option maxRecDepth 20000 in
theorem ggX4_force_X4_pullOf : GoodIn wsX4_force wsX4_pullOf := goodIn_r _ [7, 1, 2, 8, 9, 10, 6, 11, 12, 13, 14, 15, 16, 17, 18, 19, 20, 21, 22, 23, 24, 25, 26, 27, 28, 29, 30, 31, 32, 33] (by decide +kernel) (by decide +kernel)
set_option maxRecDepth 20000 in
theorem gX4_force_X4_pullOf : GoodIn wsX4_force (wsV RX4 87 RX4 yX4_pullOf wsX4_pullOf) := goodIn_app (goodIn_of _ (by decide +kernel)) ggX4_force_X4_pullOf
theorem dX4_force_0 : decode cX4_force 0 = .ok (.aload_n 0, 1) := by decide +kernel
theorem dX4_force_1 : decode cX4_force 1 = .ok (.iload_n 1, 1) := by decide +kernel
theorem dX4_force_2 : decode cX4_force 2 = .ok (.iconst 1, 1) := by decide +kernel
theorem dX4_force_3 : decode cX4_force 3 = .ok (.iadd, 1) := by decide +kernel
theorem dX4_force_4 : decode cX4_force 4 = .ok (.invokevirtual 87, 3) := by decide +kernel
theorem dX4_force_7 : decode cX4_force 7 = .ok (.aload_n 0, 1) := by decide +kernel
theorem dX4_force_8 : decode cX4_force 8 = .ok (.iload_n 1, 1) := by decide +kernel
theorem dX4_force_9 : decode cX4_force 9 = .ok (.invokevirtual 87, 3) := by decide +kernel
theorem dX4_force_12 : decode cX4_force 12 = .ok (.lsub, 1) := by decide +kernel
theorem dX4_force_13 : decode cX4_force 13 = .ok (.aload_n 0, 1) := by decide +kernel
theorem dX4_force_14 : decode cX4_force 14 = .ok (.getfield 7, 3) := by decide +kernel
theorem dX4_force_17 : decode cX4_force 17 = .ok (.bipush 12, 2) := by decide +kernel
theorem dX4_force_19 : decode cX4_force 19 = .ok (.iload_n 1, 1) := by decide +kernel
theorem dX4_force_20 : decode cX4_force 20 = .ok (.iadd, 1) := by decide +kernel
theorem dX4_force_21 : decode cX4_force 21 = .ok (.iaload, 1) := by decide +kernel
theorem dX4_force_22 : decode cX4_force 22 = .ok (.i2l, 1) := by decide +kernel
theorem dX4_force_23 : decode cX4_force 23 = .ok (.aload_n 0, 1) := by decide +kernel
theorem dX4_force_24 : decode cX4_force 24 = .ok (.getfield 79, 3) := by decide +kernel
theorem dX4_force_27 : decode cX4_force 27 = .ok (.lmul, 1) := by decide +kernel
theorem dX4_force_28 : decode cX4_force 28 = .ok (.ladd, 1) := by decide +kernel
theorem dX4_force_29 : decode cX4_force 29 = .ok (.lreturn, 1) := by decide +kernel
theorem dX4_parts_0 : decode cX4_parts 0 = .ok (.aload_n 0, 1) := by decide +kernel
theorem dX4_parts_1 : decode cX4_parts 1 = .ok (.iconst 0, 1) := by decide +kernel
theorem dX4_parts_2 : decode cX4_parts 2 = .ok (.putfield 90, 3) := by decide +kernel
theorem dX4_parts_5 : decode cX4_parts 5 = .ok (.iconst 0, 1) := by decide +kernel
theorem dX4_parts_6 : decode cX4_parts 6 = .ok (.istore_n 2, 1) := by decide +kernel
theorem dX4_parts_7 : decode cX4_parts 7 = .ok (.iload_n 2, 1) := by decide +kernel
theorem dX4_parts_8 : decode cX4_parts 8 = .ok (.aload_n 0, 1) := by decide +kernel
theorem dX4_parts_9 : decode cX4_parts 9 = .ok (.getfield 7, 3) := by decide +kernel
theorem dX4_parts_12 : decode cX4_parts 12 = .ok (.iconst 1, 1) := by decide +kernel
theorem dX4_parts_13 : decode cX4_parts 13 = .ok (.iaload, 1) := by decide +kernel
theorem dX4_parts_14 : decode cX4_parts 14 = .ok (.if_icmp .ge 43, 3) := by decide +kernel
theorem dX4_parts_17 : decode cX4_parts 17 = .ok (.iload_n 2, 1) := by decide +kernel
theorem dX4_parts_18 : decode cX4_parts 18 = .ok (.ifCond .eq 13, 3) := by decide +kernel
theorem dX4_parts_21 : decode cX4_parts 21 = .ok (.iload_n 1, 1) := by decide +kernel
theorem dX4_parts_22 : decode cX4_parts 22 = .ok (.iload_n 2, 1) := by decide +kernel
theorem dX4_parts_23 : decode cX4_parts 23 = .ok (.iconst 1, 1) := by decide +kernel
theorem dX4_parts_24 : decode cX4_parts 24 = .ok (.isub, 1) := by decide +kernel
theorem dX4_parts_25 : decode cX4_parts 25 = .ok (.ishr, 1) := by decide +kernel
theorem dX4_parts_26 : decode cX4_parts 26 = .ok (.iconst 1, 1) := by decide +kernel
theorem dX4_parts_27 : decode cX4_parts 27 = .ok (.iand, 1) := by decide +kernel
theorem dX4_parts_28 : decode cX4_parts 28 = .ok (.ifCond .ne 23, 3) := by decide +kernel
theorem dX4_parts_31 : decode cX4_parts 31 = .ok (.aload_n 0, 1) := by decide +kernel
theorem dX4_parts_32 : decode cX4_parts 32 = .ok (.getfield 26, 3) := by decide +kernel
theorem dX4_parts_35 : decode cX4_parts 35 = .ok (.aload_n 0, 1) := by decide +kernel
theorem dX4_parts_36 : decode cX4_parts 36 = .ok (.getfield 90, 3) := by decide +kernel
theorem dX4_parts_39 : decode cX4_parts 39 = .ok (.iload_n 2, 1) := by decide +kernel
theorem dX4_parts_40 : decode cX4_parts 40 = .ok (.iastore, 1) := by decide +kernel
theorem dX4_parts_41 : decode cX4_parts 41 = .ok (.aload_n 0, 1) := by decide +kernel
theorem dX4_parts_42 : decode cX4_parts 42 = .ok (.dup, 1) := by decide +kernel
theorem dX4_parts_43 : decode cX4_parts 43 = .ok (.getfield 90, 3) := by decide +kernel
theorem dX4_parts_46 : decode cX4_parts 46 = .ok (.iconst 1, 1) := by decide +kernel
theorem dX4_parts_47 : decode cX4_parts 47 = .ok (.iadd, 1) := by decide +kernel
theorem dX4_parts_48 : decode cX4_parts 48 = .ok (.putfield 90, 3) := by decide +kernel
theorem dX4_parts_51 : decode cX4_parts 51 = .ok (.iinc 2 1, 3) := by decide +kernel
theorem dX4_parts_54 : decode cX4_parts 54 = .ok (.goto (-47), 3) := by decide +kernel
theorem dX4_parts_57 : decode cX4_parts 57 = .ok (.aload_n 0, 1) := by decide +kernel
theorem dX4_parts_58 : decode cX4_parts 58 = .ok (.getfield 26, 3) := by decide +kernel
theorem dX4_parts_61 : decode cX4_parts 61 = .ok (.aload_n 0, 1) := by decide +kernel
theorem dX4_parts_62 : decode cX4_parts 62 = .ok (.getfield 90, 3) := by decide +kernel
theorem dX4_parts_65 : decode cX4_parts 65 = .ok (.aload_n 0, 1) := by decide +kernel
theorem dX4_parts_66 : decode cX4_parts 66 = .ok (.getfield 7, 3) := by decide +kernel
theorem dX4_parts_69 : decode cX4_parts 69 = .ok (.iconst 1, 1) := by decide +kernel
theorem dX4_parts_70 : decode cX4_parts 70 = .ok (.iaload, 1) := by decide +kernel
theorem dX4_parts_71 : decode cX4_parts 71 = .ok (.iastore, 1) := by decide +kernel
theorem dX4_parts_72 : decode cX4_parts 72 = .ok (.return_, 1) := by decide +kernel
set_option maxRecDepth 20000 in
theorem ggX4_bound_X4_high : GoodIn wsX4_bound wsX4_high := goodIn_r _ [7, 1, 12, 13, 14, 15, 16, 17, 18, 19, 20, 21, 22, 23, 24, 25, 26, 27, 28, 29, 30, 31, 32] (by decide +kernel) (by decide +kernel)
set_option maxRecDepth 20000 in
theorem gX4_bound_X4_high : GoodIn wsX4_bound (wsV RX4 50 RX4 yX4_high wsX4_high) := goodIn_app (goodIn_of _ (by decide +kernel)) ggX4_bound_X4_high
set_option maxRecDepth 20000 in
theorem ggX4_bound_X4_low : GoodIn wsX4_bound wsX4_low := goodIn_r _ [11, 1, 12, 13, 14, 15, 16, 17, 18, 19, 20, 21, 22, 23, 24, 25, 26, 27, 28, 29, 30, 31, 32] (by decide +kernel) (by decide +kernel)
set_option maxRecDepth 20000 in
theorem gX4_bound_X4_low : GoodIn wsX4_bound (wsV RX4 46 RX4 yX4_low wsX4_low) := goodIn_app (goodIn_of _ (by decide +kernel)) ggX4_bound_X4_low
theorem dX4_bound_0 : decode cX4_bound 0 = .ok (.iload_n 2, 1) := by decide +kernel
theorem dX4_bound_1 : decode cX4_bound 1 = .ok (.ifCond .eq 12, 3) := by decide +kernel
theorem dX4_bound_4 : decode cX4_bound 4 = .ok (.aload_n 0, 1) := by decide +kernel
theorem dX4_bound_5 : decode cX4_bound 5 = .ok (.getfield 7, 3) := by decide +kernel
theorem dX4_bound_8 : decode cX4_bound 8 = .ok (.iconst 0, 1) := by decide +kernel
theorem dX4_bound_9 : decode cX4_bound 9 = .ok (.iaload, 1) := by decide +kernel
theorem dX4_bound_10 : decode cX4_bound 10 = .ok (.goto 4, 3) := by decide +kernel
theorem dX4_bound_13 : decode cX4_bound 13 = .ok (.iconst 0, 1) := by decide +kernel
theorem dX4_bound_14 : decode cX4_bound 14 = .ok (.istore_n 3, 1) := by decide +kernel
theorem dX4_bound_15 : decode cX4_bound 15 = .ok (.aload_n 0, 1) := by decide +kernel
theorem dX4_bound_16 : decode cX4_bound 16 = .ok (.getfield 26, 3) := by decide +kernel
theorem dX4_bound_19 : decode cX4_bound 19 = .ok (.iload_n 1, 1) := by decide +kernel
theorem dX4_bound_20 : decode cX4_bound 20 = .ok (.iaload, 1) := by decide +kernel
theorem dX4_bound_21 : decode cX4_bound 21 = .ok (.istore 4, 2) := by decide +kernel
theorem dX4_bound_23 : decode cX4_bound 23 = .ok (.iload 4, 2) := by decide +kernel
theorem dX4_bound_25 : decode cX4_bound 25 = .ok (.aload_n 0, 1) := by decide +kernel
theorem dX4_bound_26 : decode cX4_bound 26 = .ok (.getfield 26, 3) := by decide +kernel
theorem dX4_bound_29 : decode cX4_bound 29 = .ok (.iload_n 1, 1) := by decide +kernel
theorem dX4_bound_30 : decode cX4_bound 30 = .ok (.iconst 1, 1) := by decide +kernel
theorem dX4_bound_31 : decode cX4_bound 31 = .ok (.iadd, 1) := by decide +kernel
theorem dX4_bound_32 : decode cX4_bound 32 = .ok (.iaload, 1) := by decide +kernel
theorem dX4_bound_33 : decode cX4_bound 33 = .ok (.if_icmp .ge 57, 3) := by decide +kernel
theorem dX4_bound_36 : decode cX4_bound 36 = .ok (.iload_n 2, 1) := by decide +kernel
theorem dX4_bound_37 : decode cX4_bound 37 = .ok (.ifCond .eq 26, 3) := by decide +kernel
theorem dX4_bound_40 : decode cX4_bound 40 = .ok (.aload_n 0, 1) := by decide +kernel
theorem dX4_bound_41 : decode cX4_bound 41 = .ok (.iload 4, 2) := by decide +kernel
theorem dX4_bound_43 : decode cX4_bound 43 = .ok (.invokevirtual 50, 3) := by decide +kernel
theorem dX4_bound_46 : decode cX4_bound 46 = .ok (.iload_n 3, 1) := by decide +kernel
theorem dX4_bound_47 : decode cX4_bound 47 = .ok (.if_icmp .ge 12, 3) := by decide +kernel
theorem dX4_bound_50 : decode cX4_bound 50 = .ok (.aload_n 0, 1) := by decide +kernel
theorem dX4_bound_51 : decode cX4_bound 51 = .ok (.iload 4, 2) := by decide +kernel
theorem dX4_bound_53 : decode cX4_bound 53 = .ok (.invokevirtual 50, 3) := by decide +kernel
theorem dX4_bound_56 : decode cX4_bound 56 = .ok (.goto 27, 3) := by decide +kernel
theorem dX4_bound_59 : decode cX4_bound 59 = .ok (.iload_n 3, 1) := by decide +kernel
theorem dX4_bound_60 : decode cX4_bound 60 = .ok (.goto 23, 3) := by decide +kernel
theorem dX4_bound_63 : decode cX4_bound 63 = .ok (.aload_n 0, 1) := by decide +kernel
theorem dX4_bound_64 : decode cX4_bound 64 = .ok (.iload 4, 2) := by decide +kernel
theorem dX4_bound_66 : decode cX4_bound 66 = .ok (.invokevirtual 46, 3) := by decide +kernel
theorem dX4_bound_69 : decode cX4_bound 69 = .ok (.iload_n 3, 1) := by decide +kernel
theorem dX4_bound_70 : decode cX4_bound 70 = .ok (.if_icmp .le 12, 3) := by decide +kernel
theorem dX4_bound_73 : decode cX4_bound 73 = .ok (.aload_n 0, 1) := by decide +kernel
theorem dX4_bound_74 : decode cX4_bound 74 = .ok (.iload 4, 2) := by decide +kernel
theorem dX4_bound_76 : decode cX4_bound 76 = .ok (.invokevirtual 46, 3) := by decide +kernel
theorem dX4_bound_79 : decode cX4_bound 79 = .ok (.goto 4, 3) := by decide +kernel
theorem dX4_bound_82 : decode cX4_bound 82 = .ok (.iload_n 3, 1) := by decide +kernel
theorem dX4_bound_83 : decode cX4_bound 83 = .ok (.istore_n 3, 1) := by decide +kernel
theorem dX4_bound_84 : decode cX4_bound 84 = .ok (.iinc 4 1, 3) := by decide +kernel
theorem dX4_bound_87 : decode cX4_bound 87 = .ok (.goto (-64), 3) := by decide +kernel
theorem dX4_bound_90 : decode cX4_bound 90 = .ok (.iload_n 3, 1) := by decide +kernel
theorem dX4_bound_91 : decode cX4_bound 91 = .ok (.ireturn, 1) := by decide +kernel
set_option maxRecDepth 20000 in
theorem ggX4_lays_X4_bound : GoodIn wsX4_lays wsX4_bound := goodIn_r _ [7, 8, 9, 10, 11, 12, 6, 13, 14, 15, 16, 17, 22, 23, 24, 25, 26, 27, 28, 29, 30, 31, 32, 33, 34, 35, 36, 37, 38, 39, 40, 41, 42] (by decide +kernel) (by decide +kernel)
set_option maxRecDepth 20000 in
theorem gX4_lays_X4_bound : GoodIn wsX4_lays (wsV RX4 93 RX4 yX4_bound wsX4_bound) := goodIn_app (goodIn_of _ (by decide +kernel)) ggX4_lays_X4_bound
set_option maxRecDepth 20000 in
theorem ggX4_lays_X4_laysFree : GoodIn wsX4_lays wsX4_laysFree := goodIn_r _ [21, 9, 2, 8, 1, 22, 23, 24, 25, 26, 27, 28, 29, 30, 31, 32, 33, 34, 35, 36, 37, 38, 39, 40, 41, 42] (by decide +kernel) (by decide +kernel)
set_option maxRecDepth 20000 in
theorem gX4_lays_X4_laysFree : GoodIn wsX4_lays (wsV RX4 97 RX4 yX4_laysFree wsX4_laysFree) := goodIn_app (goodIn_of _ (by decide +kernel)) ggX4_lays_X4_laysFree
theorem dX4_lays_0 : decode cX4_lays 0 = .ok (.iload_n 1, 1) := by decide +kernel
theorem dX4_lays_1 : decode cX4_lays 1 = .ok (.istore_n 2, 1) := by decide +kernel
theorem dX4_lays_2 : decode cX4_lays 2 = .ok (.iconst 0, 1) := by decide +kernel
theorem dX4_lays_3 : decode cX4_lays 3 = .ok (.istore_n 3, 1) := by decide +kernel
theorem dX4_lays_4 : decode cX4_lays 4 = .ok (.iload_n 3, 1) := by decide +kernel
theorem dX4_lays_5 : decode cX4_lays 5 = .ok (.aload_n 0, 1) := by decide +kernel
theorem dX4_lays_6 : decode cX4_lays 6 = .ok (.getfield 90, 3) := by decide +kernel
theorem dX4_lays_9 : decode cX4_lays 9 = .ok (.if_icmp .ge 96, 3) := by decide +kernel
theorem dX4_lays_12 : decode cX4_lays 12 = .ok (.iconst 0, 1) := by decide +kernel
theorem dX4_lays_13 : decode cX4_lays 13 = .ok (.istore 4, 2) := by decide +kernel
theorem dX4_lays_15 : decode cX4_lays 15 = .ok (.iload 4, 2) := by decide +kernel
theorem dX4_lays_17 : decode cX4_lays 17 = .ok (.iconst 5, 1) := by decide +kernel
theorem dX4_lays_18 : decode cX4_lays 18 = .ok (.if_icmp .ge 21, 3) := by decide +kernel
theorem dX4_lays_21 : decode cX4_lays 21 = .ok (.aload_n 0, 1) := by decide +kernel
theorem dX4_lays_22 : decode cX4_lays 22 = .ok (.getfield 29, 3) := by decide +kernel
theorem dX4_lays_25 : decode cX4_lays 25 = .ok (.iconst 5, 1) := by decide +kernel
theorem dX4_lays_26 : decode cX4_lays 26 = .ok (.iload_n 3, 1) := by decide +kernel
theorem dX4_lays_27 : decode cX4_lays 27 = .ok (.imul, 1) := by decide +kernel
theorem dX4_lays_28 : decode cX4_lays 28 = .ok (.iload 4, 2) := by decide +kernel
theorem dX4_lays_30 : decode cX4_lays 30 = .ok (.iadd, 1) := by decide +kernel
theorem dX4_lays_31 : decode cX4_lays 31 = .ok (.lconst 0, 1) := by decide +kernel
theorem dX4_lays_32 : decode cX4_lays 32 = .ok (.lastore, 1) := by decide +kernel
theorem dX4_lays_33 : decode cX4_lays 33 = .ok (.iinc 4 1, 3) := by decide +kernel
theorem dX4_lays_36 : decode cX4_lays 36 = .ok (.goto (-21), 3) := by decide +kernel
theorem dX4_lays_39 : decode cX4_lays 39 = .ok (.iload_n 2, 1) := by decide +kernel
theorem dX4_lays_40 : decode cX4_lays 40 = .ok (.iconst 3, 1) := by decide +kernel
theorem dX4_lays_41 : decode cX4_lays 41 = .ok (.irem, 1) := by decide +kernel
theorem dX4_lays_42 : decode cX4_lays 42 = .ok (.istore 4, 2) := by decide +kernel
theorem dX4_lays_44 : decode cX4_lays 44 = .ok (.iload_n 2, 1) := by decide +kernel
theorem dX4_lays_45 : decode cX4_lays 45 = .ok (.iconst 3, 1) := by decide +kernel
theorem dX4_lays_46 : decode cX4_lays 46 = .ok (.idiv, 1) := by decide +kernel
theorem dX4_lays_47 : decode cX4_lays 47 = .ok (.istore_n 2, 1) := by decide +kernel
theorem dX4_lays_48 : decode cX4_lays 48 = .ok (.iload 4, 2) := by decide +kernel
theorem dX4_lays_50 : decode cX4_lays 50 = .ok (.ifCond .le 44, 3) := by decide +kernel
theorem dX4_lays_53 : decode cX4_lays 53 = .ok (.aload_n 0, 1) := by decide +kernel
theorem dX4_lays_54 : decode cX4_lays 54 = .ok (.getfield 29, 3) := by decide +kernel
theorem dX4_lays_57 : decode cX4_lays 57 = .ok (.iconst 5, 1) := by decide +kernel
theorem dX4_lays_58 : decode cX4_lays 58 = .ok (.iload_n 3, 1) := by decide +kernel
theorem dX4_lays_59 : decode cX4_lays 59 = .ok (.imul, 1) := by decide +kernel
theorem dX4_lays_60 : decode cX4_lays 60 = .ok (.iload_n 3, 1) := by decide +kernel
theorem dX4_lays_61 : decode cX4_lays 61 = .ok (.iadd, 1) := by decide +kernel
theorem dX4_lays_62 : decode cX4_lays 62 = .ok (.lconst 1, 1) := by decide +kernel
theorem dX4_lays_63 : decode cX4_lays 63 = .ok (.lastore, 1) := by decide +kernel
theorem dX4_lays_64 : decode cX4_lays 64 = .ok (.aload_n 0, 1) := by decide +kernel
theorem dX4_lays_65 : decode cX4_lays 65 = .ok (.getfield 29, 3) := by decide +kernel
theorem dX4_lays_68 : decode cX4_lays 68 = .ok (.iconst 5, 1) := by decide +kernel
theorem dX4_lays_69 : decode cX4_lays 69 = .ok (.iload_n 3, 1) := by decide +kernel
theorem dX4_lays_70 : decode cX4_lays 70 = .ok (.imul, 1) := by decide +kernel
theorem dX4_lays_71 : decode cX4_lays 71 = .ok (.iconst 4, 1) := by decide +kernel
theorem dX4_lays_72 : decode cX4_lays 72 = .ok (.iadd, 1) := by decide +kernel
theorem dX4_lays_73 : decode cX4_lays 73 = .ok (.aload_n 0, 1) := by decide +kernel
theorem dX4_lays_74 : decode cX4_lays 74 = .ok (.iload_n 3, 1) := by decide +kernel
theorem dX4_lays_75 : decode cX4_lays 75 = .ok (.iload 4, 2) := by decide +kernel
theorem dX4_lays_77 : decode cX4_lays 77 = .ok (.iconst 2, 1) := by decide +kernel
theorem dX4_lays_78 : decode cX4_lays 78 = .ok (.if_icmp .ne 7, 3) := by decide +kernel
theorem dX4_lays_81 : decode cX4_lays 81 = .ok (.iconst 1, 1) := by decide +kernel
theorem dX4_lays_82 : decode cX4_lays 82 = .ok (.goto 4, 3) := by decide +kernel
theorem dX4_lays_85 : decode cX4_lays 85 = .ok (.iconst 0, 1) := by decide +kernel
theorem dX4_lays_86 : decode cX4_lays 86 = .ok (.invokevirtual 93, 3) := by decide +kernel
theorem dX4_lays_89 : decode cX4_lays 89 = .ok (.i2l, 1) := by decide +kernel
theorem dX4_lays_90 : decode cX4_lays 90 = .ok (.lastore, 1) := by decide +kernel
theorem dX4_lays_91 : decode cX4_lays 91 = .ok (.goto 8, 3) := by decide +kernel
theorem dX4_lays_94 : decode cX4_lays 94 = .ok (.aload_n 0, 1) := by decide +kernel
theorem dX4_lays_95 : decode cX4_lays 95 = .ok (.iload_n 3, 1) := by decide +kernel
theorem dX4_lays_96 : decode cX4_lays 96 = .ok (.invokevirtual 97, 3) := by decide +kernel
theorem dX4_lays_99 : decode cX4_lays 99 = .ok (.iinc 3 1, 3) := by decide +kernel
theorem dX4_lays_102 : decode cX4_lays 102 = .ok (.goto (-98), 3) := by decide +kernel
theorem dX4_lays_105 : decode cX4_lays 105 = .ok (.return_, 1) := by decide +kernel
theorem dX4_laysFree_0 : decode cX4_laysFree 0 = .ok (.aload_n 0, 1) := by decide +kernel
theorem dX4_laysFree_1 : decode cX4_laysFree 1 = .ok (.getfield 26, 3) := by decide +kernel
theorem dX4_laysFree_4 : decode cX4_laysFree 4 = .ok (.iload_n 1, 1) := by decide +kernel
theorem dX4_laysFree_5 : decode cX4_laysFree 5 = .ok (.iaload, 1) := by decide +kernel
theorem dX4_laysFree_6 : decode cX4_laysFree 6 = .ok (.istore_n 2, 1) := by decide +kernel
theorem dX4_laysFree_7 : decode cX4_laysFree 7 = .ok (.aload_n 0, 1) := by decide +kernel
theorem dX4_laysFree_8 : decode cX4_laysFree 8 = .ok (.getfield 26, 3) := by decide +kernel
theorem dX4_laysFree_11 : decode cX4_laysFree 11 = .ok (.iload_n 1, 1) := by decide +kernel
theorem dX4_laysFree_12 : decode cX4_laysFree 12 = .ok (.iconst 1, 1) := by decide +kernel
theorem dX4_laysFree_13 : decode cX4_laysFree 13 = .ok (.iadd, 1) := by decide +kernel
theorem dX4_laysFree_14 : decode cX4_laysFree 14 = .ok (.iaload, 1) := by decide +kernel
theorem dX4_laysFree_15 : decode cX4_laysFree 15 = .ok (.istore_n 3, 1) := by decide +kernel
theorem dX4_laysFree_16 : decode cX4_laysFree 16 = .ok (.aload_n 0, 1) := by decide +kernel
theorem dX4_laysFree_17 : decode cX4_laysFree 17 = .ok (.getfield 29, 3) := by decide +kernel
theorem dX4_laysFree_20 : decode cX4_laysFree 20 = .ok (.iconst 5, 1) := by decide +kernel
theorem dX4_laysFree_21 : decode cX4_laysFree 21 = .ok (.iload_n 1, 1) := by decide +kernel
theorem dX4_laysFree_22 : decode cX4_laysFree 22 = .ok (.imul, 1) := by decide +kernel
theorem dX4_laysFree_23 : decode cX4_laysFree 23 = .ok (.iload_n 1, 1) := by decide +kernel
theorem dX4_laysFree_24 : decode cX4_laysFree 24 = .ok (.iadd, 1) := by decide +kernel
theorem dX4_laysFree_25 : decode cX4_laysFree 25 = .ok (.aload_n 0, 1) := by decide +kernel
theorem dX4_laysFree_26 : decode cX4_laysFree 26 = .ok (.getfield 7, 3) := by decide +kernel
theorem dX4_laysFree_29 : decode cX4_laysFree 29 = .ok (.iconst 2, 1) := by decide +kernel
theorem dX4_laysFree_30 : decode cX4_laysFree 30 = .ok (.iload_n 2, 1) := by decide +kernel
theorem dX4_laysFree_31 : decode cX4_laysFree 31 = .ok (.iadd, 1) := by decide +kernel
theorem dX4_laysFree_32 : decode cX4_laysFree 32 = .ok (.iaload, 1) := by decide +kernel
theorem dX4_laysFree_33 : decode cX4_laysFree 33 = .ok (.aload_n 0, 1) := by decide +kernel
theorem dX4_laysFree_34 : decode cX4_laysFree 34 = .ok (.getfield 7, 3) := by decide +kernel
theorem dX4_laysFree_37 : decode cX4_laysFree 37 = .ok (.iconst 2, 1) := by decide +kernel
theorem dX4_laysFree_38 : decode cX4_laysFree 38 = .ok (.iload_n 3, 1) := by decide +kernel
theorem dX4_laysFree_39 : decode cX4_laysFree 39 = .ok (.iadd, 1) := by decide +kernel
theorem dX4_laysFree_40 : decode cX4_laysFree 40 = .ok (.iaload, 1) := by decide +kernel
theorem dX4_laysFree_41 : decode cX4_laysFree 41 = .ok (.iadd, 1) := by decide +kernel
theorem dX4_laysFree_42 : decode cX4_laysFree 42 = .ok (.i2l, 1) := by decide +kernel
theorem dX4_laysFree_43 : decode cX4_laysFree 43 = .ok (.lastore, 1) := by decide +kernel
theorem dX4_laysFree_44 : decode cX4_laysFree 44 = .ok (.aload_n 0, 1) := by decide +kernel
theorem dX4_laysFree_45 : decode cX4_laysFree 45 = .ok (.getfield 7, 3) := by decide +kernel
theorem dX4_laysFree_48 : decode cX4_laysFree 48 = .ok (.iconst 2, 1) := by decide +kernel
theorem dX4_laysFree_49 : decode cX4_laysFree 49 = .ok (.iload_n 2, 1) := by decide +kernel
theorem dX4_laysFree_50 : decode cX4_laysFree 50 = .ok (.iadd, 1) := by decide +kernel
theorem dX4_laysFree_51 : decode cX4_laysFree 51 = .ok (.iaload, 1) := by decide +kernel
theorem dX4_laysFree_52 : decode cX4_laysFree 52 = .ok (.aload_n 0, 1) := by decide +kernel
theorem dX4_laysFree_53 : decode cX4_laysFree 53 = .ok (.getfield 7, 3) := by decide +kernel
theorem dX4_laysFree_56 : decode cX4_laysFree 56 = .ok (.bipush 7, 2) := by decide +kernel
theorem dX4_laysFree_58 : decode cX4_laysFree 58 = .ok (.iload_n 2, 1) := by decide +kernel
theorem dX4_laysFree_59 : decode cX4_laysFree 59 = .ok (.iadd, 1) := by decide +kernel
theorem dX4_laysFree_60 : decode cX4_laysFree 60 = .ok (.iaload, 1) := by decide +kernel
theorem dX4_laysFree_61 : decode cX4_laysFree 61 = .ok (.imul, 1) := by decide +kernel
theorem dX4_laysFree_62 : decode cX4_laysFree 62 = .ok (.aload_n 0, 1) := by decide +kernel
theorem dX4_laysFree_63 : decode cX4_laysFree 63 = .ok (.getfield 7, 3) := by decide +kernel
theorem dX4_laysFree_66 : decode cX4_laysFree 66 = .ok (.iconst 2, 1) := by decide +kernel
theorem dX4_laysFree_67 : decode cX4_laysFree 67 = .ok (.iload_n 3, 1) := by decide +kernel
theorem dX4_laysFree_68 : decode cX4_laysFree 68 = .ok (.iadd, 1) := by decide +kernel
theorem dX4_laysFree_69 : decode cX4_laysFree 69 = .ok (.iaload, 1) := by decide +kernel
theorem dX4_laysFree_70 : decode cX4_laysFree 70 = .ok (.aload_n 0, 1) := by decide +kernel
theorem dX4_laysFree_71 : decode cX4_laysFree 71 = .ok (.getfield 7, 3) := by decide +kernel
theorem dX4_laysFree_74 : decode cX4_laysFree 74 = .ok (.bipush 7, 2) := by decide +kernel
theorem dX4_laysFree_76 : decode cX4_laysFree 76 = .ok (.iload_n 3, 1) := by decide +kernel
theorem dX4_laysFree_77 : decode cX4_laysFree 77 = .ok (.iadd, 1) := by decide +kernel
theorem dX4_laysFree_78 : decode cX4_laysFree 78 = .ok (.iaload, 1) := by decide +kernel
theorem dX4_laysFree_79 : decode cX4_laysFree 79 = .ok (.imul, 1) := by decide +kernel
theorem dX4_laysFree_80 : decode cX4_laysFree 80 = .ok (.isub, 1) := by decide +kernel
theorem dX4_laysFree_81 : decode cX4_laysFree 81 = .ok (.i2l, 1) := by decide +kernel
theorem dX4_laysFree_82 : decode cX4_laysFree 82 = .ok (.lstore 4, 2) := by decide +kernel
theorem dX4_laysFree_84 : decode cX4_laysFree 84 = .ok (.iload_n 2, 1) := by decide +kernel
theorem dX4_laysFree_85 : decode cX4_laysFree 85 = .ok (.istore 6, 2) := by decide +kernel
theorem dX4_laysFree_87 : decode cX4_laysFree 87 = .ok (.iload 6, 2) := by decide +kernel
theorem dX4_laysFree_89 : decode cX4_laysFree 89 = .ok (.iload_n 3, 1) := by decide +kernel
theorem dX4_laysFree_90 : decode cX4_laysFree 90 = .ok (.if_icmp .ge 25, 3) := by decide +kernel
theorem dX4_laysFree_93 : decode cX4_laysFree 93 = .ok (.lload 4, 2) := by decide +kernel
theorem dX4_laysFree_95 : decode cX4_laysFree 95 = .ok (.aload_n 0, 1) := by decide +kernel
theorem dX4_laysFree_96 : decode cX4_laysFree 96 = .ok (.getfield 7, 3) := by decide +kernel
theorem dX4_laysFree_99 : decode cX4_laysFree 99 = .ok (.bipush 12, 2) := by decide +kernel
theorem dX4_laysFree_101 : decode cX4_laysFree 101 = .ok (.iload 6, 2) := by decide +kernel
theorem dX4_laysFree_103 : decode cX4_laysFree 103 = .ok (.iadd, 1) := by decide +kernel
theorem dX4_laysFree_104 : decode cX4_laysFree 104 = .ok (.iaload, 1) := by decide +kernel
theorem dX4_laysFree_105 : decode cX4_laysFree 105 = .ok (.i2l, 1) := by decide +kernel
theorem dX4_laysFree_106 : decode cX4_laysFree 106 = .ok (.ladd, 1) := by decide +kernel
theorem dX4_laysFree_107 : decode cX4_laysFree 107 = .ok (.lstore 4, 2) := by decide +kernel
theorem dX4_laysFree_109 : decode cX4_laysFree 109 = .ok (.iinc 6 1, 3) := by decide +kernel
theorem dX4_laysFree_112 : decode cX4_laysFree 112 = .ok (.goto (-25), 3) := by decide +kernel
theorem dX4_laysFree_115 : decode cX4_laysFree 115 = .ok (.iload_n 1, 1) := by decide +kernel
theorem dX4_laysFree_116 : decode cX4_laysFree 116 = .ok (.ifCond .le 25, 3) := by decide +kernel
theorem dX4_laysFree_119 : decode cX4_laysFree 119 = .ok (.aload_n 0, 1) := by decide +kernel
theorem dX4_laysFree_120 : decode cX4_laysFree 120 = .ok (.getfield 29, 3) := by decide +kernel
theorem dX4_laysFree_123 : decode cX4_laysFree 123 = .ok (.iconst 5, 1) := by decide +kernel
theorem dX4_laysFree_124 : decode cX4_laysFree 124 = .ok (.iload_n 1, 1) := by decide +kernel
theorem dX4_laysFree_125 : decode cX4_laysFree 125 = .ok (.imul, 1) := by decide +kernel
theorem dX4_laysFree_126 : decode cX4_laysFree 126 = .ok (.iload_n 1, 1) := by decide +kernel
theorem dX4_laysFree_127 : decode cX4_laysFree 127 = .ok (.iadd, 1) := by decide +kernel
theorem dX4_laysFree_128 : decode cX4_laysFree 128 = .ok (.iconst 1, 1) := by decide +kernel
theorem dX4_laysFree_129 : decode cX4_laysFree 129 = .ok (.isub, 1) := by decide +kernel
theorem dX4_laysFree_130 : decode cX4_laysFree 130 = .ok (.aload_n 0, 1) := by decide +kernel
theorem dX4_laysFree_131 : decode cX4_laysFree 131 = .ok (.getfield 7, 3) := by decide +kernel
theorem dX4_laysFree_134 : decode cX4_laysFree 134 = .ok (.iconst 2, 1) := by decide +kernel
theorem dX4_laysFree_135 : decode cX4_laysFree 135 = .ok (.iload_n 2, 1) := by decide +kernel
theorem dX4_laysFree_136 : decode cX4_laysFree 136 = .ok (.iadd, 1) := by decide +kernel
theorem dX4_laysFree_137 : decode cX4_laysFree 137 = .ok (.iaload, 1) := by decide +kernel
theorem dX4_laysFree_138 : decode cX4_laysFree 138 = .ok (.ineg, 1) := by decide +kernel
theorem dX4_laysFree_139 : decode cX4_laysFree 139 = .ok (.i2l, 1) := by decide +kernel
theorem dX4_laysFree_140 : decode cX4_laysFree 140 = .ok (.lastore, 1) := by decide +kernel
theorem dX4_laysFree_141 : decode cX4_laysFree 141 = .ok (.iload_n 1, 1) := by decide +kernel
theorem dX4_laysFree_142 : decode cX4_laysFree 142 = .ok (.aload_n 0, 1) := by decide +kernel
theorem dX4_laysFree_143 : decode cX4_laysFree 143 = .ok (.getfield 90, 3) := by decide +kernel
theorem dX4_laysFree_146 : decode cX4_laysFree 146 = .ok (.iconst 1, 1) := by decide +kernel
theorem dX4_laysFree_147 : decode cX4_laysFree 147 = .ok (.isub, 1) := by decide +kernel
theorem dX4_laysFree_148 : decode cX4_laysFree 148 = .ok (.if_icmp .ge 28, 3) := by decide +kernel
theorem dX4_laysFree_151 : decode cX4_laysFree 151 = .ok (.aload_n 0, 1) := by decide +kernel
theorem dX4_laysFree_152 : decode cX4_laysFree 152 = .ok (.getfield 29, 3) := by decide +kernel
theorem dX4_laysFree_155 : decode cX4_laysFree 155 = .ok (.iconst 5, 1) := by decide +kernel
theorem dX4_laysFree_156 : decode cX4_laysFree 156 = .ok (.iload_n 1, 1) := by decide +kernel
theorem dX4_laysFree_157 : decode cX4_laysFree 157 = .ok (.imul, 1) := by decide +kernel
theorem dX4_laysFree_158 : decode cX4_laysFree 158 = .ok (.iload_n 1, 1) := by decide +kernel
theorem dX4_laysFree_159 : decode cX4_laysFree 159 = .ok (.iadd, 1) := by decide +kernel
theorem dX4_laysFree_160 : decode cX4_laysFree 160 = .ok (.iconst 1, 1) := by decide +kernel
theorem dX4_laysFree_161 : decode cX4_laysFree 161 = .ok (.iadd, 1) := by decide +kernel
theorem dX4_laysFree_162 : decode cX4_laysFree 162 = .ok (.aload_n 0, 1) := by decide +kernel
theorem dX4_laysFree_163 : decode cX4_laysFree 163 = .ok (.getfield 7, 3) := by decide +kernel
theorem dX4_laysFree_166 : decode cX4_laysFree 166 = .ok (.iconst 2, 1) := by decide +kernel
theorem dX4_laysFree_167 : decode cX4_laysFree 167 = .ok (.iload_n 3, 1) := by decide +kernel
theorem dX4_laysFree_168 : decode cX4_laysFree 168 = .ok (.iadd, 1) := by decide +kernel
theorem dX4_laysFree_169 : decode cX4_laysFree 169 = .ok (.iaload, 1) := by decide +kernel
theorem dX4_laysFree_170 : decode cX4_laysFree 170 = .ok (.ineg, 1) := by decide +kernel
theorem dX4_laysFree_171 : decode cX4_laysFree 171 = .ok (.i2l, 1) := by decide +kernel
theorem dX4_laysFree_172 : decode cX4_laysFree 172 = .ok (.lastore, 1) := by decide +kernel
theorem dX4_laysFree_173 : decode cX4_laysFree 173 = .ok (.goto 24, 3) := by decide +kernel
theorem dX4_laysFree_176 : decode cX4_laysFree 176 = .ok (.lload 4, 2) := by decide +kernel
theorem dX4_laysFree_178 : decode cX4_laysFree 178 = .ok (.aload_n 0, 1) := by decide +kernel
theorem dX4_laysFree_179 : decode cX4_laysFree 179 = .ok (.getfield 7, 3) := by decide +kernel
theorem dX4_laysFree_182 : decode cX4_laysFree 182 = .ok (.iconst 2, 1) := by decide +kernel
theorem dX4_laysFree_183 : decode cX4_laysFree 183 = .ok (.iload_n 3, 1) := by decide +kernel
theorem dX4_laysFree_184 : decode cX4_laysFree 184 = .ok (.iadd, 1) := by decide +kernel
theorem dX4_laysFree_185 : decode cX4_laysFree 185 = .ok (.iaload, 1) := by decide +kernel
theorem dX4_laysFree_186 : decode cX4_laysFree 186 = .ok (.aload_n 0, 1) := by decide +kernel
theorem dX4_laysFree_187 : decode cX4_laysFree 187 = .ok (.getfield 7, 3) := by decide +kernel
theorem dX4_laysFree_190 : decode cX4_laysFree 190 = .ok (.iconst 0, 1) := by decide +kernel
theorem dX4_laysFree_191 : decode cX4_laysFree 191 = .ok (.iaload, 1) := by decide +kernel
theorem dX4_laysFree_192 : decode cX4_laysFree 192 = .ok (.imul, 1) := by decide +kernel
theorem dX4_laysFree_193 : decode cX4_laysFree 193 = .ok (.i2l, 1) := by decide +kernel
theorem dX4_laysFree_194 : decode cX4_laysFree 194 = .ok (.ladd, 1) := by decide +kernel
theorem dX4_laysFree_195 : decode cX4_laysFree 195 = .ok (.lstore 4, 2) := by decide +kernel
theorem dX4_laysFree_197 : decode cX4_laysFree 197 = .ok (.aload_n 0, 1) := by decide +kernel
theorem dX4_laysFree_198 : decode cX4_laysFree 198 = .ok (.getfield 29, 3) := by decide +kernel
theorem dX4_laysFree_201 : decode cX4_laysFree 201 = .ok (.iconst 5, 1) := by decide +kernel
theorem dX4_laysFree_202 : decode cX4_laysFree 202 = .ok (.iload_n 1, 1) := by decide +kernel
theorem dX4_laysFree_203 : decode cX4_laysFree 203 = .ok (.imul, 1) := by decide +kernel
theorem dX4_laysFree_204 : decode cX4_laysFree 204 = .ok (.iconst 4, 1) := by decide +kernel
theorem dX4_laysFree_205 : decode cX4_laysFree 205 = .ok (.iadd, 1) := by decide +kernel
theorem dX4_laysFree_206 : decode cX4_laysFree 206 = .ok (.lload 4, 2) := by decide +kernel
theorem dX4_laysFree_208 : decode cX4_laysFree 208 = .ok (.lastore, 1) := by decide +kernel
theorem dX4_laysFree_209 : decode cX4_laysFree 209 = .ok (.return_, 1) := by decide +kernel
theorem dX4_solves_0 : decode cX4_solves 0 = .ok (.lconst 1, 1) := by decide +kernel
theorem dX4_solves_1 : decode cX4_solves 1 = .ok (.lstore_n 1, 1) := by decide +kernel
theorem dX4_solves_2 : decode cX4_solves 2 = .ok (.iconst 0, 1) := by decide +kernel
theorem dX4_solves_3 : decode cX4_solves 3 = .ok (.istore_n 3, 1) := by decide +kernel
theorem dX4_solves_4 : decode cX4_solves 4 = .ok (.iload_n 3, 1) := by decide +kernel
theorem dX4_solves_5 : decode cX4_solves 5 = .ok (.aload_n 0, 1) := by decide +kernel
theorem dX4_solves_6 : decode cX4_solves 6 = .ok (.getfield 90, 3) := by decide +kernel
theorem dX4_solves_9 : decode cX4_solves 9 = .ok (.if_icmp .ge 120, 3) := by decide +kernel
theorem dX4_solves_12 : decode cX4_solves 12 = .ok (.aload_n 0, 1) := by decide +kernel
theorem dX4_solves_13 : decode cX4_solves 13 = .ok (.getfield 29, 3) := by decide +kernel
theorem dX4_solves_16 : decode cX4_solves 16 = .ok (.iconst 5, 1) := by decide +kernel
theorem dX4_solves_17 : decode cX4_solves 17 = .ok (.iload_n 3, 1) := by decide +kernel
theorem dX4_solves_18 : decode cX4_solves 18 = .ok (.imul, 1) := by decide +kernel
theorem dX4_solves_19 : decode cX4_solves 19 = .ok (.iload_n 3, 1) := by decide +kernel
theorem dX4_solves_20 : decode cX4_solves 20 = .ok (.iadd, 1) := by decide +kernel
theorem dX4_solves_21 : decode cX4_solves 21 = .ok (.laload, 1) := by decide +kernel
theorem dX4_solves_22 : decode cX4_solves 22 = .ok (.lstore 4, 2) := by decide +kernel
theorem dX4_solves_24 : decode cX4_solves 24 = .ok (.iconst 0, 1) := by decide +kernel
theorem dX4_solves_25 : decode cX4_solves 25 = .ok (.istore 6, 2) := by decide +kernel
theorem dX4_solves_27 : decode cX4_solves 27 = .ok (.iload 6, 2) := by decide +kernel
theorem dX4_solves_29 : decode cX4_solves 29 = .ok (.aload_n 0, 1) := by decide +kernel
theorem dX4_solves_30 : decode cX4_solves 30 = .ok (.getfield 90, 3) := by decide +kernel
theorem dX4_solves_33 : decode cX4_solves 33 = .ok (.if_icmp .ge 87, 3) := by decide +kernel
theorem dX4_solves_36 : decode cX4_solves 36 = .ok (.aload_n 0, 1) := by decide +kernel
theorem dX4_solves_37 : decode cX4_solves 37 = .ok (.getfield 29, 3) := by decide +kernel
theorem dX4_solves_40 : decode cX4_solves 40 = .ok (.iconst 5, 1) := by decide +kernel
theorem dX4_solves_41 : decode cX4_solves 41 = .ok (.iload 6, 2) := by decide +kernel
theorem dX4_solves_43 : decode cX4_solves 43 = .ok (.imul, 1) := by decide +kernel
theorem dX4_solves_44 : decode cX4_solves 44 = .ok (.iload_n 3, 1) := by decide +kernel
theorem dX4_solves_45 : decode cX4_solves 45 = .ok (.iadd, 1) := by decide +kernel
theorem dX4_solves_46 : decode cX4_solves 46 = .ok (.laload, 1) := by decide +kernel
theorem dX4_solves_47 : decode cX4_solves 47 = .ok (.lstore 7, 2) := by decide +kernel
theorem dX4_solves_49 : decode cX4_solves 49 = .ok (.iconst 0, 1) := by decide +kernel
theorem dX4_solves_50 : decode cX4_solves 50 = .ok (.istore 9, 2) := by decide +kernel
theorem dX4_solves_52 : decode cX4_solves 52 = .ok (.iload 9, 2) := by decide +kernel
theorem dX4_solves_54 : decode cX4_solves 54 = .ok (.iconst 5, 1) := by decide +kernel
theorem dX4_solves_55 : decode cX4_solves 55 = .ok (.if_icmp .ge 59, 3) := by decide +kernel
theorem dX4_solves_58 : decode cX4_solves 58 = .ok (.iload 6, 2) := by decide +kernel
theorem dX4_solves_60 : decode cX4_solves 60 = .ok (.iload_n 3, 1) := by decide +kernel
theorem dX4_solves_61 : decode cX4_solves 61 = .ok (.if_icmp .eq 53, 3) := by decide +kernel
theorem dX4_solves_64 : decode cX4_solves 64 = .ok (.aload_n 0, 1) := by decide +kernel
theorem dX4_solves_65 : decode cX4_solves 65 = .ok (.getfield 29, 3) := by decide +kernel
theorem dX4_solves_68 : decode cX4_solves 68 = .ok (.iconst 5, 1) := by decide +kernel
theorem dX4_solves_69 : decode cX4_solves 69 = .ok (.iload 6, 2) := by decide +kernel
theorem dX4_solves_71 : decode cX4_solves 71 = .ok (.imul, 1) := by decide +kernel
theorem dX4_solves_72 : decode cX4_solves 72 = .ok (.iload 9, 2) := by decide +kernel
theorem dX4_solves_74 : decode cX4_solves 74 = .ok (.iadd, 1) := by decide +kernel
theorem dX4_solves_75 : decode cX4_solves 75 = .ok (.aload_n 0, 1) := by decide +kernel
theorem dX4_solves_76 : decode cX4_solves 76 = .ok (.getfield 29, 3) := by decide +kernel
theorem dX4_solves_79 : decode cX4_solves 79 = .ok (.iconst 5, 1) := by decide +kernel
theorem dX4_solves_80 : decode cX4_solves 80 = .ok (.iload 6, 2) := by decide +kernel
theorem dX4_solves_82 : decode cX4_solves 82 = .ok (.imul, 1) := by decide +kernel
theorem dX4_solves_83 : decode cX4_solves 83 = .ok (.iload 9, 2) := by decide +kernel
theorem dX4_solves_85 : decode cX4_solves 85 = .ok (.iadd, 1) := by decide +kernel
theorem dX4_solves_86 : decode cX4_solves 86 = .ok (.laload, 1) := by decide +kernel
theorem dX4_solves_87 : decode cX4_solves 87 = .ok (.lload 4, 2) := by decide +kernel
theorem dX4_solves_89 : decode cX4_solves 89 = .ok (.lmul, 1) := by decide +kernel
theorem dX4_solves_90 : decode cX4_solves 90 = .ok (.lload 7, 2) := by decide +kernel
theorem dX4_solves_92 : decode cX4_solves 92 = .ok (.aload_n 0, 1) := by decide +kernel
theorem dX4_solves_93 : decode cX4_solves 93 = .ok (.getfield 29, 3) := by decide +kernel
theorem dX4_solves_96 : decode cX4_solves 96 = .ok (.iconst 5, 1) := by decide +kernel
theorem dX4_solves_97 : decode cX4_solves 97 = .ok (.iload_n 3, 1) := by decide +kernel
theorem dX4_solves_98 : decode cX4_solves 98 = .ok (.imul, 1) := by decide +kernel
theorem dX4_solves_99 : decode cX4_solves 99 = .ok (.iload 9, 2) := by decide +kernel
theorem dX4_solves_101 : decode cX4_solves 101 = .ok (.iadd, 1) := by decide +kernel
theorem dX4_solves_102 : decode cX4_solves 102 = .ok (.laload, 1) := by decide +kernel
theorem dX4_solves_103 : decode cX4_solves 103 = .ok (.lmul, 1) := by decide +kernel
theorem dX4_solves_104 : decode cX4_solves 104 = .ok (.lsub, 1) := by decide +kernel
theorem dX4_solves_105 : decode cX4_solves 105 = .ok (.lload_n 1, 1) := by decide +kernel
theorem dX4_solves_106 : decode cX4_solves 106 = .ok (.ldiv, 1) := by decide +kernel
theorem dX4_solves_107 : decode cX4_solves 107 = .ok (.lastore, 1) := by decide +kernel
theorem dX4_solves_108 : decode cX4_solves 108 = .ok (.iinc 9 1, 3) := by decide +kernel
theorem dX4_solves_111 : decode cX4_solves 111 = .ok (.goto (-59), 3) := by decide +kernel
theorem dX4_solves_114 : decode cX4_solves 114 = .ok (.iinc 6 1, 3) := by decide +kernel
theorem dX4_solves_117 : decode cX4_solves 117 = .ok (.goto (-90), 3) := by decide +kernel
theorem dX4_solves_120 : decode cX4_solves 120 = .ok (.lload 4, 2) := by decide +kernel
theorem dX4_solves_122 : decode cX4_solves 122 = .ok (.lstore_n 1, 1) := by decide +kernel
theorem dX4_solves_123 : decode cX4_solves 123 = .ok (.iinc 3 1, 3) := by decide +kernel
theorem dX4_solves_126 : decode cX4_solves 126 = .ok (.goto (-122), 3) := by decide +kernel
theorem dX4_solves_129 : decode cX4_solves 129 = .ok (.aload_n 0, 1) := by decide +kernel
theorem dX4_solves_130 : decode cX4_solves 130 = .ok (.lload_n 1, 1) := by decide +kernel
theorem dX4_solves_131 : decode cX4_solves 131 = .ok (.putfield 79, 3) := by decide +kernel
theorem dX4_solves_134 : decode cX4_solves 134 = .ok (.iconst 0, 1) := by decide +kernel
theorem dX4_solves_135 : decode cX4_solves 135 = .ok (.istore_n 3, 1) := by decide +kernel
theorem dX4_solves_136 : decode cX4_solves 136 = .ok (.iload_n 3, 1) := by decide +kernel
theorem dX4_solves_137 : decode cX4_solves 137 = .ok (.aload_n 0, 1) := by decide +kernel
theorem dX4_solves_138 : decode cX4_solves 138 = .ok (.getfield 90, 3) := by decide +kernel
theorem dX4_solves_141 : decode cX4_solves 141 = .ok (.if_icmp .ge 53, 3) := by decide +kernel
theorem dX4_solves_144 : decode cX4_solves 144 = .ok (.aload_n 0, 1) := by decide +kernel
theorem dX4_solves_145 : decode cX4_solves 145 = .ok (.getfield 26, 3) := by decide +kernel
theorem dX4_solves_148 : decode cX4_solves 148 = .ok (.iload_n 3, 1) := by decide +kernel
theorem dX4_solves_149 : decode cX4_solves 149 = .ok (.iaload, 1) := by decide +kernel
theorem dX4_solves_150 : decode cX4_solves 150 = .ok (.istore 4, 2) := by decide +kernel
theorem dX4_solves_152 : decode cX4_solves 152 = .ok (.iload 4, 2) := by decide +kernel
theorem dX4_solves_154 : decode cX4_solves 154 = .ok (.aload_n 0, 1) := by decide +kernel
theorem dX4_solves_155 : decode cX4_solves 155 = .ok (.getfield 26, 3) := by decide +kernel
theorem dX4_solves_158 : decode cX4_solves 158 = .ok (.iload_n 3, 1) := by decide +kernel
theorem dX4_solves_159 : decode cX4_solves 159 = .ok (.iconst 1, 1) := by decide +kernel
theorem dX4_solves_160 : decode cX4_solves 160 = .ok (.iadd, 1) := by decide +kernel
theorem dX4_solves_161 : decode cX4_solves 161 = .ok (.iaload, 1) := by decide +kernel
theorem dX4_solves_162 : decode cX4_solves 162 = .ok (.if_icmp .ge 26, 3) := by decide +kernel
theorem dX4_solves_165 : decode cX4_solves 165 = .ok (.aload_n 0, 1) := by decide +kernel
theorem dX4_solves_166 : decode cX4_solves 166 = .ok (.getfield 22, 3) := by decide +kernel
theorem dX4_solves_169 : decode cX4_solves 169 = .ok (.iload 4, 2) := by decide +kernel
theorem dX4_solves_171 : decode cX4_solves 171 = .ok (.aload_n 0, 1) := by decide +kernel
theorem dX4_solves_172 : decode cX4_solves 172 = .ok (.getfield 29, 3) := by decide +kernel
theorem dX4_solves_175 : decode cX4_solves 175 = .ok (.iconst 5, 1) := by decide +kernel
theorem dX4_solves_176 : decode cX4_solves 176 = .ok (.iload_n 3, 1) := by decide +kernel
theorem dX4_solves_177 : decode cX4_solves 177 = .ok (.imul, 1) := by decide +kernel
theorem dX4_solves_178 : decode cX4_solves 178 = .ok (.iconst 4, 1) := by decide +kernel
theorem dX4_solves_179 : decode cX4_solves 179 = .ok (.iadd, 1) := by decide +kernel
theorem dX4_solves_180 : decode cX4_solves 180 = .ok (.laload, 1) := by decide +kernel
theorem dX4_solves_181 : decode cX4_solves 181 = .ok (.lastore, 1) := by decide +kernel
theorem dX4_solves_182 : decode cX4_solves 182 = .ok (.iinc 4 1, 3) := by decide +kernel
theorem dX4_solves_185 : decode cX4_solves 185 = .ok (.goto (-33), 3) := by decide +kernel
theorem dX4_solves_188 : decode cX4_solves 188 = .ok (.iinc 3 1, 3) := by decide +kernel
theorem dX4_solves_191 : decode cX4_solves 191 = .ok (.goto (-55), 3) := by decide +kernel
theorem dX4_solves_194 : decode cX4_solves 194 = .ok (.return_, 1) := by decide +kernel
set_option maxRecDepth 20000 in
theorem ggX4_isIn_X4_low : GoodIn wsX4_isIn wsX4_low := goodIn_r _ [8, 1, 13, 14, 15, 16, 17, 18, 19, 20, 21, 22, 23, 24, 25, 26, 27, 28, 29, 30, 31, 32, 33] (by decide +kernel) (by decide +kernel)
set_option maxRecDepth 20000 in
theorem gX4_isIn_X4_low : GoodIn wsX4_isIn (wsV RX4 46 RX4 yX4_low wsX4_low) := goodIn_app (goodIn_of _ (by decide +kernel)) ggX4_isIn_X4_low
set_option maxRecDepth 20000 in
theorem ggX4_isIn_X4_high : GoodIn wsX4_isIn wsX4_high := goodIn_r _ [12, 1, 13, 14, 15, 16, 17, 18, 19, 20, 21, 22, 23, 24, 25, 26, 27, 28, 29, 30, 31, 32, 33] (by decide +kernel) (by decide +kernel)
set_option maxRecDepth 20000 in
theorem gX4_isIn_X4_high : GoodIn wsX4_isIn (wsV RX4 50 RX4 yX4_high wsX4_high) := goodIn_app (goodIn_of _ (by decide +kernel)) ggX4_isIn_X4_high
theorem dX4_isIn_0 : decode cX4_isIn 0 = .ok (.iconst 1, 1) := by decide +kernel
theorem dX4_isIn_1 : decode cX4_isIn 1 = .ok (.istore_n 1, 1) := by decide +kernel
theorem dX4_isIn_2 : decode cX4_isIn 2 = .ok (.iconst 0, 1) := by decide +kernel
theorem dX4_isIn_3 : decode cX4_isIn 3 = .ok (.istore_n 2, 1) := by decide +kernel
theorem dX4_isIn_4 : decode cX4_isIn 4 = .ok (.iload_n 2, 1) := by decide +kernel
theorem dX4_isIn_5 : decode cX4_isIn 5 = .ok (.aload_n 0, 1) := by decide +kernel
theorem dX4_isIn_6 : decode cX4_isIn 6 = .ok (.getfield 7, 3) := by decide +kernel
theorem dX4_isIn_9 : decode cX4_isIn 9 = .ok (.iconst 1, 1) := by decide +kernel
theorem dX4_isIn_10 : decode cX4_isIn 10 = .ok (.iaload, 1) := by decide +kernel
theorem dX4_isIn_11 : decode cX4_isIn 11 = .ok (.if_icmp .ge 83, 3) := by decide +kernel
theorem dX4_isIn_14 : decode cX4_isIn 14 = .ok (.iload_n 1, 1) := by decide +kernel
theorem dX4_isIn_15 : decode cX4_isIn 15 = .ok (.ifCond .eq 71, 3) := by decide +kernel
theorem dX4_isIn_18 : decode cX4_isIn 18 = .ok (.aload_n 0, 1) := by decide +kernel
theorem dX4_isIn_19 : decode cX4_isIn 19 = .ok (.getfield 22, 3) := by decide +kernel
theorem dX4_isIn_22 : decode cX4_isIn 22 = .ok (.iload_n 2, 1) := by decide +kernel
theorem dX4_isIn_23 : decode cX4_isIn 23 = .ok (.laload, 1) := by decide +kernel
theorem dX4_isIn_24 : decode cX4_isIn 24 = .ok (.aload_n 0, 1) := by decide +kernel
theorem dX4_isIn_25 : decode cX4_isIn 25 = .ok (.iload_n 2, 1) := by decide +kernel
theorem dX4_isIn_26 : decode cX4_isIn 26 = .ok (.invokevirtual 46, 3) := by decide +kernel
theorem dX4_isIn_29 : decode cX4_isIn 29 = .ok (.i2l, 1) := by decide +kernel
theorem dX4_isIn_30 : decode cX4_isIn 30 = .ok (.aload_n 0, 1) := by decide +kernel
theorem dX4_isIn_31 : decode cX4_isIn 31 = .ok (.getfield 79, 3) := by decide +kernel
theorem dX4_isIn_34 : decode cX4_isIn 34 = .ok (.lmul, 1) := by decide +kernel
theorem dX4_isIn_35 : decode cX4_isIn 35 = .ok (.lcmp, 1) := by decide +kernel
theorem dX4_isIn_36 : decode cX4_isIn 36 = .ok (.ifCond .lt 50, 3) := by decide +kernel
theorem dX4_isIn_39 : decode cX4_isIn 39 = .ok (.aload_n 0, 1) := by decide +kernel
theorem dX4_isIn_40 : decode cX4_isIn 40 = .ok (.getfield 22, 3) := by decide +kernel
theorem dX4_isIn_43 : decode cX4_isIn 43 = .ok (.iload_n 2, 1) := by decide +kernel
theorem dX4_isIn_44 : decode cX4_isIn 44 = .ok (.laload, 1) := by decide +kernel
theorem dX4_isIn_45 : decode cX4_isIn 45 = .ok (.aload_n 0, 1) := by decide +kernel
theorem dX4_isIn_46 : decode cX4_isIn 46 = .ok (.iload_n 2, 1) := by decide +kernel
theorem dX4_isIn_47 : decode cX4_isIn 47 = .ok (.invokevirtual 50, 3) := by decide +kernel
theorem dX4_isIn_50 : decode cX4_isIn 50 = .ok (.i2l, 1) := by decide +kernel
theorem dX4_isIn_51 : decode cX4_isIn 51 = .ok (.aload_n 0, 1) := by decide +kernel
theorem dX4_isIn_52 : decode cX4_isIn 52 = .ok (.getfield 79, 3) := by decide +kernel
theorem dX4_isIn_55 : decode cX4_isIn 55 = .ok (.lmul, 1) := by decide +kernel
theorem dX4_isIn_56 : decode cX4_isIn 56 = .ok (.lcmp, 1) := by decide +kernel
theorem dX4_isIn_57 : decode cX4_isIn 57 = .ok (.ifCond .gt 29, 3) := by decide +kernel
theorem dX4_isIn_60 : decode cX4_isIn 60 = .ok (.iload_n 2, 1) := by decide +kernel
theorem dX4_isIn_61 : decode cX4_isIn 61 = .ok (.ifCond .eq 21, 3) := by decide +kernel
theorem dX4_isIn_64 : decode cX4_isIn 64 = .ok (.aload_n 0, 1) := by decide +kernel
theorem dX4_isIn_65 : decode cX4_isIn 65 = .ok (.getfield 22, 3) := by decide +kernel
theorem dX4_isIn_68 : decode cX4_isIn 68 = .ok (.iload_n 2, 1) := by decide +kernel
theorem dX4_isIn_69 : decode cX4_isIn 69 = .ok (.laload, 1) := by decide +kernel
theorem dX4_isIn_70 : decode cX4_isIn 70 = .ok (.aload_n 0, 1) := by decide +kernel
theorem dX4_isIn_71 : decode cX4_isIn 71 = .ok (.getfield 22, 3) := by decide +kernel
theorem dX4_isIn_74 : decode cX4_isIn 74 = .ok (.iload_n 2, 1) := by decide +kernel
theorem dX4_isIn_75 : decode cX4_isIn 75 = .ok (.iconst 1, 1) := by decide +kernel
theorem dX4_isIn_76 : decode cX4_isIn 76 = .ok (.isub, 1) := by decide +kernel
theorem dX4_isIn_77 : decode cX4_isIn 77 = .ok (.laload, 1) := by decide +kernel
theorem dX4_isIn_78 : decode cX4_isIn 78 = .ok (.lcmp, 1) := by decide +kernel
theorem dX4_isIn_79 : decode cX4_isIn 79 = .ok (.ifCond .lt 7, 3) := by decide +kernel
theorem dX4_isIn_82 : decode cX4_isIn 82 = .ok (.iconst 1, 1) := by decide +kernel
theorem dX4_isIn_83 : decode cX4_isIn 83 = .ok (.goto 4, 3) := by decide +kernel
theorem dX4_isIn_86 : decode cX4_isIn 86 = .ok (.iconst 0, 1) := by decide +kernel
theorem dX4_isIn_87 : decode cX4_isIn 87 = .ok (.istore_n 1, 1) := by decide +kernel
theorem dX4_isIn_88 : decode cX4_isIn 88 = .ok (.iinc 2 1, 3) := by decide +kernel
theorem dX4_isIn_91 : decode cX4_isIn 91 = .ok (.goto (-87), 3) := by decide +kernel
theorem dX4_isIn_94 : decode cX4_isIn 94 = .ok (.iload_n 1, 1) := by decide +kernel
theorem dX4_isIn_95 : decode cX4_isIn 95 = .ok (.ireturn, 1) := by decide +kernel
set_option maxRecDepth 20000 in
theorem ggX4_isStill_X4_force : GoodIn wsX4_isStill wsX4_force := goodIn_r _ [8, 1, 3, 9, 10, 11, 7, 12, 13, 14, 15, 16, 2, 25, 26, 27, 28, 29, 30, 31, 32, 33, 34, 35, 36, 37, 38, 39, 40, 41, 42, 43, 44, 45] (by decide +kernel) (by decide +kernel)
set_option maxRecDepth 20000 in
theorem gX4_isStill_X4_force : GoodIn wsX4_isStill (wsV RX4 101 RX4 yX4_force wsX4_force) := goodIn_app (goodIn_of _ (by decide +kernel)) ggX4_isStill_X4_force
set_option maxRecDepth 20000 in
theorem ggX4_isStill_X4_high : GoodIn wsX4_isStill wsX4_high := goodIn_r _ [20, 1, 25, 26, 27, 28, 29, 30, 31, 32, 33, 34, 35, 36, 37, 38, 39, 40, 41, 42, 43, 44, 45] (by decide +kernel) (by decide +kernel)
set_option maxRecDepth 20000 in
theorem gX4_isStill_X4_high : GoodIn wsX4_isStill (wsV RX4 50 RX4 yX4_high wsX4_high) := goodIn_app (goodIn_of _ (by decide +kernel)) ggX4_isStill_X4_high
set_option maxRecDepth 20000 in
theorem ggX4_isStill_X4_low : GoodIn wsX4_isStill wsX4_low := goodIn_r _ [24, 1, 25, 26, 27, 28, 29, 30, 31, 32, 33, 34, 35, 36, 37, 38, 39, 40, 41, 42, 43, 44, 45] (by decide +kernel) (by decide +kernel)
set_option maxRecDepth 20000 in
theorem gX4_isStill_X4_low : GoodIn wsX4_isStill (wsV RX4 46 RX4 yX4_low wsX4_low) := goodIn_app (goodIn_of _ (by decide +kernel)) ggX4_isStill_X4_low
theorem dX4_isStill_0 : decode cX4_isStill 0 = .ok (.iconst 1, 1) := by decide +kernel
theorem dX4_isStill_1 : decode cX4_isStill 1 = .ok (.istore_n 1, 1) := by decide +kernel
theorem dX4_isStill_2 : decode cX4_isStill 2 = .ok (.iconst 0, 1) := by decide +kernel
theorem dX4_isStill_3 : decode cX4_isStill 3 = .ok (.istore_n 2, 1) := by decide +kernel
theorem dX4_isStill_4 : decode cX4_isStill 4 = .ok (.iload_n 2, 1) := by decide +kernel
theorem dX4_isStill_5 : decode cX4_isStill 5 = .ok (.aload_n 0, 1) := by decide +kernel
theorem dX4_isStill_6 : decode cX4_isStill 6 = .ok (.getfield 7, 3) := by decide +kernel
theorem dX4_isStill_9 : decode cX4_isStill 9 = .ok (.iconst 1, 1) := by decide +kernel
theorem dX4_isStill_10 : decode cX4_isStill 10 = .ok (.iaload, 1) := by decide +kernel
theorem dX4_isStill_11 : decode cX4_isStill 11 = .ok (.if_icmp .ge 279, 3) := by decide +kernel
theorem dX4_isStill_14 : decode cX4_isStill 14 = .ok (.lconst 0, 1) := by decide +kernel
theorem dX4_isStill_15 : decode cX4_isStill 15 = .ok (.lstore_n 3, 1) := by decide +kernel
theorem dX4_isStill_16 : decode cX4_isStill 16 = .ok (.iconst 1, 1) := by decide +kernel
theorem dX4_isStill_17 : decode cX4_isStill 17 = .ok (.istore 5, 2) := by decide +kernel
theorem dX4_isStill_19 : decode cX4_isStill 19 = .ok (.iload_n 2, 1) := by decide +kernel
theorem dX4_isStill_20 : decode cX4_isStill 20 = .ok (.istore 6, 2) := by decide +kernel
theorem dX4_isStill_22 : decode cX4_isStill 22 = .ok (.iconst 1, 1) := by decide +kernel
theorem dX4_isStill_23 : decode cX4_isStill 23 = .ok (.istore 7, 2) := by decide +kernel
theorem dX4_isStill_25 : decode cX4_isStill 25 = .ok (.iload 7, 2) := by decide +kernel
theorem dX4_isStill_27 : decode cX4_isStill 27 = .ok (.ifCond .eq 105, 3) := by decide +kernel
theorem dX4_isStill_30 : decode cX4_isStill 30 = .ok (.lload_n 3, 1) := by decide +kernel
theorem dX4_isStill_31 : decode cX4_isStill 31 = .ok (.aload_n 0, 1) := by decide +kernel
theorem dX4_isStill_32 : decode cX4_isStill 32 = .ok (.iload 6, 2) := by decide +kernel
theorem dX4_isStill_34 : decode cX4_isStill 34 = .ok (.invokevirtual 101, 3) := by decide +kernel
theorem dX4_isStill_37 : decode cX4_isStill 37 = .ok (.ladd, 1) := by decide +kernel
theorem dX4_isStill_38 : decode cX4_isStill 38 = .ok (.lstore_n 3, 1) := by decide +kernel
theorem dX4_isStill_39 : decode cX4_isStill 39 = .ok (.iload 5, 2) := by decide +kernel
theorem dX4_isStill_41 : decode cX4_isStill 41 = .ok (.ifCond .eq 30, 3) := by decide +kernel
theorem dX4_isStill_44 : decode cX4_isStill 44 = .ok (.aload_n 0, 1) := by decide +kernel
theorem dX4_isStill_45 : decode cX4_isStill 45 = .ok (.getfield 22, 3) := by decide +kernel
theorem dX4_isStill_48 : decode cX4_isStill 48 = .ok (.iload 6, 2) := by decide +kernel
theorem dX4_isStill_50 : decode cX4_isStill 50 = .ok (.laload, 1) := by decide +kernel
theorem dX4_isStill_51 : decode cX4_isStill 51 = .ok (.aload_n 0, 1) := by decide +kernel
theorem dX4_isStill_52 : decode cX4_isStill 52 = .ok (.iload 6, 2) := by decide +kernel
theorem dX4_isStill_54 : decode cX4_isStill 54 = .ok (.invokevirtual 50, 3) := by decide +kernel
theorem dX4_isStill_57 : decode cX4_isStill 57 = .ok (.i2l, 1) := by decide +kernel
theorem dX4_isStill_58 : decode cX4_isStill 58 = .ok (.aload_n 0, 1) := by decide +kernel
theorem dX4_isStill_59 : decode cX4_isStill 59 = .ok (.getfield 79, 3) := by decide +kernel
theorem dX4_isStill_62 : decode cX4_isStill 62 = .ok (.lmul, 1) := by decide +kernel
theorem dX4_isStill_63 : decode cX4_isStill 63 = .ok (.lcmp, 1) := by decide +kernel
theorem dX4_isStill_64 : decode cX4_isStill 64 = .ok (.ifCond .ge 7, 3) := by decide +kernel
theorem dX4_isStill_67 : decode cX4_isStill 67 = .ok (.iconst 1, 1) := by decide +kernel
theorem dX4_isStill_68 : decode cX4_isStill 68 = .ok (.goto 4, 3) := by decide +kernel
theorem dX4_isStill_71 : decode cX4_isStill 71 = .ok (.iconst 0, 1) := by decide +kernel
theorem dX4_isStill_72 : decode cX4_isStill 72 = .ok (.istore 5, 2) := by decide +kernel
theorem dX4_isStill_74 : decode cX4_isStill 74 = .ok (.iload 6, 2) := by decide +kernel
theorem dX4_isStill_76 : decode cX4_isStill 76 = .ok (.iconst 1, 1) := by decide +kernel
theorem dX4_isStill_77 : decode cX4_isStill 77 = .ok (.iadd, 1) := by decide +kernel
theorem dX4_isStill_78 : decode cX4_isStill 78 = .ok (.aload_n 0, 1) := by decide +kernel
theorem dX4_isStill_79 : decode cX4_isStill 79 = .ok (.getfield 7, 3) := by decide +kernel
theorem dX4_isStill_82 : decode cX4_isStill 82 = .ok (.iconst 1, 1) := by decide +kernel
theorem dX4_isStill_83 : decode cX4_isStill 83 = .ok (.iaload, 1) := by decide +kernel
theorem dX4_isStill_84 : decode cX4_isStill 84 = .ok (.if_icmp .ge 27, 3) := by decide +kernel
theorem dX4_isStill_87 : decode cX4_isStill 87 = .ok (.aload_n 0, 1) := by decide +kernel
theorem dX4_isStill_88 : decode cX4_isStill 88 = .ok (.getfield 22, 3) := by decide +kernel
theorem dX4_isStill_91 : decode cX4_isStill 91 = .ok (.iload 6, 2) := by decide +kernel
theorem dX4_isStill_93 : decode cX4_isStill 93 = .ok (.iconst 1, 1) := by decide +kernel
theorem dX4_isStill_94 : decode cX4_isStill 94 = .ok (.iadd, 1) := by decide +kernel
theorem dX4_isStill_95 : decode cX4_isStill 95 = .ok (.laload, 1) := by decide +kernel
theorem dX4_isStill_96 : decode cX4_isStill 96 = .ok (.aload_n 0, 1) := by decide +kernel
theorem dX4_isStill_97 : decode cX4_isStill 97 = .ok (.getfield 22, 3) := by decide +kernel
theorem dX4_isStill_100 : decode cX4_isStill 100 = .ok (.iload 6, 2) := by decide +kernel
theorem dX4_isStill_102 : decode cX4_isStill 102 = .ok (.laload, 1) := by decide +kernel
theorem dX4_isStill_103 : decode cX4_isStill 103 = .ok (.lcmp, 1) := by decide +kernel
theorem dX4_isStill_104 : decode cX4_isStill 104 = .ok (.ifCond .ne 7, 3) := by decide +kernel
theorem dX4_isStill_107 : decode cX4_isStill 107 = .ok (.iconst 1, 1) := by decide +kernel
theorem dX4_isStill_108 : decode cX4_isStill 108 = .ok (.goto 4, 3) := by decide +kernel
theorem dX4_isStill_111 : decode cX4_isStill 111 = .ok (.iconst 0, 1) := by decide +kernel
theorem dX4_isStill_112 : decode cX4_isStill 112 = .ok (.istore 7, 2) := by decide +kernel
theorem dX4_isStill_114 : decode cX4_isStill 114 = .ok (.iload 6, 2) := by decide +kernel
theorem dX4_isStill_116 : decode cX4_isStill 116 = .ok (.iload 7, 2) := by decide +kernel
theorem dX4_isStill_118 : decode cX4_isStill 118 = .ok (.ifCond .eq 7, 3) := by decide +kernel
theorem dX4_isStill_121 : decode cX4_isStill 121 = .ok (.iconst 1, 1) := by decide +kernel
theorem dX4_isStill_122 : decode cX4_isStill 122 = .ok (.goto 4, 3) := by decide +kernel
theorem dX4_isStill_125 : decode cX4_isStill 125 = .ok (.iconst 0, 1) := by decide +kernel
theorem dX4_isStill_126 : decode cX4_isStill 126 = .ok (.iadd, 1) := by decide +kernel
theorem dX4_isStill_127 : decode cX4_isStill 127 = .ok (.istore 6, 2) := by decide +kernel
theorem dX4_isStill_129 : decode cX4_isStill 129 = .ok (.goto (-104), 3) := by decide +kernel
theorem dX4_isStill_132 : decode cX4_isStill 132 = .ok (.iload_n 1, 1) := by decide +kernel
theorem dX4_isStill_133 : decode cX4_isStill 133 = .ok (.ifCond .eq 18, 3) := by decide +kernel
theorem dX4_isStill_136 : decode cX4_isStill 136 = .ok (.iload 5, 2) := by decide +kernel
theorem dX4_isStill_138 : decode cX4_isStill 138 = .ok (.ifCond .eq 9, 3) := by decide +kernel
theorem dX4_isStill_141 : decode cX4_isStill 141 = .ok (.lload_n 3, 1) := by decide +kernel
theorem dX4_isStill_142 : decode cX4_isStill 142 = .ok (.lconst 0, 1) := by decide +kernel
theorem dX4_isStill_143 : decode cX4_isStill 143 = .ok (.lcmp, 1) := by decide +kernel
theorem dX4_isStill_144 : decode cX4_isStill 144 = .ok (.ifCond .gt 7, 3) := by decide +kernel
theorem dX4_isStill_147 : decode cX4_isStill 147 = .ok (.iconst 1, 1) := by decide +kernel
theorem dX4_isStill_148 : decode cX4_isStill 148 = .ok (.goto 4, 3) := by decide +kernel
theorem dX4_isStill_151 : decode cX4_isStill 151 = .ok (.iconst 0, 1) := by decide +kernel
theorem dX4_isStill_152 : decode cX4_isStill 152 = .ok (.istore_n 1, 1) := by decide +kernel
theorem dX4_isStill_153 : decode cX4_isStill 153 = .ok (.lconst 0, 1) := by decide +kernel
theorem dX4_isStill_154 : decode cX4_isStill 154 = .ok (.lstore_n 3, 1) := by decide +kernel
theorem dX4_isStill_155 : decode cX4_isStill 155 = .ok (.iconst 1, 1) := by decide +kernel
theorem dX4_isStill_156 : decode cX4_isStill 156 = .ok (.istore 5, 2) := by decide +kernel
theorem dX4_isStill_158 : decode cX4_isStill 158 = .ok (.iload_n 2, 1) := by decide +kernel
theorem dX4_isStill_159 : decode cX4_isStill 159 = .ok (.istore 6, 2) := by decide +kernel
theorem dX4_isStill_161 : decode cX4_isStill 161 = .ok (.iconst 1, 1) := by decide +kernel
theorem dX4_isStill_162 : decode cX4_isStill 162 = .ok (.istore 7, 2) := by decide +kernel
theorem dX4_isStill_164 : decode cX4_isStill 164 = .ok (.iload 7, 2) := by decide +kernel
theorem dX4_isStill_166 : decode cX4_isStill 166 = .ok (.ifCond .eq 97, 3) := by decide +kernel
theorem dX4_isStill_169 : decode cX4_isStill 169 = .ok (.lload_n 3, 1) := by decide +kernel
theorem dX4_isStill_170 : decode cX4_isStill 170 = .ok (.aload_n 0, 1) := by decide +kernel
theorem dX4_isStill_171 : decode cX4_isStill 171 = .ok (.iload 6, 2) := by decide +kernel
theorem dX4_isStill_173 : decode cX4_isStill 173 = .ok (.invokevirtual 101, 3) := by decide +kernel
theorem dX4_isStill_176 : decode cX4_isStill 176 = .ok (.ladd, 1) := by decide +kernel
theorem dX4_isStill_177 : decode cX4_isStill 177 = .ok (.lstore_n 3, 1) := by decide +kernel
theorem dX4_isStill_178 : decode cX4_isStill 178 = .ok (.iload 5, 2) := by decide +kernel
theorem dX4_isStill_180 : decode cX4_isStill 180 = .ok (.ifCond .eq 30, 3) := by decide +kernel
theorem dX4_isStill_183 : decode cX4_isStill 183 = .ok (.aload_n 0, 1) := by decide +kernel
theorem dX4_isStill_184 : decode cX4_isStill 184 = .ok (.getfield 22, 3) := by decide +kernel
theorem dX4_isStill_187 : decode cX4_isStill 187 = .ok (.iload 6, 2) := by decide +kernel
theorem dX4_isStill_189 : decode cX4_isStill 189 = .ok (.laload, 1) := by decide +kernel
theorem dX4_isStill_190 : decode cX4_isStill 190 = .ok (.aload_n 0, 1) := by decide +kernel
theorem dX4_isStill_191 : decode cX4_isStill 191 = .ok (.iload 6, 2) := by decide +kernel
theorem dX4_isStill_193 : decode cX4_isStill 193 = .ok (.invokevirtual 46, 3) := by decide +kernel
theorem dX4_isStill_196 : decode cX4_isStill 196 = .ok (.i2l, 1) := by decide +kernel
theorem dX4_isStill_197 : decode cX4_isStill 197 = .ok (.aload_n 0, 1) := by decide +kernel
theorem dX4_isStill_198 : decode cX4_isStill 198 = .ok (.getfield 79, 3) := by decide +kernel
theorem dX4_isStill_201 : decode cX4_isStill 201 = .ok (.lmul, 1) := by decide +kernel
theorem dX4_isStill_202 : decode cX4_isStill 202 = .ok (.lcmp, 1) := by decide +kernel
theorem dX4_isStill_203 : decode cX4_isStill 203 = .ok (.ifCond .le 7, 3) := by decide +kernel
theorem dX4_isStill_206 : decode cX4_isStill 206 = .ok (.iconst 1, 1) := by decide +kernel
theorem dX4_isStill_207 : decode cX4_isStill 207 = .ok (.goto 4, 3) := by decide +kernel
theorem dX4_isStill_210 : decode cX4_isStill 210 = .ok (.iconst 0, 1) := by decide +kernel
theorem dX4_isStill_211 : decode cX4_isStill 211 = .ok (.istore 5, 2) := by decide +kernel
theorem dX4_isStill_213 : decode cX4_isStill 213 = .ok (.iload 6, 2) := by decide +kernel
theorem dX4_isStill_215 : decode cX4_isStill 215 = .ok (.ifCond .le 27, 3) := by decide +kernel
theorem dX4_isStill_218 : decode cX4_isStill 218 = .ok (.aload_n 0, 1) := by decide +kernel
theorem dX4_isStill_219 : decode cX4_isStill 219 = .ok (.getfield 22, 3) := by decide +kernel
theorem dX4_isStill_222 : decode cX4_isStill 222 = .ok (.iload 6, 2) := by decide +kernel
theorem dX4_isStill_224 : decode cX4_isStill 224 = .ok (.iconst 1, 1) := by decide +kernel
theorem dX4_isStill_225 : decode cX4_isStill 225 = .ok (.isub, 1) := by decide +kernel
theorem dX4_isStill_226 : decode cX4_isStill 226 = .ok (.laload, 1) := by decide +kernel
theorem dX4_isStill_227 : decode cX4_isStill 227 = .ok (.aload_n 0, 1) := by decide +kernel
theorem dX4_isStill_228 : decode cX4_isStill 228 = .ok (.getfield 22, 3) := by decide +kernel
theorem dX4_isStill_231 : decode cX4_isStill 231 = .ok (.iload 6, 2) := by decide +kernel
theorem dX4_isStill_233 : decode cX4_isStill 233 = .ok (.laload, 1) := by decide +kernel
theorem dX4_isStill_234 : decode cX4_isStill 234 = .ok (.lcmp, 1) := by decide +kernel
theorem dX4_isStill_235 : decode cX4_isStill 235 = .ok (.ifCond .ne 7, 3) := by decide +kernel
theorem dX4_isStill_238 : decode cX4_isStill 238 = .ok (.iconst 1, 1) := by decide +kernel
theorem dX4_isStill_239 : decode cX4_isStill 239 = .ok (.goto 4, 3) := by decide +kernel
theorem dX4_isStill_242 : decode cX4_isStill 242 = .ok (.iconst 0, 1) := by decide +kernel
theorem dX4_isStill_243 : decode cX4_isStill 243 = .ok (.istore 7, 2) := by decide +kernel
theorem dX4_isStill_245 : decode cX4_isStill 245 = .ok (.iload 6, 2) := by decide +kernel
theorem dX4_isStill_247 : decode cX4_isStill 247 = .ok (.iload 7, 2) := by decide +kernel
theorem dX4_isStill_249 : decode cX4_isStill 249 = .ok (.ifCond .eq 7, 3) := by decide +kernel
theorem dX4_isStill_252 : decode cX4_isStill 252 = .ok (.iconst 1, 1) := by decide +kernel
theorem dX4_isStill_253 : decode cX4_isStill 253 = .ok (.goto 4, 3) := by decide +kernel
theorem dX4_isStill_256 : decode cX4_isStill 256 = .ok (.iconst 0, 1) := by decide +kernel
theorem dX4_isStill_257 : decode cX4_isStill 257 = .ok (.isub, 1) := by decide +kernel
theorem dX4_isStill_258 : decode cX4_isStill 258 = .ok (.istore 6, 2) := by decide +kernel
theorem dX4_isStill_260 : decode cX4_isStill 260 = .ok (.goto (-96), 3) := by decide +kernel
theorem dX4_isStill_263 : decode cX4_isStill 263 = .ok (.iload_n 1, 1) := by decide +kernel
theorem dX4_isStill_264 : decode cX4_isStill 264 = .ok (.ifCond .eq 18, 3) := by decide +kernel
theorem dX4_isStill_267 : decode cX4_isStill 267 = .ok (.iload 5, 2) := by decide +kernel
theorem dX4_isStill_269 : decode cX4_isStill 269 = .ok (.ifCond .eq 9, 3) := by decide +kernel
theorem dX4_isStill_272 : decode cX4_isStill 272 = .ok (.lload_n 3, 1) := by decide +kernel
theorem dX4_isStill_273 : decode cX4_isStill 273 = .ok (.lconst 0, 1) := by decide +kernel
theorem dX4_isStill_274 : decode cX4_isStill 274 = .ok (.lcmp, 1) := by decide +kernel
theorem dX4_isStill_275 : decode cX4_isStill 275 = .ok (.ifCond .lt 7, 3) := by decide +kernel
theorem dX4_isStill_278 : decode cX4_isStill 278 = .ok (.iconst 1, 1) := by decide +kernel
theorem dX4_isStill_279 : decode cX4_isStill 279 = .ok (.goto 4, 3) := by decide +kernel
theorem dX4_isStill_282 : decode cX4_isStill 282 = .ok (.iconst 0, 1) := by decide +kernel
theorem dX4_isStill_283 : decode cX4_isStill 283 = .ok (.istore_n 1, 1) := by decide +kernel
theorem dX4_isStill_284 : decode cX4_isStill 284 = .ok (.iinc 2 1, 3) := by decide +kernel
theorem dX4_isStill_287 : decode cX4_isStill 287 = .ok (.goto (-283), 3) := by decide +kernel
theorem dX4_isStill_290 : decode cX4_isStill 290 = .ok (.iload_n 1, 1) := by decide +kernel
theorem dX4_isStill_291 : decode cX4_isStill 291 = .ok (.ireturn, 1) := by decide +kernel
set_option maxRecDepth 20000 in
theorem ggX4_rests_X4_parts : GoodIn wsX4_rests wsX4_parts := goodIn_r _ [8, 3, 2, 9, 56, 57, 58, 59, 60, 61, 62, 63, 64, 65, 66, 67, 68, 69, 70, 71, 72, 73, 74, 75, 76] (by decide +kernel) (by decide +kernel)
set_option maxRecDepth 20000 in
theorem gX4_rests_X4_parts : GoodIn wsX4_rests (wsV RX4 104 RX4 yX4_parts wsX4_parts) := goodIn_app (goodIn_of _ (by decide +kernel)) ggX4_rests_X4_parts
set_option maxRecDepth 20000 in
theorem ggX4_rests_X4_lays : GoodIn wsX4_rests wsX4_lays := goodIn_r _ [13, 3, 14, 15, 16, 17, 7, 18, 2, 9, 19, 20, 21, 22, 23, 24, 25, 26, 27, 28, 29, 30, 56, 57, 58, 59, 60, 61, 62, 63, 64, 65, 66, 67, 68, 69, 70, 71, 72, 73, 74, 75, 76] (by decide +kernel) (by decide +kernel)
set_option maxRecDepth 20000 in
theorem gX4_rests_X4_lays : GoodIn wsX4_rests (wsV RX4 107 RX4 yX4_lays wsX4_lays) := goodIn_app (goodIn_of _ (by decide +kernel)) ggX4_rests_X4_lays
set_option maxRecDepth 20000 in
theorem ggX4_rests_X4_solves : GoodIn wsX4_rests wsX4_solves := goodIn_r _ [34, 3, 14, 1, 9, 35, 56, 57, 58, 59, 60, 61, 62, 63, 64, 65, 66, 67, 68, 69, 70, 71, 72, 73, 74, 75, 76] (by decide +kernel) (by decide +kernel)
set_option maxRecDepth 20000 in
theorem gX4_rests_X4_solves : GoodIn wsX4_rests (wsV RX4 110 RX4 yX4_solves wsX4_solves) := goodIn_app (goodIn_of _ (by decide +kernel)) ggX4_rests_X4_solves
set_option maxRecDepth 20000 in
theorem ggX4_rests_X4_isIn : GoodIn wsX4_rests wsX4_isIn := goodIn_r _ [39, 2, 35, 1, 23, 24, 25, 7, 26, 19, 20, 21, 22, 56, 57, 58, 59, 60, 61, 62, 63, 64, 65, 66, 67, 68, 69, 70, 71, 72, 73, 74, 75, 76] (by decide +kernel) (by decide +kernel)
set_option maxRecDepth 20000 in
theorem gX4_rests_X4_isIn : GoodIn wsX4_rests (wsV RX4 113 RX4 yX4_isIn wsX4_isIn) := goodIn_app (goodIn_of _ (by decide +kernel)) ggX4_rests_X4_isIn
set_option maxRecDepth 20000 in
theorem ggX4_rests_X4_isStill : GoodIn wsX4_rests wsX4_isStill := goodIn_r _ [43, 2, 35, 1, 44, 45, 46, 7, 47, 48, 49, 50, 51, 52, 53, 54, 55, 19, 20, 21, 22, 23, 24, 25, 26, 56, 57, 58, 59, 60, 61, 62, 63, 64, 65, 66, 67, 68, 69, 70, 71, 72, 73, 74, 75, 76] (by decide +kernel) (by decide +kernel)
set_option maxRecDepth 20000 in
theorem gX4_rests_X4_isStill : GoodIn wsX4_rests (wsV RX4 116 RX4 yX4_isStill wsX4_isStill) := goodIn_app (goodIn_of _ (by decide +kernel)) ggX4_rests_X4_isStill
theorem dX4_rests_0 : decode cX4_rests 0 = .ok (.aload_n 0, 1) := by decide +kernel
theorem dX4_rests_1 : decode cX4_rests 1 = .ok (.lconst 1, 1) := by decide +kernel
theorem dX4_rests_2 : decode cX4_rests 2 = .ok (.putfield 79, 3) := by decide +kernel
theorem dX4_rests_5 : decode cX4_rests 5 = .ok (.aload_n 0, 1) := by decide +kernel
theorem dX4_rests_6 : decode cX4_rests 6 = .ok (.getfield 7, 3) := by decide +kernel
theorem dX4_rests_9 : decode cX4_rests 9 = .ok (.iconst 1, 1) := by decide +kernel
theorem dX4_rests_10 : decode cX4_rests 10 = .ok (.iaload, 1) := by decide +kernel
theorem dX4_rests_11 : decode cX4_rests 11 = .ok (.ifCond .ne 7, 3) := by decide +kernel
theorem dX4_rests_14 : decode cX4_rests 14 = .ok (.iconst 1, 1) := by decide +kernel
theorem dX4_rests_15 : decode cX4_rests 15 = .ok (.goto 4, 3) := by decide +kernel
theorem dX4_rests_18 : decode cX4_rests 18 = .ok (.iconst 0, 1) := by decide +kernel
theorem dX4_rests_19 : decode cX4_rests 19 = .ok (.istore_n 1, 1) := by decide +kernel
theorem dX4_rests_20 : decode cX4_rests 20 = .ok (.iconst 0, 1) := by decide +kernel
theorem dX4_rests_21 : decode cX4_rests 21 = .ok (.istore_n 2, 1) := by decide +kernel
theorem dX4_rests_22 : decode cX4_rests 22 = .ok (.iload_n 2, 1) := by decide +kernel
theorem dX4_rests_23 : decode cX4_rests 23 = .ok (.bipush 8, 2) := by decide +kernel
theorem dX4_rests_25 : decode cX4_rests 25 = .ok (.if_icmp .ge 91, 3) := by decide +kernel
theorem dX4_rests_28 : decode cX4_rests 28 = .ok (.iload_n 1, 1) := by decide +kernel
theorem dX4_rests_29 : decode cX4_rests 29 = .ok (.ifCond .ne 87, 3) := by decide +kernel
theorem dX4_rests_32 : decode cX4_rests 32 = .ok (.aload_n 0, 1) := by decide +kernel
theorem dX4_rests_33 : decode cX4_rests 33 = .ok (.iload_n 2, 1) := by decide +kernel
theorem dX4_rests_34 : decode cX4_rests 34 = .ok (.invokevirtual 104, 3) := by decide +kernel
theorem dX4_rests_37 : decode cX4_rests 37 = .ok (.iconst 1, 1) := by decide +kernel
theorem dX4_rests_38 : decode cX4_rests 38 = .ok (.istore_n 3, 1) := by decide +kernel
theorem dX4_rests_39 : decode cX4_rests 39 = .ok (.iconst 0, 1) := by decide +kernel
theorem dX4_rests_40 : decode cX4_rests 40 = .ok (.istore 4, 2) := by decide +kernel
theorem dX4_rests_42 : decode cX4_rests 42 = .ok (.iload 4, 2) := by decide +kernel
theorem dX4_rests_44 : decode cX4_rests 44 = .ok (.aload_n 0, 1) := by decide +kernel
theorem dX4_rests_45 : decode cX4_rests 45 = .ok (.getfield 90, 3) := by decide +kernel
theorem dX4_rests_48 : decode cX4_rests 48 = .ok (.if_icmp .ge 13, 3) := by decide +kernel
theorem dX4_rests_51 : decode cX4_rests 51 = .ok (.iload_n 3, 1) := by decide +kernel
theorem dX4_rests_52 : decode cX4_rests 52 = .ok (.iconst 3, 1) := by decide +kernel
theorem dX4_rests_53 : decode cX4_rests 53 = .ok (.imul, 1) := by decide +kernel
theorem dX4_rests_54 : decode cX4_rests 54 = .ok (.istore_n 3, 1) := by decide +kernel
theorem dX4_rests_55 : decode cX4_rests 55 = .ok (.iinc 4 1, 3) := by decide +kernel
theorem dX4_rests_58 : decode cX4_rests 58 = .ok (.goto (-16), 3) := by decide +kernel
theorem dX4_rests_61 : decode cX4_rests 61 = .ok (.iconst 0, 1) := by decide +kernel
theorem dX4_rests_62 : decode cX4_rests 62 = .ok (.istore 4, 2) := by decide +kernel
theorem dX4_rests_64 : decode cX4_rests 64 = .ok (.iload 4, 2) := by decide +kernel
theorem dX4_rests_66 : decode cX4_rests 66 = .ok (.iload_n 3, 1) := by decide +kernel
theorem dX4_rests_67 : decode cX4_rests 67 = .ok (.if_icmp .ge 43, 3) := by decide +kernel
theorem dX4_rests_70 : decode cX4_rests 70 = .ok (.iload_n 1, 1) := by decide +kernel
theorem dX4_rests_71 : decode cX4_rests 71 = .ok (.ifCond .ne 39, 3) := by decide +kernel
theorem dX4_rests_74 : decode cX4_rests 74 = .ok (.aload_n 0, 1) := by decide +kernel
theorem dX4_rests_75 : decode cX4_rests 75 = .ok (.iload 4, 2) := by decide +kernel
theorem dX4_rests_77 : decode cX4_rests 77 = .ok (.invokevirtual 107, 3) := by decide +kernel
theorem dX4_rests_80 : decode cX4_rests 80 = .ok (.aload_n 0, 1) := by decide +kernel
theorem dX4_rests_81 : decode cX4_rests 81 = .ok (.invokevirtual 110, 3) := by decide +kernel
theorem dX4_rests_84 : decode cX4_rests 84 = .ok (.aload_n 0, 1) := by decide +kernel
theorem dX4_rests_85 : decode cX4_rests 85 = .ok (.invokevirtual 113, 3) := by decide +kernel
theorem dX4_rests_88 : decode cX4_rests 88 = .ok (.ifCond .eq 14, 3) := by decide +kernel
theorem dX4_rests_91 : decode cX4_rests 91 = .ok (.aload_n 0, 1) := by decide +kernel
theorem dX4_rests_92 : decode cX4_rests 92 = .ok (.invokevirtual 116, 3) := by decide +kernel
theorem dX4_rests_95 : decode cX4_rests 95 = .ok (.ifCond .eq 7, 3) := by decide +kernel
theorem dX4_rests_98 : decode cX4_rests 98 = .ok (.iconst 1, 1) := by decide +kernel
theorem dX4_rests_99 : decode cX4_rests 99 = .ok (.goto 4, 3) := by decide +kernel
theorem dX4_rests_102 : decode cX4_rests 102 = .ok (.iconst 0, 1) := by decide +kernel
theorem dX4_rests_103 : decode cX4_rests 103 = .ok (.istore_n 1, 1) := by decide +kernel
theorem dX4_rests_104 : decode cX4_rests 104 = .ok (.iinc 4 1, 3) := by decide +kernel
theorem dX4_rests_107 : decode cX4_rests 107 = .ok (.goto (-43), 3) := by decide +kernel
theorem dX4_rests_110 : decode cX4_rests 110 = .ok (.iinc 2 1, 3) := by decide +kernel
theorem dX4_rests_113 : decode cX4_rests 113 = .ok (.goto (-91), 3) := by decide +kernel
theorem dX4_rests_116 : decode cX4_rests 116 = .ok (.return_, 1) := by decide +kernel
theorem dX4_divisor_0 : decode cX4_divisor 0 = .ok (.lload_n 0, 1) := by decide +kernel
theorem dX4_divisor_1 : decode cX4_divisor 1 = .ok (.lconst 0, 1) := by decide +kernel
theorem dX4_divisor_2 : decode cX4_divisor 2 = .ok (.lcmp, 1) := by decide +kernel
theorem dX4_divisor_3 : decode cX4_divisor 3 = .ok (.ifCond .ge 8, 3) := by decide +kernel
theorem dX4_divisor_6 : decode cX4_divisor 6 = .ok (.lload_n 0, 1) := by decide +kernel
theorem dX4_divisor_7 : decode cX4_divisor 7 = .ok (.lneg, 1) := by decide +kernel
theorem dX4_divisor_8 : decode cX4_divisor 8 = .ok (.goto 4, 3) := by decide +kernel
theorem dX4_divisor_11 : decode cX4_divisor 11 = .ok (.lload_n 0, 1) := by decide +kernel
theorem dX4_divisor_12 : decode cX4_divisor 12 = .ok (.lstore 4, 2) := by decide +kernel
theorem dX4_divisor_14 : decode cX4_divisor 14 = .ok (.lload_n 2, 1) := by decide +kernel
theorem dX4_divisor_15 : decode cX4_divisor 15 = .ok (.lstore 6, 2) := by decide +kernel
theorem dX4_divisor_17 : decode cX4_divisor 17 = .ok (.lload 6, 2) := by decide +kernel
theorem dX4_divisor_19 : decode cX4_divisor 19 = .ok (.lconst 0, 1) := by decide +kernel
theorem dX4_divisor_20 : decode cX4_divisor 20 = .ok (.lcmp, 1) := by decide +kernel
theorem dX4_divisor_21 : decode cX4_divisor 21 = .ok (.ifCond .le 21, 3) := by decide +kernel
theorem dX4_divisor_24 : decode cX4_divisor 24 = .ok (.lload 4, 2) := by decide +kernel
theorem dX4_divisor_26 : decode cX4_divisor 26 = .ok (.lload 6, 2) := by decide +kernel
theorem dX4_divisor_28 : decode cX4_divisor 28 = .ok (.lrem, 1) := by decide +kernel
theorem dX4_divisor_29 : decode cX4_divisor 29 = .ok (.lstore 8, 2) := by decide +kernel
theorem dX4_divisor_31 : decode cX4_divisor 31 = .ok (.lload 6, 2) := by decide +kernel
theorem dX4_divisor_33 : decode cX4_divisor 33 = .ok (.lstore 4, 2) := by decide +kernel
theorem dX4_divisor_35 : decode cX4_divisor 35 = .ok (.lload 8, 2) := by decide +kernel
theorem dX4_divisor_37 : decode cX4_divisor 37 = .ok (.lstore 6, 2) := by decide +kernel
theorem dX4_divisor_39 : decode cX4_divisor 39 = .ok (.goto (-22), 3) := by decide +kernel
theorem dX4_divisor_42 : decode cX4_divisor 42 = .ok (.lload 4, 2) := by decide +kernel
theorem dX4_divisor_44 : decode cX4_divisor 44 = .ok (.lreturn, 1) := by decide +kernel
set_option maxRecDepth 20000 in
theorem ggX4_part_X4_divisor : GoodIn wsX4_part wsX4_divisor := goodIn_r _ [4] (by decide +kernel) (by decide +kernel)
set_option maxRecDepth 20000 in
theorem gX4_part_X4_divisor : GoodIn wsX4_part (va_wsS RX4 119 yX4_divisor wsX4_divisor) := goodIn_app (goodIn_of _ (by decide +kernel)) ggX4_part_X4_divisor
theorem dX4_part_0 : decode cX4_part 0 = .ok (.lload_n 0, 1) := by decide +kernel
theorem dX4_part_1 : decode cX4_part 1 = .ok (.lload_n 2, 1) := by decide +kernel
theorem dX4_part_2 : decode cX4_part 2 = .ok (.invokestatic 119, 3) := by decide +kernel
theorem dX4_part_5 : decode cX4_part 5 = .ok (.lstore 6, 2) := by decide +kernel
theorem dX4_part_7 : decode cX4_part 7 = .ok (.iload 4, 2) := by decide +kernel
theorem dX4_part_9 : decode cX4_part 9 = .ok (.ifCond .ne 14, 3) := by decide +kernel
theorem dX4_part_12 : decode cX4_part 12 = .ok (.lload_n 0, 1) := by decide +kernel
theorem dX4_part_13 : decode cX4_part 13 = .ok (.lload 6, 2) := by decide +kernel
theorem dX4_part_15 : decode cX4_part 15 = .ok (.ldiv, 1) := by decide +kernel
theorem dX4_part_16 : decode cX4_part 16 = .ok (.iload 5, 2) := by decide +kernel
theorem dX4_part_18 : decode cX4_part 18 = .ok (.i2l, 1) := by decide +kernel
theorem dX4_part_19 : decode cX4_part 19 = .ok (.ladd, 1) := by decide +kernel
theorem dX4_part_20 : decode cX4_part 20 = .ok (.goto 7, 3) := by decide +kernel
theorem dX4_part_23 : decode cX4_part 23 = .ok (.lload_n 2, 1) := by decide +kernel
theorem dX4_part_24 : decode cX4_part 24 = .ok (.lload 6, 2) := by decide +kernel
theorem dX4_part_26 : decode cX4_part 26 = .ok (.ldiv, 1) := by decide +kernel
theorem dX4_part_27 : decode cX4_part 27 = .ok (.l2i, 1) := by decide +kernel
theorem dX4_part_28 : decode cX4_part 28 = .ok (.ireturn, 1) := by decide +kernel
set_option maxRecDepth 20000 in
theorem ggX4_place_X4_isPlate : GoodIn wsX4_place wsX4_isPlate := goodIn_r _ [8, 9, 74, 75, 76, 77, 78, 79, 80, 81, 82, 83, 84, 85, 86, 87, 88, 89, 90, 91, 92, 93, 94] (by decide +kernel) (by decide +kernel)
set_option maxRecDepth 20000 in
theorem gX4_place_X4_isPlate : GoodIn wsX4_place (wsV RX4 63 RX4 yX4_isPlate wsX4_isPlate) := goodIn_app (goodIn_of _ (by decide +kernel)) ggX4_place_X4_isPlate
set_option maxRecDepth 20000 in
theorem ggX4_place_X4_in : GoodIn wsX4_place wsX4_in := goodIn_r _ [12] (by decide +kernel) (by decide +kernel)
set_option maxRecDepth 20000 in
theorem gX4_place_X4_in : GoodIn wsX4_place (va_wsS RX4 53 yX4_in wsX4_in) := goodIn_app (goodIn_of _ (by decide +kernel)) ggX4_place_X4_in
set_option maxRecDepth 20000 in
theorem ggX4_place_X4_rests : GoodIn wsX4_place wsX4_rests := goodIn_r _ [16, 3, 9, 17, 18, 19, 20, 7, 21, 22, 23, 24, 25, 26, 27, 28, 29, 30, 31, 32, 33, 34, 35, 36, 37, 38, 39, 40, 41, 42, 43, 44, 45, 46, 47, 2, 48, 49, 50, 51, 52, 53, 54, 55, 56, 57, 58, 59, 60, 61, 62, 63, 64, 65, 66, 67, 74, 75, 76, 77, 78, 79, 80, 81, 82, 83, 84, 85, 86, 87, 88, 89, 90, 91, 92, 93, 94] (by decide +kernel) (by decide +kernel)
set_option maxRecDepth 20000 in
theorem gX4_place_X4_rests : GoodIn wsX4_place (wsV RX4 123 RX4 yX4_rests wsX4_rests) := goodIn_app (goodIn_of _ (by decide +kernel)) ggX4_place_X4_rests
set_option maxRecDepth 20000 in
theorem ggX4_place_X4_part : GoodIn wsX4_place wsX4_part := goodIn_r _ [70, 71, 72, 7, 73] (by decide +kernel) (by decide +kernel)
set_option maxRecDepth 20000 in
theorem gX4_place_X4_part : GoodIn wsX4_place (va_wsS RX4 126 yX4_part wsX4_part) := goodIn_app (goodIn_of _ (by decide +kernel)) ggX4_place_X4_part
theorem dX4_place_0 : decode cX4_place 0 = .ok (.aload_n 0, 1) := by decide +kernel
theorem dX4_place_1 : decode cX4_place 1 = .ok (.iload_n 1, 1) := by decide +kernel
theorem dX4_place_2 : decode cX4_place 2 = .ok (.invokevirtual 63, 3) := by decide +kernel
theorem dX4_place_5 : decode cX4_place 5 = .ok (.ifCond .eq 12, 3) := by decide +kernel
theorem dX4_place_8 : decode cX4_place 8 = .ok (.iload_n 2, 1) := by decide +kernel
theorem dX4_place_9 : decode cX4_place 9 = .ok (.iconst 0, 1) := by decide +kernel
theorem dX4_place_10 : decode cX4_place 10 = .ok (.iconst 2, 1) := by decide +kernel
theorem dX4_place_11 : decode cX4_place 11 = .ok (.invokestatic 53, 3) := by decide +kernel
theorem dX4_place_14 : decode cX4_place 14 = .ok (.ifCond .ne 6, 3) := by decide +kernel
theorem dX4_place_17 : decode cX4_place 17 = .ok (.ldc 57, 2) := by decide +kernel
theorem dX4_place_19 : decode cX4_place 19 = .ok (.ireturn, 1) := by decide +kernel
theorem dX4_place_20 : decode cX4_place 20 = .ok (.aload_n 0, 1) := by decide +kernel
theorem dX4_place_21 : decode cX4_place 21 = .ok (.invokevirtual 123, 3) := by decide +kernel
theorem dX4_place_24 : decode cX4_place 24 = .ok (.iload_n 2, 1) := by decide +kernel
theorem dX4_place_25 : decode cX4_place 25 = .ok (.iconst 2, 1) := by decide +kernel
theorem dX4_place_26 : decode cX4_place 26 = .ok (.if_icmp .ne 18, 3) := by decide +kernel
theorem dX4_place_29 : decode cX4_place 29 = .ok (.aload_n 0, 1) := by decide +kernel
theorem dX4_place_30 : decode cX4_place 30 = .ok (.getfield 22, 3) := by decide +kernel
theorem dX4_place_33 : decode cX4_place 33 = .ok (.iload_n 1, 1) := by decide +kernel
theorem dX4_place_34 : decode cX4_place 34 = .ok (.laload, 1) := by decide +kernel
theorem dX4_place_35 : decode cX4_place 35 = .ok (.aload_n 0, 1) := by decide +kernel
theorem dX4_place_36 : decode cX4_place 36 = .ok (.getfield 79, 3) := by decide +kernel
theorem dX4_place_39 : decode cX4_place 39 = .ok (.ldiv, 1) := by decide +kernel
theorem dX4_place_40 : decode cX4_place 40 = .ok (.l2i, 1) := by decide +kernel
theorem dX4_place_41 : decode cX4_place 41 = .ok (.goto 18, 3) := by decide +kernel
theorem dX4_place_44 : decode cX4_place 44 = .ok (.aload_n 0, 1) := by decide +kernel
theorem dX4_place_45 : decode cX4_place 45 = .ok (.getfield 22, 3) := by decide +kernel
theorem dX4_place_48 : decode cX4_place 48 = .ok (.iload_n 1, 1) := by decide +kernel
theorem dX4_place_49 : decode cX4_place 49 = .ok (.laload, 1) := by decide +kernel
theorem dX4_place_50 : decode cX4_place 50 = .ok (.aload_n 0, 1) := by decide +kernel
theorem dX4_place_51 : decode cX4_place 51 = .ok (.getfield 79, 3) := by decide +kernel
theorem dX4_place_54 : decode cX4_place 54 = .ok (.iload_n 2, 1) := by decide +kernel
theorem dX4_place_55 : decode cX4_place 55 = .ok (.iconst 0, 1) := by decide +kernel
theorem dX4_place_56 : decode cX4_place 56 = .ok (.invokestatic 126, 3) := by decide +kernel
theorem dX4_place_59 : decode cX4_place 59 = .ok (.ireturn, 1) := by decide +kernel
set_option maxRecDepth 20000 in
theorem ggX4_pull_X4_isSpring : GoodIn wsX4_pull wsX4_isSpring := goodIn_r _ [8, 9, 75, 76, 77, 78, 79, 80, 81, 82, 83, 84, 85, 86, 87, 88, 89, 90, 91, 92, 93, 94, 95] (by decide +kernel) (by decide +kernel)
set_option maxRecDepth 20000 in
theorem gX4_pull_X4_isSpring : GoodIn wsX4_pull (wsV RX4 67 RX4 yX4_isSpring wsX4_isSpring) := goodIn_app (goodIn_of _ (by decide +kernel)) ggX4_pull_X4_isSpring
set_option maxRecDepth 20000 in
theorem ggX4_pull_X4_in : GoodIn wsX4_pull wsX4_in := goodIn_r _ [12] (by decide +kernel) (by decide +kernel)
set_option maxRecDepth 20000 in
theorem gX4_pull_X4_in : GoodIn wsX4_pull (va_wsS RX4 53 yX4_in wsX4_in) := goodIn_app (goodIn_of _ (by decide +kernel)) ggX4_pull_X4_in
set_option maxRecDepth 20000 in
theorem ggX4_pull_X4_rests : GoodIn wsX4_pull wsX4_rests := goodIn_r _ [16, 2, 9, 17, 18, 19, 20, 7, 21, 22, 23, 24, 25, 26, 27, 28, 29, 30, 31, 32, 33, 34, 35, 36, 37, 38, 39, 40, 41, 42, 43, 44, 45, 46, 47, 48, 49, 50, 51, 52, 53, 54, 55, 56, 57, 58, 59, 60, 61, 62, 63, 64, 65, 66, 67, 68, 75, 76, 77, 78, 79, 80, 81, 82, 83, 84, 85, 86, 87, 88, 89, 90, 91, 92, 93, 94, 95] (by decide +kernel) (by decide +kernel)
set_option maxRecDepth 20000 in
theorem gX4_pull_X4_rests : GoodIn wsX4_pull (wsV RX4 123 RX4 yX4_rests wsX4_rests) := goodIn_app (goodIn_of _ (by decide +kernel)) ggX4_pull_X4_rests
set_option maxRecDepth 20000 in
theorem ggX4_pull_X4_pullOf : GoodIn wsX4_pull wsX4_pullOf := goodIn_r _ [64, 9, 2, 65, 66, 67, 7, 68, 48, 75, 76, 77, 78, 79, 80, 81, 82, 83, 84, 85, 86, 87, 88, 89, 90, 91, 92, 93, 94, 95] (by decide +kernel) (by decide +kernel)
set_option maxRecDepth 20000 in
theorem gX4_pull_X4_pullOf : GoodIn wsX4_pull (wsV RX4 87 RX4 yX4_pullOf wsX4_pullOf) := goodIn_app (goodIn_of _ (by decide +kernel)) ggX4_pull_X4_pullOf
set_option maxRecDepth 20000 in
theorem ggX4_pull_X4_part : GoodIn wsX4_pull wsX4_part := goodIn_r _ [71, 72, 73, 7, 74] (by decide +kernel) (by decide +kernel)
set_option maxRecDepth 20000 in
theorem gX4_pull_X4_part : GoodIn wsX4_pull (va_wsS RX4 126 yX4_part wsX4_part) := goodIn_app (goodIn_of _ (by decide +kernel)) ggX4_pull_X4_part
theorem dX4_pull_0 : decode cX4_pull 0 = .ok (.aload_n 0, 1) := by decide +kernel
theorem dX4_pull_1 : decode cX4_pull 1 = .ok (.iload_n 1, 1) := by decide +kernel
theorem dX4_pull_2 : decode cX4_pull 2 = .ok (.invokevirtual 67, 3) := by decide +kernel
theorem dX4_pull_5 : decode cX4_pull 5 = .ok (.ifCond .eq 12, 3) := by decide +kernel
theorem dX4_pull_8 : decode cX4_pull 8 = .ok (.iload_n 2, 1) := by decide +kernel
theorem dX4_pull_9 : decode cX4_pull 9 = .ok (.iconst 0, 1) := by decide +kernel
theorem dX4_pull_10 : decode cX4_pull 10 = .ok (.iconst 1, 1) := by decide +kernel
theorem dX4_pull_11 : decode cX4_pull 11 = .ok (.invokestatic 53, 3) := by decide +kernel
theorem dX4_pull_14 : decode cX4_pull 14 = .ok (.ifCond .ne 6, 3) := by decide +kernel
theorem dX4_pull_17 : decode cX4_pull 17 = .ok (.ldc 57, 2) := by decide +kernel
theorem dX4_pull_19 : decode cX4_pull 19 = .ok (.ireturn, 1) := by decide +kernel
theorem dX4_pull_20 : decode cX4_pull 20 = .ok (.aload_n 0, 1) := by decide +kernel
theorem dX4_pull_21 : decode cX4_pull 21 = .ok (.invokevirtual 123, 3) := by decide +kernel
theorem dX4_pull_24 : decode cX4_pull 24 = .ok (.aload_n 0, 1) := by decide +kernel
theorem dX4_pull_25 : decode cX4_pull 25 = .ok (.iload_n 1, 1) := by decide +kernel
theorem dX4_pull_26 : decode cX4_pull 26 = .ok (.invokevirtual 87, 3) := by decide +kernel
theorem dX4_pull_29 : decode cX4_pull 29 = .ok (.aload_n 0, 1) := by decide +kernel
theorem dX4_pull_30 : decode cX4_pull 30 = .ok (.getfield 79, 3) := by decide +kernel
theorem dX4_pull_33 : decode cX4_pull 33 = .ok (.iload_n 2, 1) := by decide +kernel
theorem dX4_pull_34 : decode cX4_pull 34 = .ok (.ldc 130, 2) := by decide +kernel
theorem dX4_pull_36 : decode cX4_pull 36 = .ok (.invokestatic 126, 3) := by decide +kernel
theorem dX4_pull_39 : decode cX4_pull 39 = .ok (.ireturn, 1) := by decide +kernel
set_option maxRecDepth 20000 in
theorem ggX4_push_X4_isPlate : GoodIn wsX4_push wsX4_isPlate := goodIn_r _ [8, 9, 75, 76, 77, 78, 79, 80, 81, 82, 83, 84, 85, 86, 87, 88, 89, 90, 91, 92, 93, 94, 95] (by decide +kernel) (by decide +kernel)
set_option maxRecDepth 20000 in
theorem gX4_push_X4_isPlate : GoodIn wsX4_push (wsV RX4 63 RX4 yX4_isPlate wsX4_isPlate) := goodIn_app (goodIn_of _ (by decide +kernel)) ggX4_push_X4_isPlate
set_option maxRecDepth 20000 in
theorem ggX4_push_X4_in : GoodIn wsX4_push wsX4_in := goodIn_r _ [12] (by decide +kernel) (by decide +kernel)
set_option maxRecDepth 20000 in
theorem gX4_push_X4_in : GoodIn wsX4_push (va_wsS RX4 53 yX4_in wsX4_in) := goodIn_app (goodIn_of _ (by decide +kernel)) ggX4_push_X4_in
set_option maxRecDepth 20000 in
theorem ggX4_push_X4_rests : GoodIn wsX4_push wsX4_rests := goodIn_r _ [16, 2, 9, 17, 18, 19, 20, 7, 21, 22, 23, 24, 25, 26, 27, 28, 29, 30, 31, 32, 33, 34, 35, 36, 37, 38, 39, 40, 41, 42, 43, 44, 45, 46, 47, 48, 49, 50, 51, 52, 53, 54, 55, 56, 57, 58, 59, 60, 61, 62, 63, 64, 65, 66, 67, 68, 75, 76, 77, 78, 79, 80, 81, 82, 83, 84, 85, 86, 87, 88, 89, 90, 91, 92, 93, 94, 95] (by decide +kernel) (by decide +kernel)
set_option maxRecDepth 20000 in
theorem gX4_push_X4_rests : GoodIn wsX4_push (wsV RX4 123 RX4 yX4_rests wsX4_rests) := goodIn_app (goodIn_of _ (by decide +kernel)) ggX4_push_X4_rests
set_option maxRecDepth 20000 in
theorem ggX4_push_X4_force : GoodIn wsX4_push wsX4_force := goodIn_r _ [60, 9, 2, 61, 62, 63, 7, 64, 65, 66, 67, 68, 48, 75, 76, 77, 78, 79, 80, 81, 82, 83, 84, 85, 86, 87, 88, 89, 90, 91, 92, 93, 94, 95] (by decide +kernel) (by decide +kernel)
set_option maxRecDepth 20000 in
theorem gX4_push_X4_force : GoodIn wsX4_push (wsV RX4 101 RX4 yX4_force wsX4_force) := goodIn_app (goodIn_of _ (by decide +kernel)) ggX4_push_X4_force
set_option maxRecDepth 20000 in
theorem ggX4_push_X4_part : GoodIn wsX4_push wsX4_part := goodIn_r _ [71, 72, 73, 7, 74] (by decide +kernel) (by decide +kernel)
set_option maxRecDepth 20000 in
theorem gX4_push_X4_part : GoodIn wsX4_push (va_wsS RX4 126 yX4_part wsX4_part) := goodIn_app (goodIn_of _ (by decide +kernel)) ggX4_push_X4_part
theorem dX4_push_0 : decode cX4_push 0 = .ok (.aload_n 0, 1) := by decide +kernel
theorem dX4_push_1 : decode cX4_push 1 = .ok (.iload_n 1, 1) := by decide +kernel
theorem dX4_push_2 : decode cX4_push 2 = .ok (.invokevirtual 63, 3) := by decide +kernel
theorem dX4_push_5 : decode cX4_push 5 = .ok (.ifCond .eq 12, 3) := by decide +kernel
theorem dX4_push_8 : decode cX4_push 8 = .ok (.iload_n 2, 1) := by decide +kernel
theorem dX4_push_9 : decode cX4_push 9 = .ok (.iconst 0, 1) := by decide +kernel
theorem dX4_push_10 : decode cX4_push 10 = .ok (.iconst 1, 1) := by decide +kernel
theorem dX4_push_11 : decode cX4_push 11 = .ok (.invokestatic 53, 3) := by decide +kernel
theorem dX4_push_14 : decode cX4_push 14 = .ok (.ifCond .ne 6, 3) := by decide +kernel
theorem dX4_push_17 : decode cX4_push 17 = .ok (.ldc 57, 2) := by decide +kernel
theorem dX4_push_19 : decode cX4_push 19 = .ok (.ireturn, 1) := by decide +kernel
theorem dX4_push_20 : decode cX4_push 20 = .ok (.aload_n 0, 1) := by decide +kernel
theorem dX4_push_21 : decode cX4_push 21 = .ok (.invokevirtual 123, 3) := by decide +kernel
theorem dX4_push_24 : decode cX4_push 24 = .ok (.aload_n 0, 1) := by decide +kernel
theorem dX4_push_25 : decode cX4_push 25 = .ok (.iload_n 1, 1) := by decide +kernel
theorem dX4_push_26 : decode cX4_push 26 = .ok (.invokevirtual 101, 3) := by decide +kernel
theorem dX4_push_29 : decode cX4_push 29 = .ok (.lneg, 1) := by decide +kernel
theorem dX4_push_30 : decode cX4_push 30 = .ok (.aload_n 0, 1) := by decide +kernel
theorem dX4_push_31 : decode cX4_push 31 = .ok (.getfield 79, 3) := by decide +kernel
theorem dX4_push_34 : decode cX4_push 34 = .ok (.iload_n 2, 1) := by decide +kernel
theorem dX4_push_35 : decode cX4_push 35 = .ok (.ldc 130, 2) := by decide +kernel
theorem dX4_push_37 : decode cX4_push 37 = .ok (.invokestatic 126, 3) := by decide +kernel
theorem dX4_push_40 : decode cX4_push 40 = .ok (.ireturn, 1) := by decide +kernel
set_option maxRecDepth 20000 in
theorem ggX4_isSo_X4_force : GoodIn wsX4_isSo wsX4_force := goodIn_r _ [8, 1, 3, 9, 10, 11, 7, 12, 13, 14, 15, 16, 2, 17, 18, 19, 20, 21, 22, 23, 24, 25, 26, 27, 28, 29, 30, 31, 32, 33, 34, 35, 36, 37] (by decide +kernel) (by decide +kernel)
set_option maxRecDepth 20000 in
theorem gX4_isSo_X4_force : GoodIn wsX4_isSo (wsV RX4 101 RX4 yX4_force wsX4_force) := goodIn_app (goodIn_of _ (by decide +kernel)) ggX4_isSo_X4_force
theorem dX4_isSo_0 : decode cX4_isSo 0 = .ok (.iload_n 2, 1) := by decide +kernel
theorem dX4_isSo_1 : decode cX4_isSo 1 = .ok (.tableswitch 192 0 3 #[31, 74, 117, 153], 31) := by decide +kernel
theorem dX4_isSo_32 : decode cX4_isSo 32 = .ok (.aload_n 0, 1) := by decide +kernel
theorem dX4_isSo_33 : decode cX4_isSo 33 = .ok (.getfield 7, 3) := by decide +kernel
theorem dX4_isSo_36 : decode cX4_isSo 36 = .ok (.bipush 16, 2) := by decide +kernel
theorem dX4_isSo_38 : decode cX4_isSo 38 = .ok (.iload_n 1, 1) := by decide +kernel
theorem dX4_isSo_39 : decode cX4_isSo 39 = .ok (.iadd, 1) := by decide +kernel
theorem dX4_isSo_40 : decode cX4_isSo 40 = .ok (.iaload, 1) := by decide +kernel
theorem dX4_isSo_41 : decode cX4_isSo 41 = .ok (.ifCond .lt 32, 3) := by decide +kernel
theorem dX4_isSo_44 : decode cX4_isSo 44 = .ok (.aload_n 0, 1) := by decide +kernel
theorem dX4_isSo_45 : decode cX4_isSo 45 = .ok (.getfield 22, 3) := by decide +kernel
theorem dX4_isSo_48 : decode cX4_isSo 48 = .ok (.iload_n 1, 1) := by decide +kernel
theorem dX4_isSo_49 : decode cX4_isSo 49 = .ok (.laload, 1) := by decide +kernel
theorem dX4_isSo_50 : decode cX4_isSo 50 = .ok (.aload_n 0, 1) := by decide +kernel
theorem dX4_isSo_51 : decode cX4_isSo 51 = .ok (.getfield 7, 3) := by decide +kernel
theorem dX4_isSo_54 : decode cX4_isSo 54 = .ok (.bipush 16, 2) := by decide +kernel
theorem dX4_isSo_56 : decode cX4_isSo 56 = .ok (.iload_n 1, 1) := by decide +kernel
theorem dX4_isSo_57 : decode cX4_isSo 57 = .ok (.iadd, 1) := by decide +kernel
theorem dX4_isSo_58 : decode cX4_isSo 58 = .ok (.iaload, 1) := by decide +kernel
theorem dX4_isSo_59 : decode cX4_isSo 59 = .ok (.i2l, 1) := by decide +kernel
theorem dX4_isSo_60 : decode cX4_isSo 60 = .ok (.aload_n 0, 1) := by decide +kernel
theorem dX4_isSo_61 : decode cX4_isSo 61 = .ok (.getfield 79, 3) := by decide +kernel
theorem dX4_isSo_64 : decode cX4_isSo 64 = .ok (.lmul, 1) := by decide +kernel
theorem dX4_isSo_65 : decode cX4_isSo 65 = .ok (.lcmp, 1) := by decide +kernel
theorem dX4_isSo_66 : decode cX4_isSo 66 = .ok (.ifCond .ne 7, 3) := by decide +kernel
theorem dX4_isSo_69 : decode cX4_isSo 69 = .ok (.iconst 1, 1) := by decide +kernel
theorem dX4_isSo_70 : decode cX4_isSo 70 = .ok (.goto 4, 3) := by decide +kernel
theorem dX4_isSo_73 : decode cX4_isSo 73 = .ok (.iconst 0, 1) := by decide +kernel
theorem dX4_isSo_74 : decode cX4_isSo 74 = .ok (.ireturn, 1) := by decide +kernel
theorem dX4_isSo_75 : decode cX4_isSo 75 = .ok (.aload_n 0, 1) := by decide +kernel
theorem dX4_isSo_76 : decode cX4_isSo 76 = .ok (.getfield 7, 3) := by decide +kernel
theorem dX4_isSo_79 : decode cX4_isSo 79 = .ok (.bipush 20, 2) := by decide +kernel
theorem dX4_isSo_81 : decode cX4_isSo 81 = .ok (.iload_n 1, 1) := by decide +kernel
theorem dX4_isSo_82 : decode cX4_isSo 82 = .ok (.iadd, 1) := by decide +kernel
theorem dX4_isSo_83 : decode cX4_isSo 83 = .ok (.iaload, 1) := by decide +kernel
theorem dX4_isSo_84 : decode cX4_isSo 84 = .ok (.ifCond .lt 32, 3) := by decide +kernel
theorem dX4_isSo_87 : decode cX4_isSo 87 = .ok (.aload_n 0, 1) := by decide +kernel
theorem dX4_isSo_88 : decode cX4_isSo 88 = .ok (.getfield 22, 3) := by decide +kernel
theorem dX4_isSo_91 : decode cX4_isSo 91 = .ok (.iload_n 1, 1) := by decide +kernel
theorem dX4_isSo_92 : decode cX4_isSo 92 = .ok (.laload, 1) := by decide +kernel
theorem dX4_isSo_93 : decode cX4_isSo 93 = .ok (.aload_n 0, 1) := by decide +kernel
theorem dX4_isSo_94 : decode cX4_isSo 94 = .ok (.getfield 7, 3) := by decide +kernel
theorem dX4_isSo_97 : decode cX4_isSo 97 = .ok (.bipush 20, 2) := by decide +kernel
theorem dX4_isSo_99 : decode cX4_isSo 99 = .ok (.iload_n 1, 1) := by decide +kernel
theorem dX4_isSo_100 : decode cX4_isSo 100 = .ok (.iadd, 1) := by decide +kernel
theorem dX4_isSo_101 : decode cX4_isSo 101 = .ok (.iaload, 1) := by decide +kernel
theorem dX4_isSo_102 : decode cX4_isSo 102 = .ok (.i2l, 1) := by decide +kernel
theorem dX4_isSo_103 : decode cX4_isSo 103 = .ok (.aload_n 0, 1) := by decide +kernel
theorem dX4_isSo_104 : decode cX4_isSo 104 = .ok (.getfield 79, 3) := by decide +kernel
theorem dX4_isSo_107 : decode cX4_isSo 107 = .ok (.lmul, 1) := by decide +kernel
theorem dX4_isSo_108 : decode cX4_isSo 108 = .ok (.lcmp, 1) := by decide +kernel
theorem dX4_isSo_109 : decode cX4_isSo 109 = .ok (.ifCond .ne 7, 3) := by decide +kernel
theorem dX4_isSo_112 : decode cX4_isSo 112 = .ok (.iconst 1, 1) := by decide +kernel
theorem dX4_isSo_113 : decode cX4_isSo 113 = .ok (.goto 4, 3) := by decide +kernel
theorem dX4_isSo_116 : decode cX4_isSo 116 = .ok (.iconst 0, 1) := by decide +kernel
theorem dX4_isSo_117 : decode cX4_isSo 117 = .ok (.ireturn, 1) := by decide +kernel
theorem dX4_isSo_118 : decode cX4_isSo 118 = .ok (.iload_n 1, 1) := by decide +kernel
theorem dX4_isSo_119 : decode cX4_isSo 119 = .ok (.iconst 1, 1) := by decide +kernel
theorem dX4_isSo_120 : decode cX4_isSo 120 = .ok (.iadd, 1) := by decide +kernel
theorem dX4_isSo_121 : decode cX4_isSo 121 = .ok (.aload_n 0, 1) := by decide +kernel
theorem dX4_isSo_122 : decode cX4_isSo 122 = .ok (.getfield 7, 3) := by decide +kernel
theorem dX4_isSo_125 : decode cX4_isSo 125 = .ok (.iconst 1, 1) := by decide +kernel
theorem dX4_isSo_126 : decode cX4_isSo 126 = .ok (.iaload, 1) := by decide +kernel
theorem dX4_isSo_127 : decode cX4_isSo 127 = .ok (.if_icmp .ge 25, 3) := by decide +kernel
theorem dX4_isSo_130 : decode cX4_isSo 130 = .ok (.aload_n 0, 1) := by decide +kernel
theorem dX4_isSo_131 : decode cX4_isSo 131 = .ok (.getfield 22, 3) := by decide +kernel
theorem dX4_isSo_134 : decode cX4_isSo 134 = .ok (.iload_n 1, 1) := by decide +kernel
theorem dX4_isSo_135 : decode cX4_isSo 135 = .ok (.laload, 1) := by decide +kernel
theorem dX4_isSo_136 : decode cX4_isSo 136 = .ok (.aload_n 0, 1) := by decide +kernel
theorem dX4_isSo_137 : decode cX4_isSo 137 = .ok (.getfield 22, 3) := by decide +kernel
theorem dX4_isSo_140 : decode cX4_isSo 140 = .ok (.iload_n 1, 1) := by decide +kernel
theorem dX4_isSo_141 : decode cX4_isSo 141 = .ok (.iconst 1, 1) := by decide +kernel
theorem dX4_isSo_142 : decode cX4_isSo 142 = .ok (.iadd, 1) := by decide +kernel
theorem dX4_isSo_143 : decode cX4_isSo 143 = .ok (.laload, 1) := by decide +kernel
theorem dX4_isSo_144 : decode cX4_isSo 144 = .ok (.lcmp, 1) := by decide +kernel
theorem dX4_isSo_145 : decode cX4_isSo 145 = .ok (.ifCond .ne 7, 3) := by decide +kernel
theorem dX4_isSo_148 : decode cX4_isSo 148 = .ok (.iconst 1, 1) := by decide +kernel
theorem dX4_isSo_149 : decode cX4_isSo 149 = .ok (.goto 4, 3) := by decide +kernel
theorem dX4_isSo_152 : decode cX4_isSo 152 = .ok (.iconst 0, 1) := by decide +kernel
theorem dX4_isSo_153 : decode cX4_isSo 153 = .ok (.ireturn, 1) := by decide +kernel
theorem dX4_isSo_154 : decode cX4_isSo 154 = .ok (.aload_n 0, 1) := by decide +kernel
theorem dX4_isSo_155 : decode cX4_isSo 155 = .ok (.getfield 22, 3) := by decide +kernel
theorem dX4_isSo_158 : decode cX4_isSo 158 = .ok (.iload_n 1, 1) := by decide +kernel
theorem dX4_isSo_159 : decode cX4_isSo 159 = .ok (.laload, 1) := by decide +kernel
theorem dX4_isSo_160 : decode cX4_isSo 160 = .ok (.lconst 0, 1) := by decide +kernel
theorem dX4_isSo_161 : decode cX4_isSo 161 = .ok (.lcmp, 1) := by decide +kernel
theorem dX4_isSo_162 : decode cX4_isSo 162 = .ok (.ifCond .eq 25, 3) := by decide +kernel
theorem dX4_isSo_165 : decode cX4_isSo 165 = .ok (.aload_n 0, 1) := by decide +kernel
theorem dX4_isSo_166 : decode cX4_isSo 166 = .ok (.getfield 22, 3) := by decide +kernel
theorem dX4_isSo_169 : decode cX4_isSo 169 = .ok (.iload_n 1, 1) := by decide +kernel
theorem dX4_isSo_170 : decode cX4_isSo 170 = .ok (.laload, 1) := by decide +kernel
theorem dX4_isSo_171 : decode cX4_isSo 171 = .ok (.aload_n 0, 1) := by decide +kernel
theorem dX4_isSo_172 : decode cX4_isSo 172 = .ok (.getfield 7, 3) := by decide +kernel
theorem dX4_isSo_175 : decode cX4_isSo 175 = .ok (.iconst 0, 1) := by decide +kernel
theorem dX4_isSo_176 : decode cX4_isSo 176 = .ok (.iaload, 1) := by decide +kernel
theorem dX4_isSo_177 : decode cX4_isSo 177 = .ok (.i2l, 1) := by decide +kernel
theorem dX4_isSo_178 : decode cX4_isSo 178 = .ok (.aload_n 0, 1) := by decide +kernel
theorem dX4_isSo_179 : decode cX4_isSo 179 = .ok (.getfield 79, 3) := by decide +kernel
theorem dX4_isSo_182 : decode cX4_isSo 182 = .ok (.lmul, 1) := by decide +kernel
theorem dX4_isSo_183 : decode cX4_isSo 183 = .ok (.lcmp, 1) := by decide +kernel
theorem dX4_isSo_184 : decode cX4_isSo 184 = .ok (.ifCond .ne 7, 3) := by decide +kernel
theorem dX4_isSo_187 : decode cX4_isSo 187 = .ok (.iconst 1, 1) := by decide +kernel
theorem dX4_isSo_188 : decode cX4_isSo 188 = .ok (.goto 4, 3) := by decide +kernel
theorem dX4_isSo_191 : decode cX4_isSo 191 = .ok (.iconst 0, 1) := by decide +kernel
theorem dX4_isSo_192 : decode cX4_isSo 192 = .ok (.ireturn, 1) := by decide +kernel
theorem dX4_isSo_193 : decode cX4_isSo 193 = .ok (.aload_n 0, 1) := by decide +kernel
theorem dX4_isSo_194 : decode cX4_isSo 194 = .ok (.iload_n 1, 1) := by decide +kernel
theorem dX4_isSo_195 : decode cX4_isSo 195 = .ok (.invokevirtual 101, 3) := by decide +kernel
theorem dX4_isSo_198 : decode cX4_isSo 198 = .ok (.lconst 0, 1) := by decide +kernel
theorem dX4_isSo_199 : decode cX4_isSo 199 = .ok (.lcmp, 1) := by decide +kernel
theorem dX4_isSo_200 : decode cX4_isSo 200 = .ok (.ifCond .eq 7, 3) := by decide +kernel
theorem dX4_isSo_203 : decode cX4_isSo 203 = .ok (.iconst 1, 1) := by decide +kernel
theorem dX4_isSo_204 : decode cX4_isSo 204 = .ok (.goto 4, 3) := by decide +kernel
theorem dX4_isSo_207 : decode cX4_isSo 207 = .ok (.iconst 0, 1) := by decide +kernel
theorem dX4_isSo_208 : decode cX4_isSo 208 = .ok (.ireturn, 1) := by decide +kernel
set_option maxRecDepth 20000 in
theorem ggX4_plates_X4_in : GoodIn wsX4_plates wsX4_in := goodIn_r _ [6] (by decide +kernel) (by decide +kernel)
set_option maxRecDepth 20000 in
theorem gX4_plates_X4_in : GoodIn wsX4_plates (va_wsS RX4 53 yX4_in wsX4_in) := goodIn_app (goodIn_of _ (by decide +kernel)) ggX4_plates_X4_in
set_option maxRecDepth 20000 in
theorem ggX4_plates_X4_rests : GoodIn wsX4_plates wsX4_rests := goodIn_r _ [10, 11, 2, 12, 13, 14, 15, 5, 16, 17, 18, 19, 20, 21, 22, 23, 24, 25, 26, 27, 28, 29, 30, 31, 32, 33, 34, 35, 36, 37, 38, 39, 40, 41, 42, 43, 44, 45, 46, 47, 48, 49, 50, 51, 52, 53, 54, 55, 56, 57, 58, 59, 60, 61, 62, 63, 68, 69, 70, 71, 72, 73, 74, 75, 76, 77, 78, 79, 80, 81, 82, 83, 84, 85, 86, 87, 88] (by decide +kernel) (by decide +kernel)
set_option maxRecDepth 20000 in
theorem gX4_plates_X4_rests : GoodIn wsX4_plates (wsV RX4 123 RX4 yX4_rests wsX4_rests) := goodIn_app (goodIn_of _ (by decide +kernel)) ggX4_plates_X4_rests
set_option maxRecDepth 20000 in
theorem ggX4_plates_X4_isSo : GoodIn wsX4_plates wsX4_isSo := goodIn_r _ [67, 2, 43, 11, 52, 53, 54, 5, 55, 56, 57, 58, 59, 60, 61, 62, 63, 68, 69, 70, 71, 72, 73, 74, 75, 76, 77, 78, 79, 80, 81, 82, 83, 84, 85, 86, 87, 88] (by decide +kernel) (by decide +kernel)
set_option maxRecDepth 20000 in
theorem gX4_plates_X4_isSo : GoodIn wsX4_plates (wsV RX4 131 RX4 yX4_isSo wsX4_isSo) := goodIn_app (goodIn_of _ (by decide +kernel)) ggX4_plates_X4_isSo
theorem dX4_plates_0 : decode cX4_plates 0 = .ok (.iload_n 1, 1) := by decide +kernel
theorem dX4_plates_1 : decode cX4_plates 1 = .ok (.iconst 0, 1) := by decide +kernel
theorem dX4_plates_2 : decode cX4_plates 2 = .ok (.iconst 4, 1) := by decide +kernel
theorem dX4_plates_3 : decode cX4_plates 3 = .ok (.invokestatic 53, 3) := by decide +kernel
theorem dX4_plates_6 : decode cX4_plates 6 = .ok (.ifCond .ne 6, 3) := by decide +kernel
theorem dX4_plates_9 : decode cX4_plates 9 = .ok (.ldc 57, 2) := by decide +kernel
theorem dX4_plates_11 : decode cX4_plates 11 = .ok (.ireturn, 1) := by decide +kernel
theorem dX4_plates_12 : decode cX4_plates 12 = .ok (.aload_n 0, 1) := by decide +kernel
theorem dX4_plates_13 : decode cX4_plates 13 = .ok (.invokevirtual 123, 3) := by decide +kernel
theorem dX4_plates_16 : decode cX4_plates 16 = .ok (.iconst 0, 1) := by decide +kernel
theorem dX4_plates_17 : decode cX4_plates 17 = .ok (.istore_n 2, 1) := by decide +kernel
theorem dX4_plates_18 : decode cX4_plates 18 = .ok (.iconst 0, 1) := by decide +kernel
theorem dX4_plates_19 : decode cX4_plates 19 = .ok (.istore_n 3, 1) := by decide +kernel
theorem dX4_plates_20 : decode cX4_plates 20 = .ok (.iload_n 3, 1) := by decide +kernel
theorem dX4_plates_21 : decode cX4_plates 21 = .ok (.aload_n 0, 1) := by decide +kernel
theorem dX4_plates_22 : decode cX4_plates 22 = .ok (.getfield 7, 3) := by decide +kernel
theorem dX4_plates_25 : decode cX4_plates 25 = .ok (.iconst 1, 1) := by decide +kernel
theorem dX4_plates_26 : decode cX4_plates 26 = .ok (.iaload, 1) := by decide +kernel
theorem dX4_plates_27 : decode cX4_plates 27 = .ok (.if_icmp .ge 28, 3) := by decide +kernel
theorem dX4_plates_30 : decode cX4_plates 30 = .ok (.iload_n 2, 1) := by decide +kernel
theorem dX4_plates_31 : decode cX4_plates 31 = .ok (.aload_n 0, 1) := by decide +kernel
theorem dX4_plates_32 : decode cX4_plates 32 = .ok (.iload_n 3, 1) := by decide +kernel
theorem dX4_plates_33 : decode cX4_plates 33 = .ok (.iload_n 1, 1) := by decide +kernel
theorem dX4_plates_34 : decode cX4_plates 34 = .ok (.invokevirtual 131, 3) := by decide +kernel
theorem dX4_plates_37 : decode cX4_plates 37 = .ok (.ifCond .eq 9, 3) := by decide +kernel
theorem dX4_plates_40 : decode cX4_plates 40 = .ok (.iconst 1, 1) := by decide +kernel
theorem dX4_plates_41 : decode cX4_plates 41 = .ok (.iload_n 3, 1) := by decide +kernel
theorem dX4_plates_42 : decode cX4_plates 42 = .ok (.ishl, 1) := by decide +kernel
theorem dX4_plates_43 : decode cX4_plates 43 = .ok (.goto 4, 3) := by decide +kernel
theorem dX4_plates_46 : decode cX4_plates 46 = .ok (.iconst 0, 1) := by decide +kernel
theorem dX4_plates_47 : decode cX4_plates 47 = .ok (.ior, 1) := by decide +kernel
theorem dX4_plates_48 : decode cX4_plates 48 = .ok (.istore_n 2, 1) := by decide +kernel
theorem dX4_plates_49 : decode cX4_plates 49 = .ok (.iinc 3 1, 3) := by decide +kernel
theorem dX4_plates_52 : decode cX4_plates 52 = .ok (.goto (-32), 3) := by decide +kernel
theorem dX4_plates_55 : decode cX4_plates 55 = .ok (.iload_n 2, 1) := by decide +kernel
theorem dX4_plates_56 : decode cX4_plates 56 = .ok (.ireturn, 1) := by decide +kernel
set_option maxRecDepth 20000 in
theorem ggX4_without_X4_isPlate : GoodIn wsX4_without wsX4_isPlate := goodIn_r _ [10, 2, 79, 80, 81, 82, 83, 84, 85, 86, 87, 88, 89, 90, 91, 92, 93, 94, 95, 96, 97, 98, 99] (by decide +kernel) (by decide +kernel)
set_option maxRecDepth 20000 in
theorem gX4_without_X4_isPlate : GoodIn wsX4_without (wsV RX4 63 RX4 yX4_isPlate wsX4_isPlate) := goodIn_app (goodIn_of _ (by decide +kernel)) ggX4_without_X4_isPlate
set_option maxRecDepth 20000 in
theorem ggX4_without_X4_in : GoodIn wsX4_without wsX4_in := goodIn_r _ [13] (by decide +kernel) (by decide +kernel)
set_option maxRecDepth 20000 in
theorem gX4_without_X4_in : GoodIn wsX4_without (va_wsS RX4 53 yX4_in wsX4_in) := goodIn_app (goodIn_of _ (by decide +kernel)) ggX4_without_X4_in
set_option maxRecDepth 20000 in
theorem ggX4_without_X4_stopAt : GoodIn wsX4_without wsX4_stopAt := goodIn_r _ [17] (by decide +kernel) (by decide +kernel)
set_option maxRecDepth 20000 in
theorem gX4_without_X4_stopAt : GoodIn wsX4_without (wsV RX4 70 RX4 yX4_stopAt wsX4_stopAt) := goodIn_app (goodIn_of _ (by decide +kernel)) ggX4_without_X4_stopAt
set_option maxRecDepth 20000 in
theorem ggX4_without_X4_rests : GoodIn wsX4_without wsX4_rests := goodIn_r _ [21, 5, 2, 22, 23, 24, 25, 9, 26, 27, 28, 29, 30, 31, 32, 33, 34, 35, 36, 37, 38, 39, 40, 41, 42, 43, 44, 45, 46, 47, 48, 49, 50, 51, 52, 4, 53, 54, 55, 56, 57, 58, 59, 60, 61, 62, 63, 64, 65, 66, 67, 68, 69, 70, 71, 72, 79, 80, 81, 82, 83, 84, 85, 86, 87, 88, 89, 90, 91, 92, 93, 94, 95, 96, 97, 98, 99] (by decide +kernel) (by decide +kernel)
set_option maxRecDepth 20000 in
theorem gX4_without_X4_rests : GoodIn wsX4_without (wsV RX4 123 RX4 yX4_rests wsX4_rests) := goodIn_app (goodIn_of _ (by decide +kernel)) ggX4_without_X4_rests
set_option maxRecDepth 20000 in
theorem ggX4_without_X4_part : GoodIn wsX4_without wsX4_part := goodIn_r _ [75, 76, 77, 9, 78] (by decide +kernel) (by decide +kernel)
set_option maxRecDepth 20000 in
theorem gX4_without_X4_part : GoodIn wsX4_without (va_wsS RX4 126 yX4_part wsX4_part) := goodIn_app (goodIn_of _ (by decide +kernel)) ggX4_without_X4_part
theorem dX4_without_0 : decode cX4_without 0 = .ok (.aload_n 0, 1) := by decide +kernel
theorem dX4_without_1 : decode cX4_without 1 = .ok (.iload_n 1, 1) := by decide +kernel
theorem dX4_without_2 : decode cX4_without 2 = .ok (.invokevirtual 63, 3) := by decide +kernel
theorem dX4_without_5 : decode cX4_without 5 = .ok (.ifCond .eq 30, 3) := by decide +kernel
theorem dX4_without_8 : decode cX4_without 8 = .ok (.iload_n 2, 1) := by decide +kernel
theorem dX4_without_9 : decode cX4_without 9 = .ok (.iconst 0, 1) := by decide +kernel
theorem dX4_without_10 : decode cX4_without 10 = .ok (.iconst 1, 1) := by decide +kernel
theorem dX4_without_11 : decode cX4_without 11 = .ok (.invokestatic 53, 3) := by decide +kernel
theorem dX4_without_14 : decode cX4_without 14 = .ok (.ifCond .eq 21, 3) := by decide +kernel
theorem dX4_without_17 : decode cX4_without 17 = .ok (.aload_n 0, 1) := by decide +kernel
theorem dX4_without_18 : decode cX4_without 18 = .ok (.iload_n 3, 1) := by decide +kernel
theorem dX4_without_19 : decode cX4_without 19 = .ok (.invokevirtual 63, 3) := by decide +kernel
theorem dX4_without_22 : decode cX4_without 22 = .ok (.ifCond .eq 13, 3) := by decide +kernel
theorem dX4_without_25 : decode cX4_without 25 = .ok (.iload 4, 2) := by decide +kernel
theorem dX4_without_27 : decode cX4_without 27 = .ok (.iconst 0, 1) := by decide +kernel
theorem dX4_without_28 : decode cX4_without 28 = .ok (.iconst 1, 1) := by decide +kernel
theorem dX4_without_29 : decode cX4_without 29 = .ok (.invokestatic 53, 3) := by decide +kernel
theorem dX4_without_32 : decode cX4_without 32 = .ok (.ifCond .ne 6, 3) := by decide +kernel
theorem dX4_without_35 : decode cX4_without 35 = .ok (.ldc 57, 2) := by decide +kernel
theorem dX4_without_37 : decode cX4_without 37 = .ok (.ireturn, 1) := by decide +kernel
theorem dX4_without_38 : decode cX4_without 38 = .ok (.aload_n 0, 1) := by decide +kernel
theorem dX4_without_39 : decode cX4_without 39 = .ok (.iload_n 1, 1) := by decide +kernel
theorem dX4_without_40 : decode cX4_without 40 = .ok (.iload_n 2, 1) := by decide +kernel
theorem dX4_without_41 : decode cX4_without 41 = .ok (.invokevirtual 70, 3) := by decide +kernel
theorem dX4_without_44 : decode cX4_without 44 = .ok (.istore 5, 2) := by decide +kernel
theorem dX4_without_46 : decode cX4_without 46 = .ok (.aload_n 0, 1) := by decide +kernel
theorem dX4_without_47 : decode cX4_without 47 = .ok (.getfield 7, 3) := by decide +kernel
theorem dX4_without_50 : decode cX4_without 50 = .ok (.iload 5, 2) := by decide +kernel
theorem dX4_without_52 : decode cX4_without 52 = .ok (.iaload, 1) := by decide +kernel
theorem dX4_without_53 : decode cX4_without 53 = .ok (.istore 6, 2) := by decide +kernel
theorem dX4_without_55 : decode cX4_without 55 = .ok (.iload 6, 2) := by decide +kernel
theorem dX4_without_57 : decode cX4_without 57 = .ok (.ifCond .ge 6, 3) := by decide +kernel
theorem dX4_without_60 : decode cX4_without 60 = .ok (.ldc 58, 2) := by decide +kernel
theorem dX4_without_62 : decode cX4_without 62 = .ok (.ireturn, 1) := by decide +kernel
theorem dX4_without_63 : decode cX4_without 63 = .ok (.aload_n 0, 1) := by decide +kernel
theorem dX4_without_64 : decode cX4_without 64 = .ok (.getfield 7, 3) := by decide +kernel
theorem dX4_without_67 : decode cX4_without 67 = .ok (.iload 5, 2) := by decide +kernel
theorem dX4_without_69 : decode cX4_without 69 = .ok (.iconst (-1), 1) := by decide +kernel
theorem dX4_without_70 : decode cX4_without 70 = .ok (.iastore, 1) := by decide +kernel
theorem dX4_without_71 : decode cX4_without 71 = .ok (.aload_n 0, 1) := by decide +kernel
theorem dX4_without_72 : decode cX4_without 72 = .ok (.invokevirtual 123, 3) := by decide +kernel
theorem dX4_without_75 : decode cX4_without 75 = .ok (.aload_n 0, 1) := by decide +kernel
theorem dX4_without_76 : decode cX4_without 76 = .ok (.getfield 7, 3) := by decide +kernel
theorem dX4_without_79 : decode cX4_without 79 = .ok (.iload 5, 2) := by decide +kernel
theorem dX4_without_81 : decode cX4_without 81 = .ok (.iload 6, 2) := by decide +kernel
theorem dX4_without_83 : decode cX4_without 83 = .ok (.iastore, 1) := by decide +kernel
theorem dX4_without_84 : decode cX4_without 84 = .ok (.aload_n 0, 1) := by decide +kernel
theorem dX4_without_85 : decode cX4_without 85 = .ok (.getfield 22, 3) := by decide +kernel
theorem dX4_without_88 : decode cX4_without 88 = .ok (.iload_n 3, 1) := by decide +kernel
theorem dX4_without_89 : decode cX4_without 89 = .ok (.laload, 1) := by decide +kernel
theorem dX4_without_90 : decode cX4_without 90 = .ok (.aload_n 0, 1) := by decide +kernel
theorem dX4_without_91 : decode cX4_without 91 = .ok (.getfield 79, 3) := by decide +kernel
theorem dX4_without_94 : decode cX4_without 94 = .ok (.iload 4, 2) := by decide +kernel
theorem dX4_without_96 : decode cX4_without 96 = .ok (.iconst 0, 1) := by decide +kernel
theorem dX4_without_97 : decode cX4_without 97 = .ok (.invokestatic 126, 3) := by decide +kernel
theorem dX4_without_100 : decode cX4_without 100 = .ok (.ireturn, 1) := by decide +kernel
set_option maxRecDepth 20000 in
theorem ggX4_leastLoad_X4_isPlate : GoodIn wsX4_leastLoad wsX4_isPlate := goodIn_r _ [10, 2, 69, 70, 71, 72, 73, 74, 75, 76, 77, 78, 79, 80, 81, 82, 83, 84, 85, 86, 87, 88, 89] (by decide +kernel) (by decide +kernel)
set_option maxRecDepth 20000 in
theorem gX4_leastLoad_X4_isPlate : GoodIn wsX4_leastLoad (wsV RX4 63 RX4 yX4_isPlate wsX4_isPlate) := goodIn_app (goodIn_of _ (by decide +kernel)) ggX4_leastLoad_X4_isPlate
set_option maxRecDepth 20000 in
theorem ggX4_leastLoad_X4_in : GoodIn wsX4_leastLoad wsX4_in := goodIn_r _ [13] (by decide +kernel) (by decide +kernel)
set_option maxRecDepth 20000 in
theorem gX4_leastLoad_X4_in : GoodIn wsX4_leastLoad (va_wsS RX4 53 yX4_in wsX4_in) := goodIn_app (goodIn_of _ (by decide +kernel)) ggX4_leastLoad_X4_in
set_option maxRecDepth 20000 in
theorem ggX4_leastLoad_X4_rests : GoodIn wsX4_leastLoad wsX4_rests := goodIn_r _ [17, 5, 2, 18, 19, 20, 21, 9, 22, 23, 24, 25, 26, 27, 28, 29, 30, 31, 32, 33, 34, 35, 36, 37, 38, 39, 40, 41, 42, 43, 44, 45, 46, 47, 48, 4, 49, 50, 51, 52, 53, 54, 55, 56, 57, 58, 59, 60, 61, 62, 63, 64, 65, 66, 67, 68, 69, 70, 71, 72, 73, 74, 75, 76, 77, 78, 79, 80, 81, 82, 83, 84, 85, 86, 87, 88, 89] (by decide +kernel) (by decide +kernel)
set_option maxRecDepth 20000 in
theorem gX4_leastLoad_X4_rests : GoodIn wsX4_leastLoad (wsV RX4 123 RX4 yX4_rests wsX4_rests) := goodIn_app (goodIn_of _ (by decide +kernel)) ggX4_leastLoad_X4_rests
theorem dX4_leastLoad_0 : decode cX4_leastLoad 0 = .ok (.aload_n 0, 1) := by decide +kernel
theorem dX4_leastLoad_1 : decode cX4_leastLoad 1 = .ok (.iload_n 1, 1) := by decide +kernel
theorem dX4_leastLoad_2 : decode cX4_leastLoad 2 = .ok (.invokevirtual 63, 3) := by decide +kernel
theorem dX4_leastLoad_5 : decode cX4_leastLoad 5 = .ok (.ifCond .eq 13, 3) := by decide +kernel
theorem dX4_leastLoad_8 : decode cX4_leastLoad 8 = .ok (.iload_n 2, 1) := by decide +kernel
theorem dX4_leastLoad_9 : decode cX4_leastLoad 9 = .ok (.iconst 0, 1) := by decide +kernel
theorem dX4_leastLoad_10 : decode cX4_leastLoad 10 = .ok (.bipush 99, 2) := by decide +kernel
theorem dX4_leastLoad_12 : decode cX4_leastLoad 12 = .ok (.invokestatic 53, 3) := by decide +kernel
theorem dX4_leastLoad_15 : decode cX4_leastLoad 15 = .ok (.ifCond .ne 6, 3) := by decide +kernel
theorem dX4_leastLoad_18 : decode cX4_leastLoad 18 = .ok (.ldc 57, 2) := by decide +kernel
theorem dX4_leastLoad_20 : decode cX4_leastLoad 20 = .ok (.ireturn, 1) := by decide +kernel
theorem dX4_leastLoad_21 : decode cX4_leastLoad 21 = .ok (.aload_n 0, 1) := by decide +kernel
theorem dX4_leastLoad_22 : decode cX4_leastLoad 22 = .ok (.getfield 7, 3) := by decide +kernel
theorem dX4_leastLoad_25 : decode cX4_leastLoad 25 = .ok (.bipush 12, 2) := by decide +kernel
theorem dX4_leastLoad_27 : decode cX4_leastLoad 27 = .ok (.iload_n 1, 1) := by decide +kernel
theorem dX4_leastLoad_28 : decode cX4_leastLoad 28 = .ok (.iadd, 1) := by decide +kernel
theorem dX4_leastLoad_29 : decode cX4_leastLoad 29 = .ok (.iaload, 1) := by decide +kernel
theorem dX4_leastLoad_30 : decode cX4_leastLoad 30 = .ok (.istore_n 3, 1) := by decide +kernel
theorem dX4_leastLoad_31 : decode cX4_leastLoad 31 = .ok (.ldc 78, 2) := by decide +kernel
theorem dX4_leastLoad_33 : decode cX4_leastLoad 33 = .ok (.istore 4, 2) := by decide +kernel
theorem dX4_leastLoad_35 : decode cX4_leastLoad 35 = .ok (.bipush (-99), 2) := by decide +kernel
theorem dX4_leastLoad_37 : decode cX4_leastLoad 37 = .ok (.istore 5, 2) := by decide +kernel
theorem dX4_leastLoad_39 : decode cX4_leastLoad 39 = .ok (.iload 5, 2) := by decide +kernel
theorem dX4_leastLoad_41 : decode cX4_leastLoad 41 = .ok (.bipush 99, 2) := by decide +kernel
theorem dX4_leastLoad_43 : decode cX4_leastLoad 43 = .ok (.if_icmp .gt 59, 3) := by decide +kernel
theorem dX4_leastLoad_46 : decode cX4_leastLoad 46 = .ok (.iload 4, 2) := by decide +kernel
theorem dX4_leastLoad_48 : decode cX4_leastLoad 48 = .ok (.ifCond .ge 54, 3) := by decide +kernel
theorem dX4_leastLoad_51 : decode cX4_leastLoad 51 = .ok (.aload_n 0, 1) := by decide +kernel
theorem dX4_leastLoad_52 : decode cX4_leastLoad 52 = .ok (.getfield 7, 3) := by decide +kernel
theorem dX4_leastLoad_55 : decode cX4_leastLoad 55 = .ok (.bipush 12, 2) := by decide +kernel
theorem dX4_leastLoad_57 : decode cX4_leastLoad 57 = .ok (.iload_n 1, 1) := by decide +kernel
theorem dX4_leastLoad_58 : decode cX4_leastLoad 58 = .ok (.iadd, 1) := by decide +kernel
theorem dX4_leastLoad_59 : decode cX4_leastLoad 59 = .ok (.iload 5, 2) := by decide +kernel
theorem dX4_leastLoad_61 : decode cX4_leastLoad 61 = .ok (.iastore, 1) := by decide +kernel
theorem dX4_leastLoad_62 : decode cX4_leastLoad 62 = .ok (.aload_n 0, 1) := by decide +kernel
theorem dX4_leastLoad_63 : decode cX4_leastLoad 63 = .ok (.invokevirtual 123, 3) := by decide +kernel
theorem dX4_leastLoad_66 : decode cX4_leastLoad 66 = .ok (.aload_n 0, 1) := by decide +kernel
theorem dX4_leastLoad_67 : decode cX4_leastLoad 67 = .ok (.getfield 22, 3) := by decide +kernel
theorem dX4_leastLoad_70 : decode cX4_leastLoad 70 = .ok (.iload_n 1, 1) := by decide +kernel
theorem dX4_leastLoad_71 : decode cX4_leastLoad 71 = .ok (.laload, 1) := by decide +kernel
theorem dX4_leastLoad_72 : decode cX4_leastLoad 72 = .ok (.iload_n 2, 1) := by decide +kernel
theorem dX4_leastLoad_73 : decode cX4_leastLoad 73 = .ok (.i2l, 1) := by decide +kernel
theorem dX4_leastLoad_74 : decode cX4_leastLoad 74 = .ok (.aload_n 0, 1) := by decide +kernel
theorem dX4_leastLoad_75 : decode cX4_leastLoad 75 = .ok (.getfield 79, 3) := by decide +kernel
theorem dX4_leastLoad_78 : decode cX4_leastLoad 78 = .ok (.lmul, 1) := by decide +kernel
theorem dX4_leastLoad_79 : decode cX4_leastLoad 79 = .ok (.lcmp, 1) := by decide +kernel
theorem dX4_leastLoad_80 : decode cX4_leastLoad 80 = .ok (.ifCond .lt 12, 3) := by decide +kernel
theorem dX4_leastLoad_83 : decode cX4_leastLoad 83 = .ok (.iload 5, 2) := by decide +kernel
theorem dX4_leastLoad_85 : decode cX4_leastLoad 85 = .ok (.sipush 1000, 3) := by decide +kernel
theorem dX4_leastLoad_88 : decode cX4_leastLoad 88 = .ok (.iadd, 1) := by decide +kernel
theorem dX4_leastLoad_89 : decode cX4_leastLoad 89 = .ok (.goto 5, 3) := by decide +kernel
theorem dX4_leastLoad_92 : decode cX4_leastLoad 92 = .ok (.ldc 78, 2) := by decide +kernel
theorem dX4_leastLoad_94 : decode cX4_leastLoad 94 = .ok (.istore 4, 2) := by decide +kernel
theorem dX4_leastLoad_96 : decode cX4_leastLoad 96 = .ok (.iinc 5 1, 3) := by decide +kernel
theorem dX4_leastLoad_99 : decode cX4_leastLoad 99 = .ok (.goto (-60), 3) := by decide +kernel
theorem dX4_leastLoad_102 : decode cX4_leastLoad 102 = .ok (.aload_n 0, 1) := by decide +kernel
theorem dX4_leastLoad_103 : decode cX4_leastLoad 103 = .ok (.getfield 7, 3) := by decide +kernel
theorem dX4_leastLoad_106 : decode cX4_leastLoad 106 = .ok (.bipush 12, 2) := by decide +kernel
theorem dX4_leastLoad_108 : decode cX4_leastLoad 108 = .ok (.iload_n 1, 1) := by decide +kernel
theorem dX4_leastLoad_109 : decode cX4_leastLoad 109 = .ok (.iadd, 1) := by decide +kernel
theorem dX4_leastLoad_110 : decode cX4_leastLoad 110 = .ok (.iload_n 3, 1) := by decide +kernel
theorem dX4_leastLoad_111 : decode cX4_leastLoad 111 = .ok (.iastore, 1) := by decide +kernel
theorem dX4_leastLoad_112 : decode cX4_leastLoad 112 = .ok (.iload 4, 2) := by decide +kernel
theorem dX4_leastLoad_114 : decode cX4_leastLoad 114 = .ok (.ireturn, 1) := by decide +kernel
set_option maxRecDepth 20000 in
theorem ggX4_moves_X4_rests : GoodIn wsX4_moves wsX4_rests := goodIn_r _ [12, 5, 1, 13, 14, 15, 16, 11, 17, 18, 19, 20, 21, 22, 23, 24, 25, 26, 27, 28, 29, 30, 31, 32, 33, 34, 35, 36, 37, 38, 39, 40, 41, 42, 43, 2, 44, 45, 46, 47, 48, 49, 50, 51, 52, 53, 54, 55, 56, 57, 58, 59, 60, 61, 62, 63, 67, 68, 69, 70, 71, 72, 73, 74, 75, 76, 77, 78, 79, 80, 81, 82, 83, 84, 85, 86, 87] (by decide +kernel) (by decide +kernel)
set_option maxRecDepth 20000 in
theorem gX4_moves_X4_rests : GoodIn wsX4_moves (wsV RX4 123 RX4 yX4_rests wsX4_rests) := goodIn_app (goodIn_of _ (by decide +kernel)) ggX4_moves_X4_rests
set_option maxRecDepth 20000 in
theorem ggX4_moves_X4_divisor : GoodIn wsX4_moves wsX4_divisor := goodIn_r _ [66] (by decide +kernel) (by decide +kernel)
set_option maxRecDepth 20000 in
theorem gX4_moves_X4_divisor : GoodIn wsX4_moves (va_wsS RX4 119 yX4_divisor wsX4_divisor) := goodIn_app (goodIn_of _ (by decide +kernel)) ggX4_moves_X4_divisor
theorem dX4_moves_0 : decode cX4_moves 0 = .ok (.aload_n 0, 1) := by decide +kernel
theorem dX4_moves_1 : decode cX4_moves 1 = .ok (.getfield 7, 3) := by decide +kernel
theorem dX4_moves_4 : decode cX4_moves 4 = .ok (.iload_n 1, 1) := by decide +kernel
theorem dX4_moves_5 : decode cX4_moves 5 = .ok (.iaload, 1) := by decide +kernel
theorem dX4_moves_6 : decode cX4_moves 6 = .ok (.istore_n 2, 1) := by decide +kernel
theorem dX4_moves_7 : decode cX4_moves 7 = .ok (.aload_n 0, 1) := by decide +kernel
theorem dX4_moves_8 : decode cX4_moves 8 = .ok (.getfield 7, 3) := by decide +kernel
theorem dX4_moves_11 : decode cX4_moves 11 = .ok (.iload_n 1, 1) := by decide +kernel
theorem dX4_moves_12 : decode cX4_moves 12 = .ok (.iconst (-1), 1) := by decide +kernel
theorem dX4_moves_13 : decode cX4_moves 13 = .ok (.iastore, 1) := by decide +kernel
theorem dX4_moves_14 : decode cX4_moves 14 = .ok (.aload_n 0, 1) := by decide +kernel
theorem dX4_moves_15 : decode cX4_moves 15 = .ok (.invokevirtual 123, 3) := by decide +kernel
theorem dX4_moves_18 : decode cX4_moves 18 = .ok (.aload_n 0, 1) := by decide +kernel
theorem dX4_moves_19 : decode cX4_moves 19 = .ok (.getfield 7, 3) := by decide +kernel
theorem dX4_moves_22 : decode cX4_moves 22 = .ok (.iload_n 1, 1) := by decide +kernel
theorem dX4_moves_23 : decode cX4_moves 23 = .ok (.iload_n 2, 1) := by decide +kernel
theorem dX4_moves_24 : decode cX4_moves 24 = .ok (.iastore, 1) := by decide +kernel
theorem dX4_moves_25 : decode cX4_moves 25 = .ok (.lconst 0, 1) := by decide +kernel
theorem dX4_moves_26 : decode cX4_moves 26 = .ok (.lstore_n 3, 1) := by decide +kernel
theorem dX4_moves_27 : decode cX4_moves 27 = .ok (.iconst 0, 1) := by decide +kernel
theorem dX4_moves_28 : decode cX4_moves 28 = .ok (.istore 5, 2) := by decide +kernel
theorem dX4_moves_30 : decode cX4_moves 30 = .ok (.iload 5, 2) := by decide +kernel
theorem dX4_moves_32 : decode cX4_moves 32 = .ok (.aload_n 0, 1) := by decide +kernel
theorem dX4_moves_33 : decode cX4_moves 33 = .ok (.getfield 7, 3) := by decide +kernel
theorem dX4_moves_36 : decode cX4_moves 36 = .ok (.iconst 1, 1) := by decide +kernel
theorem dX4_moves_37 : decode cX4_moves 37 = .ok (.iaload, 1) := by decide +kernel
theorem dX4_moves_38 : decode cX4_moves 38 = .ok (.if_icmp .ge 54, 3) := by decide +kernel
theorem dX4_moves_41 : decode cX4_moves 41 = .ok (.aload_n 0, 1) := by decide +kernel
theorem dX4_moves_42 : decode cX4_moves 42 = .ok (.getfield 22, 3) := by decide +kernel
theorem dX4_moves_45 : decode cX4_moves 45 = .ok (.iload 5, 2) := by decide +kernel
theorem dX4_moves_47 : decode cX4_moves 47 = .ok (.laload, 1) := by decide +kernel
theorem dX4_moves_48 : decode cX4_moves 48 = .ok (.aload_n 0, 1) := by decide +kernel
theorem dX4_moves_49 : decode cX4_moves 49 = .ok (.getfield 135, 3) := by decide +kernel
theorem dX4_moves_52 : decode cX4_moves 52 = .ok (.lmul, 1) := by decide +kernel
theorem dX4_moves_53 : decode cX4_moves 53 = .ok (.aload_n 0, 1) := by decide +kernel
theorem dX4_moves_54 : decode cX4_moves 54 = .ok (.getfield 32, 3) := by decide +kernel
theorem dX4_moves_57 : decode cX4_moves 57 = .ok (.iload 5, 2) := by decide +kernel
theorem dX4_moves_59 : decode cX4_moves 59 = .ok (.laload, 1) := by decide +kernel
theorem dX4_moves_60 : decode cX4_moves 60 = .ok (.aload_n 0, 1) := by decide +kernel
theorem dX4_moves_61 : decode cX4_moves 61 = .ok (.getfield 79, 3) := by decide +kernel
theorem dX4_moves_64 : decode cX4_moves 64 = .ok (.lmul, 1) := by decide +kernel
theorem dX4_moves_65 : decode cX4_moves 65 = .ok (.lsub, 1) := by decide +kernel
theorem dX4_moves_66 : decode cX4_moves 66 = .ok (.lstore 6, 2) := by decide +kernel
theorem dX4_moves_68 : decode cX4_moves 68 = .ok (.lload_n 3, 1) := by decide +kernel
theorem dX4_moves_69 : decode cX4_moves 69 = .ok (.lload 6, 2) := by decide +kernel
theorem dX4_moves_71 : decode cX4_moves 71 = .ok (.lconst 0, 1) := by decide +kernel
theorem dX4_moves_72 : decode cX4_moves 72 = .ok (.lcmp, 1) := by decide +kernel
theorem dX4_moves_73 : decode cX4_moves 73 = .ok (.ifCond .ge 9, 3) := by decide +kernel
theorem dX4_moves_76 : decode cX4_moves 76 = .ok (.lload 6, 2) := by decide +kernel
theorem dX4_moves_78 : decode cX4_moves 78 = .ok (.lneg, 1) := by decide +kernel
theorem dX4_moves_79 : decode cX4_moves 79 = .ok (.goto 5, 3) := by decide +kernel
theorem dX4_moves_82 : decode cX4_moves 82 = .ok (.lload 6, 2) := by decide +kernel
theorem dX4_moves_84 : decode cX4_moves 84 = .ok (.ladd, 1) := by decide +kernel
theorem dX4_moves_85 : decode cX4_moves 85 = .ok (.lstore_n 3, 1) := by decide +kernel
theorem dX4_moves_86 : decode cX4_moves 86 = .ok (.iinc 5 1, 3) := by decide +kernel
theorem dX4_moves_89 : decode cX4_moves 89 = .ok (.goto (-59), 3) := by decide +kernel
theorem dX4_moves_92 : decode cX4_moves 92 = .ok (.lload_n 3, 1) := by decide +kernel
theorem dX4_moves_93 : decode cX4_moves 93 = .ok (.aload_n 0, 1) := by decide +kernel
theorem dX4_moves_94 : decode cX4_moves 94 = .ok (.getfield 79, 3) := by decide +kernel
theorem dX4_moves_97 : decode cX4_moves 97 = .ok (.aload_n 0, 1) := by decide +kernel
theorem dX4_moves_98 : decode cX4_moves 98 = .ok (.getfield 135, 3) := by decide +kernel
theorem dX4_moves_101 : decode cX4_moves 101 = .ok (.lmul, 1) := by decide +kernel
theorem dX4_moves_102 : decode cX4_moves 102 = .ok (.invokestatic 119, 3) := by decide +kernel
theorem dX4_moves_105 : decode cX4_moves 105 = .ok (.lstore 5, 2) := by decide +kernel
theorem dX4_moves_107 : decode cX4_moves 107 = .ok (.aload_n 0, 1) := by decide +kernel
theorem dX4_moves_108 : decode cX4_moves 108 = .ok (.lload_n 3, 1) := by decide +kernel
theorem dX4_moves_109 : decode cX4_moves 109 = .ok (.lload 5, 2) := by decide +kernel
theorem dX4_moves_111 : decode cX4_moves 111 = .ok (.ldiv, 1) := by decide +kernel
theorem dX4_moves_112 : decode cX4_moves 112 = .ok (.putfield 138, 3) := by decide +kernel
theorem dX4_moves_115 : decode cX4_moves 115 = .ok (.aload_n 0, 1) := by decide +kernel
theorem dX4_moves_116 : decode cX4_moves 116 = .ok (.aload_n 0, 1) := by decide +kernel
theorem dX4_moves_117 : decode cX4_moves 117 = .ok (.getfield 79, 3) := by decide +kernel
theorem dX4_moves_120 : decode cX4_moves 120 = .ok (.aload_n 0, 1) := by decide +kernel
theorem dX4_moves_121 : decode cX4_moves 121 = .ok (.getfield 135, 3) := by decide +kernel
theorem dX4_moves_124 : decode cX4_moves 124 = .ok (.lmul, 1) := by decide +kernel
theorem dX4_moves_125 : decode cX4_moves 125 = .ok (.lload 5, 2) := by decide +kernel
theorem dX4_moves_127 : decode cX4_moves 127 = .ok (.ldiv, 1) := by decide +kernel
theorem dX4_moves_128 : decode cX4_moves 128 = .ok (.putfield 141, 3) := by decide +kernel
theorem dX4_moves_131 : decode cX4_moves 131 = .ok (.return_, 1) := by decide +kernel
theorem dX4_isMore_0 : decode cX4_isMore 0 = .ok (.lload_n 0, 1) := by decide +kernel
theorem dX4_isMore_1 : decode cX4_isMore 1 = .ok (.lstore 8, 2) := by decide +kernel
theorem dX4_isMore_3 : decode cX4_isMore 3 = .ok (.lload_n 2, 1) := by decide +kernel
theorem dX4_isMore_4 : decode cX4_isMore 4 = .ok (.lstore 10, 2) := by decide +kernel
theorem dX4_isMore_6 : decode cX4_isMore 6 = .ok (.lload 4, 2) := by decide +kernel
theorem dX4_isMore_8 : decode cX4_isMore 8 = .ok (.lstore 12, 2) := by decide +kernel
theorem dX4_isMore_10 : decode cX4_isMore 10 = .ok (.lload 6, 2) := by decide +kernel
theorem dX4_isMore_12 : decode cX4_isMore 12 = .ok (.lstore 14, 2) := by decide +kernel
theorem dX4_isMore_14 : decode cX4_isMore 14 = .ok (.iconst 0, 1) := by decide +kernel
theorem dX4_isMore_15 : decode cX4_isMore 15 = .ok (.istore 16, 2) := by decide +kernel
theorem dX4_isMore_17 : decode cX4_isMore 17 = .ok (.lload 10, 2) := by decide +kernel
theorem dX4_isMore_19 : decode cX4_isMore 19 = .ok (.lconst 0, 1) := by decide +kernel
theorem dX4_isMore_20 : decode cX4_isMore 20 = .ok (.lcmp, 1) := by decide +kernel
theorem dX4_isMore_21 : decode cX4_isMore 21 = .ok (.ifCond .le 69, 3) := by decide +kernel
theorem dX4_isMore_24 : decode cX4_isMore 24 = .ok (.lload 14, 2) := by decide +kernel
theorem dX4_isMore_26 : decode cX4_isMore 26 = .ok (.lconst 0, 1) := by decide +kernel
theorem dX4_isMore_27 : decode cX4_isMore 27 = .ok (.lcmp, 1) := by decide +kernel
theorem dX4_isMore_28 : decode cX4_isMore 28 = .ok (.ifCond .le 62, 3) := by decide +kernel
theorem dX4_isMore_31 : decode cX4_isMore 31 = .ok (.lload 8, 2) := by decide +kernel
theorem dX4_isMore_33 : decode cX4_isMore 33 = .ok (.lload 10, 2) := by decide +kernel
theorem dX4_isMore_35 : decode cX4_isMore 35 = .ok (.ldiv, 1) := by decide +kernel
theorem dX4_isMore_36 : decode cX4_isMore 36 = .ok (.lload 12, 2) := by decide +kernel
theorem dX4_isMore_38 : decode cX4_isMore 38 = .ok (.lload 14, 2) := by decide +kernel
theorem dX4_isMore_40 : decode cX4_isMore 40 = .ok (.ldiv, 1) := by decide +kernel
theorem dX4_isMore_41 : decode cX4_isMore 41 = .ok (.lcmp, 1) := by decide +kernel
theorem dX4_isMore_42 : decode cX4_isMore 42 = .ok (.ifCond .ne 48, 3) := by decide +kernel
theorem dX4_isMore_45 : decode cX4_isMore 45 = .ok (.lload 8, 2) := by decide +kernel
theorem dX4_isMore_47 : decode cX4_isMore 47 = .ok (.lload 10, 2) := by decide +kernel
theorem dX4_isMore_49 : decode cX4_isMore 49 = .ok (.lrem, 1) := by decide +kernel
theorem dX4_isMore_50 : decode cX4_isMore 50 = .ok (.lstore 17, 2) := by decide +kernel
theorem dX4_isMore_52 : decode cX4_isMore 52 = .ok (.lload 12, 2) := by decide +kernel
theorem dX4_isMore_54 : decode cX4_isMore 54 = .ok (.lload 14, 2) := by decide +kernel
theorem dX4_isMore_56 : decode cX4_isMore 56 = .ok (.lrem, 1) := by decide +kernel
theorem dX4_isMore_57 : decode cX4_isMore 57 = .ok (.lstore 19, 2) := by decide +kernel
theorem dX4_isMore_59 : decode cX4_isMore 59 = .ok (.lload 10, 2) := by decide +kernel
theorem dX4_isMore_61 : decode cX4_isMore 61 = .ok (.lstore 8, 2) := by decide +kernel
theorem dX4_isMore_63 : decode cX4_isMore 63 = .ok (.lload 17, 2) := by decide +kernel
theorem dX4_isMore_65 : decode cX4_isMore 65 = .ok (.lstore 10, 2) := by decide +kernel
theorem dX4_isMore_67 : decode cX4_isMore 67 = .ok (.lload 14, 2) := by decide +kernel
theorem dX4_isMore_69 : decode cX4_isMore 69 = .ok (.lstore 12, 2) := by decide +kernel
theorem dX4_isMore_71 : decode cX4_isMore 71 = .ok (.lload 19, 2) := by decide +kernel
theorem dX4_isMore_73 : decode cX4_isMore 73 = .ok (.lstore 14, 2) := by decide +kernel
theorem dX4_isMore_75 : decode cX4_isMore 75 = .ok (.iload 16, 2) := by decide +kernel
theorem dX4_isMore_77 : decode cX4_isMore 77 = .ok (.ifCond .ne 7, 3) := by decide +kernel
theorem dX4_isMore_80 : decode cX4_isMore 80 = .ok (.iconst 1, 1) := by decide +kernel
theorem dX4_isMore_81 : decode cX4_isMore 81 = .ok (.goto 4, 3) := by decide +kernel
theorem dX4_isMore_84 : decode cX4_isMore 84 = .ok (.iconst 0, 1) := by decide +kernel
theorem dX4_isMore_85 : decode cX4_isMore 85 = .ok (.istore 16, 2) := by decide +kernel
theorem dX4_isMore_87 : decode cX4_isMore 87 = .ok (.goto (-70), 3) := by decide +kernel
theorem dX4_isMore_90 : decode cX4_isMore 90 = .ok (.lload 10, 2) := by decide +kernel
theorem dX4_isMore_92 : decode cX4_isMore 92 = .ok (.lconst 0, 1) := by decide +kernel
theorem dX4_isMore_93 : decode cX4_isMore 93 = .ok (.lcmp, 1) := by decide +kernel
theorem dX4_isMore_94 : decode cX4_isMore 94 = .ok (.ifCond .ne 18, 3) := by decide +kernel
theorem dX4_isMore_97 : decode cX4_isMore 97 = .ok (.lload 14, 2) := by decide +kernel
theorem dX4_isMore_99 : decode cX4_isMore 99 = .ok (.lconst 0, 1) := by decide +kernel
theorem dX4_isMore_100 : decode cX4_isMore 100 = .ok (.lcmp, 1) := by decide +kernel
theorem dX4_isMore_101 : decode cX4_isMore 101 = .ok (.ifCond .le 7, 3) := by decide +kernel
theorem dX4_isMore_104 : decode cX4_isMore 104 = .ok (.iconst 1, 1) := by decide +kernel
theorem dX4_isMore_105 : decode cX4_isMore 105 = .ok (.goto 33, 3) := by decide +kernel
theorem dX4_isMore_108 : decode cX4_isMore 108 = .ok (.iconst 0, 1) := by decide +kernel
theorem dX4_isMore_109 : decode cX4_isMore 109 = .ok (.goto 29, 3) := by decide +kernel
theorem dX4_isMore_112 : decode cX4_isMore 112 = .ok (.lload 14, 2) := by decide +kernel
theorem dX4_isMore_114 : decode cX4_isMore 114 = .ok (.lconst 0, 1) := by decide +kernel
theorem dX4_isMore_115 : decode cX4_isMore 115 = .ok (.lcmp, 1) := by decide +kernel
theorem dX4_isMore_116 : decode cX4_isMore 116 = .ok (.ifCond .le 21, 3) := by decide +kernel
theorem dX4_isMore_119 : decode cX4_isMore 119 = .ok (.lload 8, 2) := by decide +kernel
theorem dX4_isMore_121 : decode cX4_isMore 121 = .ok (.lload 10, 2) := by decide +kernel
theorem dX4_isMore_123 : decode cX4_isMore 123 = .ok (.ldiv, 1) := by decide +kernel
theorem dX4_isMore_124 : decode cX4_isMore 124 = .ok (.lload 12, 2) := by decide +kernel
theorem dX4_isMore_126 : decode cX4_isMore 126 = .ok (.lload 14, 2) := by decide +kernel
theorem dX4_isMore_128 : decode cX4_isMore 128 = .ok (.ldiv, 1) := by decide +kernel
theorem dX4_isMore_129 : decode cX4_isMore 129 = .ok (.lcmp, 1) := by decide +kernel
theorem dX4_isMore_130 : decode cX4_isMore 130 = .ok (.ifCond .le 7, 3) := by decide +kernel
theorem dX4_isMore_133 : decode cX4_isMore 133 = .ok (.iconst 1, 1) := by decide +kernel
theorem dX4_isMore_134 : decode cX4_isMore 134 = .ok (.goto 4, 3) := by decide +kernel
theorem dX4_isMore_137 : decode cX4_isMore 137 = .ok (.iconst 0, 1) := by decide +kernel
theorem dX4_isMore_138 : decode cX4_isMore 138 = .ok (.istore 17, 2) := by decide +kernel
theorem dX4_isMore_140 : decode cX4_isMore 140 = .ok (.lload 14, 2) := by decide +kernel
theorem dX4_isMore_142 : decode cX4_isMore 142 = .ok (.lconst 0, 1) := by decide +kernel
theorem dX4_isMore_143 : decode cX4_isMore 143 = .ok (.lcmp, 1) := by decide +kernel
theorem dX4_isMore_144 : decode cX4_isMore 144 = .ok (.ifCond .ne 18, 3) := by decide +kernel
theorem dX4_isMore_147 : decode cX4_isMore 147 = .ok (.lload 10, 2) := by decide +kernel
theorem dX4_isMore_149 : decode cX4_isMore 149 = .ok (.lconst 0, 1) := by decide +kernel
theorem dX4_isMore_150 : decode cX4_isMore 150 = .ok (.lcmp, 1) := by decide +kernel
theorem dX4_isMore_151 : decode cX4_isMore 151 = .ok (.ifCond .le 7, 3) := by decide +kernel
theorem dX4_isMore_154 : decode cX4_isMore 154 = .ok (.iconst 1, 1) := by decide +kernel
theorem dX4_isMore_155 : decode cX4_isMore 155 = .ok (.goto 33, 3) := by decide +kernel
theorem dX4_isMore_158 : decode cX4_isMore 158 = .ok (.iconst 0, 1) := by decide +kernel
theorem dX4_isMore_159 : decode cX4_isMore 159 = .ok (.goto 29, 3) := by decide +kernel
theorem dX4_isMore_162 : decode cX4_isMore 162 = .ok (.lload 10, 2) := by decide +kernel
theorem dX4_isMore_164 : decode cX4_isMore 164 = .ok (.lconst 0, 1) := by decide +kernel
theorem dX4_isMore_165 : decode cX4_isMore 165 = .ok (.lcmp, 1) := by decide +kernel
theorem dX4_isMore_166 : decode cX4_isMore 166 = .ok (.ifCond .le 21, 3) := by decide +kernel
theorem dX4_isMore_169 : decode cX4_isMore 169 = .ok (.lload 8, 2) := by decide +kernel
theorem dX4_isMore_171 : decode cX4_isMore 171 = .ok (.lload 10, 2) := by decide +kernel
theorem dX4_isMore_173 : decode cX4_isMore 173 = .ok (.ldiv, 1) := by decide +kernel
theorem dX4_isMore_174 : decode cX4_isMore 174 = .ok (.lload 12, 2) := by decide +kernel
theorem dX4_isMore_176 : decode cX4_isMore 176 = .ok (.lload 14, 2) := by decide +kernel
theorem dX4_isMore_178 : decode cX4_isMore 178 = .ok (.ldiv, 1) := by decide +kernel
theorem dX4_isMore_179 : decode cX4_isMore 179 = .ok (.lcmp, 1) := by decide +kernel
theorem dX4_isMore_180 : decode cX4_isMore 180 = .ok (.ifCond .ge 7, 3) := by decide +kernel
theorem dX4_isMore_183 : decode cX4_isMore 183 = .ok (.iconst 1, 1) := by decide +kernel
theorem dX4_isMore_184 : decode cX4_isMore 184 = .ok (.goto 4, 3) := by decide +kernel
theorem dX4_isMore_187 : decode cX4_isMore 187 = .ok (.iconst 0, 1) := by decide +kernel
theorem dX4_isMore_188 : decode cX4_isMore 188 = .ok (.istore 18, 2) := by decide +kernel
theorem dX4_isMore_190 : decode cX4_isMore 190 = .ok (.iload 16, 2) := by decide +kernel
theorem dX4_isMore_192 : decode cX4_isMore 192 = .ok (.ifCond .eq 8, 3) := by decide +kernel
theorem dX4_isMore_195 : decode cX4_isMore 195 = .ok (.iload 18, 2) := by decide +kernel
theorem dX4_isMore_197 : decode cX4_isMore 197 = .ok (.goto 5, 3) := by decide +kernel
theorem dX4_isMore_200 : decode cX4_isMore 200 = .ok (.iload 17, 2) := by decide +kernel
theorem dX4_isMore_202 : decode cX4_isMore 202 = .ok (.ireturn, 1) := by decide +kernel
set_option maxRecDepth 20000 in
theorem ggX4_hardest_X4_in : GoodIn wsX4_hardest wsX4_in := goodIn_r _ [14] (by decide +kernel) (by decide +kernel)
set_option maxRecDepth 20000 in
theorem gX4_hardest_X4_in : GoodIn wsX4_hardest (va_wsS RX4 53 yX4_in wsX4_in) := goodIn_app (goodIn_of _ (by decide +kernel)) ggX4_hardest_X4_in
set_option maxRecDepth 20000 in
theorem ggX4_hardest_X4_rests : GoodIn wsX4_hardest wsX4_rests := goodIn_r _ [18, 2, 7, 19, 20, 21, 22, 13, 23, 24, 25, 26, 27, 28, 29, 30, 31, 32, 33, 34, 35, 36, 37, 38, 39, 40, 41, 42, 43, 44, 45, 46, 47, 48, 49, 5, 50, 51, 52, 53, 54, 55, 56, 57, 58, 59, 60, 61, 62, 63, 64, 65, 66, 67, 68, 69, 84, 85, 86, 87, 88, 89, 90, 91, 92, 93, 94, 95, 96, 97, 98, 99, 100, 101, 102, 103, 104] (by decide +kernel) (by decide +kernel)
set_option maxRecDepth 20000 in
theorem gX4_hardest_X4_rests : GoodIn wsX4_hardest (wsV RX4 123 RX4 yX4_rests wsX4_rests) := goodIn_app (goodIn_of _ (by decide +kernel)) ggX4_hardest_X4_rests
set_option maxRecDepth 20000 in
theorem ggX4_hardest_X4_stopAt : GoodIn wsX4_hardest wsX4_stopAt := goodIn_r _ [73] (by decide +kernel) (by decide +kernel)
set_option maxRecDepth 20000 in
theorem gX4_hardest_X4_stopAt : GoodIn wsX4_hardest (wsV RX4 70 RX4 yX4_stopAt wsX4_stopAt) := goodIn_app (goodIn_of _ (by decide +kernel)) ggX4_hardest_X4_stopAt
set_option maxRecDepth 20000 in
theorem ggX4_hardest_X4_moves : GoodIn wsX4_hardest wsX4_moves := goodIn_r _ [77, 7, 5, 3, 4, 2, 8, 9, 15, 16, 17, 13, 18, 19, 20, 21, 22, 23, 24, 25, 26, 27, 28, 29, 30, 31, 32, 33, 34, 35, 36, 37, 38, 39, 40, 41, 42, 43, 44, 45, 46, 47, 48, 49, 50, 51, 52, 53, 54, 55, 56, 57, 58, 59, 60, 61, 62, 63, 64, 65, 66, 67, 68, 69, 78, 79, 80, 84, 85, 86, 87, 88, 89, 90, 91, 92, 93, 94, 95, 96, 97, 98, 99, 100, 101, 102, 103, 104] (by decide +kernel) (by decide +kernel)
set_option maxRecDepth 20000 in
theorem gX4_hardest_X4_moves : GoodIn wsX4_hardest (wsV RX4 146 RX4 yX4_moves wsX4_moves) := goodIn_app (goodIn_of _ (by decide +kernel)) ggX4_hardest_X4_moves
set_option maxRecDepth 20000 in
theorem ggX4_hardest_X4_isMore : GoodIn wsX4_hardest wsX4_isMore := goodIn_r _ [83] (by decide +kernel) (by decide +kernel)
set_option maxRecDepth 20000 in
theorem gX4_hardest_X4_isMore : GoodIn wsX4_hardest (va_wsS RX4 149 yX4_isMore wsX4_isMore) := goodIn_app (goodIn_of _ (by decide +kernel)) ggX4_hardest_X4_isMore
theorem dX4_hardest_0 : decode cX4_hardest 0 = .ok (.iload_n 1, 1) := by decide +kernel
theorem dX4_hardest_1 : decode cX4_hardest 1 = .ok (.iconst 0, 1) := by decide +kernel
theorem dX4_hardest_2 : decode cX4_hardest 2 = .ok (.iconst 3, 1) := by decide +kernel
theorem dX4_hardest_3 : decode cX4_hardest 3 = .ok (.invokestatic 53, 3) := by decide +kernel
theorem dX4_hardest_6 : decode cX4_hardest 6 = .ok (.ifCond .ne 7, 3) := by decide +kernel
theorem dX4_hardest_9 : decode cX4_hardest 9 = .ok (.ldc2_w 144, 3) := by decide +kernel
theorem dX4_hardest_12 : decode cX4_hardest 12 = .ok (.lreturn, 1) := by decide +kernel
theorem dX4_hardest_13 : decode cX4_hardest 13 = .ok (.aload_n 0, 1) := by decide +kernel
theorem dX4_hardest_14 : decode cX4_hardest 14 = .ok (.invokevirtual 123, 3) := by decide +kernel
theorem dX4_hardest_17 : decode cX4_hardest 17 = .ok (.aload_n 0, 1) := by decide +kernel
theorem dX4_hardest_18 : decode cX4_hardest 18 = .ok (.aload_n 0, 1) := by decide +kernel
theorem dX4_hardest_19 : decode cX4_hardest 19 = .ok (.getfield 79, 3) := by decide +kernel
theorem dX4_hardest_22 : decode cX4_hardest 22 = .ok (.putfield 135, 3) := by decide +kernel
theorem dX4_hardest_25 : decode cX4_hardest 25 = .ok (.iconst 0, 1) := by decide +kernel
theorem dX4_hardest_26 : decode cX4_hardest 26 = .ok (.istore_n 2, 1) := by decide +kernel
theorem dX4_hardest_27 : decode cX4_hardest 27 = .ok (.iload_n 2, 1) := by decide +kernel
theorem dX4_hardest_28 : decode cX4_hardest 28 = .ok (.iconst 4, 1) := by decide +kernel
theorem dX4_hardest_29 : decode cX4_hardest 29 = .ok (.if_icmp .ge 21, 3) := by decide +kernel
theorem dX4_hardest_32 : decode cX4_hardest 32 = .ok (.aload_n 0, 1) := by decide +kernel
theorem dX4_hardest_33 : decode cX4_hardest 33 = .ok (.getfield 32, 3) := by decide +kernel
theorem dX4_hardest_36 : decode cX4_hardest 36 = .ok (.iload_n 2, 1) := by decide +kernel
theorem dX4_hardest_37 : decode cX4_hardest 37 = .ok (.aload_n 0, 1) := by decide +kernel
theorem dX4_hardest_38 : decode cX4_hardest 38 = .ok (.getfield 22, 3) := by decide +kernel
theorem dX4_hardest_41 : decode cX4_hardest 41 = .ok (.iload_n 2, 1) := by decide +kernel
theorem dX4_hardest_42 : decode cX4_hardest 42 = .ok (.laload, 1) := by decide +kernel
theorem dX4_hardest_43 : decode cX4_hardest 43 = .ok (.lastore, 1) := by decide +kernel
theorem dX4_hardest_44 : decode cX4_hardest 44 = .ok (.iinc 2 1, 3) := by decide +kernel
theorem dX4_hardest_47 : decode cX4_hardest 47 = .ok (.goto (-20), 3) := by decide +kernel
theorem dX4_hardest_50 : decode cX4_hardest 50 = .ok (.ldc 78, 2) := by decide +kernel
theorem dX4_hardest_52 : decode cX4_hardest 52 = .ok (.istore_n 2, 1) := by decide +kernel
theorem dX4_hardest_53 : decode cX4_hardest 53 = .ok (.lconst 0, 1) := by decide +kernel
theorem dX4_hardest_54 : decode cX4_hardest 54 = .ok (.lstore_n 3, 1) := by decide +kernel
theorem dX4_hardest_55 : decode cX4_hardest 55 = .ok (.lconst 1, 1) := by decide +kernel
theorem dX4_hardest_56 : decode cX4_hardest 56 = .ok (.lstore 5, 2) := by decide +kernel
theorem dX4_hardest_58 : decode cX4_hardest 58 = .ok (.iconst 0, 1) := by decide +kernel
theorem dX4_hardest_59 : decode cX4_hardest 59 = .ok (.istore 7, 2) := by decide +kernel
theorem dX4_hardest_61 : decode cX4_hardest 61 = .ok (.iload 7, 2) := by decide +kernel
theorem dX4_hardest_63 : decode cX4_hardest 63 = .ok (.iconst 2, 1) := by decide +kernel
theorem dX4_hardest_64 : decode cX4_hardest 64 = .ok (.aload_n 0, 1) := by decide +kernel
theorem dX4_hardest_65 : decode cX4_hardest 65 = .ok (.getfield 7, 3) := by decide +kernel
theorem dX4_hardest_68 : decode cX4_hardest 68 = .ok (.iconst 1, 1) := by decide +kernel
theorem dX4_hardest_69 : decode cX4_hardest 69 = .ok (.iaload, 1) := by decide +kernel
theorem dX4_hardest_70 : decode cX4_hardest 70 = .ok (.imul, 1) := by decide +kernel
theorem dX4_hardest_71 : decode cX4_hardest 71 = .ok (.if_icmp .ge 115, 3) := by decide +kernel
theorem dX4_hardest_74 : decode cX4_hardest 74 = .ok (.aload_n 0, 1) := by decide +kernel
theorem dX4_hardest_75 : decode cX4_hardest 75 = .ok (.getfield 7, 3) := by decide +kernel
theorem dX4_hardest_78 : decode cX4_hardest 78 = .ok (.aload_n 0, 1) := by decide +kernel
theorem dX4_hardest_79 : decode cX4_hardest 79 = .ok (.iload 7, 2) := by decide +kernel
theorem dX4_hardest_81 : decode cX4_hardest 81 = .ok (.iconst 2, 1) := by decide +kernel
theorem dX4_hardest_82 : decode cX4_hardest 82 = .ok (.idiv, 1) := by decide +kernel
theorem dX4_hardest_83 : decode cX4_hardest 83 = .ok (.iload 7, 2) := by decide +kernel
theorem dX4_hardest_85 : decode cX4_hardest 85 = .ok (.iconst 2, 1) := by decide +kernel
theorem dX4_hardest_86 : decode cX4_hardest 86 = .ok (.irem, 1) := by decide +kernel
theorem dX4_hardest_87 : decode cX4_hardest 87 = .ok (.invokevirtual 70, 3) := by decide +kernel
theorem dX4_hardest_90 : decode cX4_hardest 90 = .ok (.iaload, 1) := by decide +kernel
theorem dX4_hardest_91 : decode cX4_hardest 91 = .ok (.ifCond .lt 89, 3) := by decide +kernel
theorem dX4_hardest_94 : decode cX4_hardest 94 = .ok (.aload_n 0, 1) := by decide +kernel
theorem dX4_hardest_95 : decode cX4_hardest 95 = .ok (.aload_n 0, 1) := by decide +kernel
theorem dX4_hardest_96 : decode cX4_hardest 96 = .ok (.iload 7, 2) := by decide +kernel
theorem dX4_hardest_98 : decode cX4_hardest 98 = .ok (.iconst 2, 1) := by decide +kernel
theorem dX4_hardest_99 : decode cX4_hardest 99 = .ok (.idiv, 1) := by decide +kernel
theorem dX4_hardest_100 : decode cX4_hardest 100 = .ok (.iload 7, 2) := by decide +kernel
theorem dX4_hardest_102 : decode cX4_hardest 102 = .ok (.iconst 2, 1) := by decide +kernel
theorem dX4_hardest_103 : decode cX4_hardest 103 = .ok (.irem, 1) := by decide +kernel
theorem dX4_hardest_104 : decode cX4_hardest 104 = .ok (.invokevirtual 70, 3) := by decide +kernel
theorem dX4_hardest_107 : decode cX4_hardest 107 = .ok (.invokevirtual 146, 3) := by decide +kernel
theorem dX4_hardest_110 : decode cX4_hardest 110 = .ok (.iload_n 2, 1) := by decide +kernel
theorem dX4_hardest_111 : decode cX4_hardest 111 = .ok (.ifCond .lt 20, 3) := by decide +kernel
theorem dX4_hardest_114 : decode cX4_hardest 114 = .ok (.aload_n 0, 1) := by decide +kernel
theorem dX4_hardest_115 : decode cX4_hardest 115 = .ok (.getfield 138, 3) := by decide +kernel
theorem dX4_hardest_118 : decode cX4_hardest 118 = .ok (.aload_n 0, 1) := by decide +kernel
theorem dX4_hardest_119 : decode cX4_hardest 119 = .ok (.getfield 141, 3) := by decide +kernel
theorem dX4_hardest_122 : decode cX4_hardest 122 = .ok (.lload_n 3, 1) := by decide +kernel
theorem dX4_hardest_123 : decode cX4_hardest 123 = .ok (.lload 5, 2) := by decide +kernel
theorem dX4_hardest_125 : decode cX4_hardest 125 = .ok (.invokestatic 149, 3) := by decide +kernel
theorem dX4_hardest_128 : decode cX4_hardest 128 = .ok (.ifCond .eq 7, 3) := by decide +kernel
theorem dX4_hardest_131 : decode cX4_hardest 131 = .ok (.iconst 1, 1) := by decide +kernel
theorem dX4_hardest_132 : decode cX4_hardest 132 = .ok (.goto 4, 3) := by decide +kernel
theorem dX4_hardest_135 : decode cX4_hardest 135 = .ok (.iconst 0, 1) := by decide +kernel
theorem dX4_hardest_136 : decode cX4_hardest 136 = .ok (.istore 8, 2) := by decide +kernel
theorem dX4_hardest_138 : decode cX4_hardest 138 = .ok (.iload 8, 2) := by decide +kernel
theorem dX4_hardest_140 : decode cX4_hardest 140 = .ok (.ifCond .eq 8, 3) := by decide +kernel
theorem dX4_hardest_143 : decode cX4_hardest 143 = .ok (.iload 7, 2) := by decide +kernel
theorem dX4_hardest_145 : decode cX4_hardest 145 = .ok (.goto 4, 3) := by decide +kernel
theorem dX4_hardest_148 : decode cX4_hardest 148 = .ok (.iload_n 2, 1) := by decide +kernel
theorem dX4_hardest_149 : decode cX4_hardest 149 = .ok (.istore_n 2, 1) := by decide +kernel
theorem dX4_hardest_150 : decode cX4_hardest 150 = .ok (.iload 8, 2) := by decide +kernel
theorem dX4_hardest_152 : decode cX4_hardest 152 = .ok (.ifCond .eq 10, 3) := by decide +kernel
theorem dX4_hardest_155 : decode cX4_hardest 155 = .ok (.aload_n 0, 1) := by decide +kernel
theorem dX4_hardest_156 : decode cX4_hardest 156 = .ok (.getfield 138, 3) := by decide +kernel
theorem dX4_hardest_159 : decode cX4_hardest 159 = .ok (.goto 4, 3) := by decide +kernel
theorem dX4_hardest_162 : decode cX4_hardest 162 = .ok (.lload_n 3, 1) := by decide +kernel
theorem dX4_hardest_163 : decode cX4_hardest 163 = .ok (.lstore_n 3, 1) := by decide +kernel
theorem dX4_hardest_164 : decode cX4_hardest 164 = .ok (.iload 8, 2) := by decide +kernel
theorem dX4_hardest_166 : decode cX4_hardest 166 = .ok (.ifCond .eq 10, 3) := by decide +kernel
theorem dX4_hardest_169 : decode cX4_hardest 169 = .ok (.aload_n 0, 1) := by decide +kernel
theorem dX4_hardest_170 : decode cX4_hardest 170 = .ok (.getfield 141, 3) := by decide +kernel
theorem dX4_hardest_173 : decode cX4_hardest 173 = .ok (.goto 5, 3) := by decide +kernel
theorem dX4_hardest_176 : decode cX4_hardest 176 = .ok (.lload 5, 2) := by decide +kernel
theorem dX4_hardest_178 : decode cX4_hardest 178 = .ok (.lstore 5, 2) := by decide +kernel
theorem dX4_hardest_180 : decode cX4_hardest 180 = .ok (.iinc 7 1, 3) := by decide +kernel
theorem dX4_hardest_183 : decode cX4_hardest 183 = .ok (.goto (-122), 3) := by decide +kernel
theorem dX4_hardest_186 : decode cX4_hardest 186 = .ok (.iload_n 2, 1) := by decide +kernel
theorem dX4_hardest_187 : decode cX4_hardest 187 = .ok (.ifCond .ge 9, 3) := by decide +kernel
theorem dX4_hardest_190 : decode cX4_hardest 190 = .ok (.ldc2_w 153, 3) := by decide +kernel
theorem dX4_hardest_193 : decode cX4_hardest 193 = .ok (.goto 37, 3) := by decide +kernel
theorem dX4_hardest_196 : decode cX4_hardest 196 = .ok (.iload_n 1, 1) := by decide +kernel
theorem dX4_hardest_197 : decode cX4_hardest 197 = .ok (.ifCond .ne 10, 3) := by decide +kernel
theorem dX4_hardest_200 : decode cX4_hardest 200 = .ok (.iload_n 2, 1) := by decide +kernel
theorem dX4_hardest_201 : decode cX4_hardest 201 = .ok (.iconst 2, 1) := by decide +kernel
theorem dX4_hardest_202 : decode cX4_hardest 202 = .ok (.idiv, 1) := by decide +kernel
theorem dX4_hardest_203 : decode cX4_hardest 203 = .ok (.i2l, 1) := by decide +kernel
theorem dX4_hardest_204 : decode cX4_hardest 204 = .ok (.goto 26, 3) := by decide +kernel
theorem dX4_hardest_207 : decode cX4_hardest 207 = .ok (.iload_n 1, 1) := by decide +kernel
theorem dX4_hardest_208 : decode cX4_hardest 208 = .ok (.iconst 1, 1) := by decide +kernel
theorem dX4_hardest_209 : decode cX4_hardest 209 = .ok (.if_icmp .ne 10, 3) := by decide +kernel
theorem dX4_hardest_212 : decode cX4_hardest 212 = .ok (.iload_n 2, 1) := by decide +kernel
theorem dX4_hardest_213 : decode cX4_hardest 213 = .ok (.iconst 2, 1) := by decide +kernel
theorem dX4_hardest_214 : decode cX4_hardest 214 = .ok (.irem, 1) := by decide +kernel
theorem dX4_hardest_215 : decode cX4_hardest 215 = .ok (.i2l, 1) := by decide +kernel
theorem dX4_hardest_216 : decode cX4_hardest 216 = .ok (.goto 14, 3) := by decide +kernel
theorem dX4_hardest_219 : decode cX4_hardest 219 = .ok (.iload_n 1, 1) := by decide +kernel
theorem dX4_hardest_220 : decode cX4_hardest 220 = .ok (.iconst 2, 1) := by decide +kernel
theorem dX4_hardest_221 : decode cX4_hardest 221 = .ok (.if_icmp .ne 7, 3) := by decide +kernel
theorem dX4_hardest_224 : decode cX4_hardest 224 = .ok (.lload_n 3, 1) := by decide +kernel
theorem dX4_hardest_225 : decode cX4_hardest 225 = .ok (.goto 5, 3) := by decide +kernel
theorem dX4_hardest_228 : decode cX4_hardest 228 = .ok (.lload 5, 2) := by decide +kernel
theorem dX4_hardest_230 : decode cX4_hardest 230 = .ok (.lreturn, 1) := by decide +kernel
theorem dX4_stops_0 : decode cX4_stops 0 = .ok (.iconst 0, 1) := by decide +kernel
theorem dX4_stops_1 : decode cX4_stops 1 = .ok (.istore_n 1, 1) := by decide +kernel
theorem dX4_stops_2 : decode cX4_stops 2 = .ok (.iconst 0, 1) := by decide +kernel
theorem dX4_stops_3 : decode cX4_stops 3 = .ok (.istore_n 2, 1) := by decide +kernel
theorem dX4_stops_4 : decode cX4_stops 4 = .ok (.iload_n 2, 1) := by decide +kernel
theorem dX4_stops_5 : decode cX4_stops 5 = .ok (.aload_n 0, 1) := by decide +kernel
theorem dX4_stops_6 : decode cX4_stops 6 = .ok (.getfield 7, 3) := by decide +kernel
theorem dX4_stops_9 : decode cX4_stops 9 = .ok (.iconst 1, 1) := by decide +kernel
theorem dX4_stops_10 : decode cX4_stops 10 = .ok (.iaload, 1) := by decide +kernel
theorem dX4_stops_11 : decode cX4_stops 11 = .ok (.if_icmp .ge 47, 3) := by decide +kernel
theorem dX4_stops_14 : decode cX4_stops 14 = .ok (.iload_n 1, 1) := by decide +kernel
theorem dX4_stops_15 : decode cX4_stops 15 = .ok (.aload_n 0, 1) := by decide +kernel
theorem dX4_stops_16 : decode cX4_stops 16 = .ok (.getfield 7, 3) := by decide +kernel
theorem dX4_stops_19 : decode cX4_stops 19 = .ok (.bipush 16, 2) := by decide +kernel
theorem dX4_stops_21 : decode cX4_stops 21 = .ok (.iload_n 2, 1) := by decide +kernel
theorem dX4_stops_22 : decode cX4_stops 22 = .ok (.iadd, 1) := by decide +kernel
theorem dX4_stops_23 : decode cX4_stops 23 = .ok (.iaload, 1) := by decide +kernel
theorem dX4_stops_24 : decode cX4_stops 24 = .ok (.ifCond .ge 7, 3) := by decide +kernel
theorem dX4_stops_27 : decode cX4_stops 27 = .ok (.iconst 0, 1) := by decide +kernel
theorem dX4_stops_28 : decode cX4_stops 28 = .ok (.goto 4, 3) := by decide +kernel
theorem dX4_stops_31 : decode cX4_stops 31 = .ok (.iconst 1, 1) := by decide +kernel
theorem dX4_stops_32 : decode cX4_stops 32 = .ok (.aload_n 0, 1) := by decide +kernel
theorem dX4_stops_33 : decode cX4_stops 33 = .ok (.getfield 7, 3) := by decide +kernel
theorem dX4_stops_36 : decode cX4_stops 36 = .ok (.bipush 20, 2) := by decide +kernel
theorem dX4_stops_38 : decode cX4_stops 38 = .ok (.iload_n 2, 1) := by decide +kernel
theorem dX4_stops_39 : decode cX4_stops 39 = .ok (.iadd, 1) := by decide +kernel
theorem dX4_stops_40 : decode cX4_stops 40 = .ok (.iaload, 1) := by decide +kernel
theorem dX4_stops_41 : decode cX4_stops 41 = .ok (.ifCond .ge 7, 3) := by decide +kernel
theorem dX4_stops_44 : decode cX4_stops 44 = .ok (.iconst 0, 1) := by decide +kernel
theorem dX4_stops_45 : decode cX4_stops 45 = .ok (.goto 4, 3) := by decide +kernel
theorem dX4_stops_48 : decode cX4_stops 48 = .ok (.iconst 1, 1) := by decide +kernel
theorem dX4_stops_49 : decode cX4_stops 49 = .ok (.iadd, 1) := by decide +kernel
theorem dX4_stops_50 : decode cX4_stops 50 = .ok (.iadd, 1) := by decide +kernel
theorem dX4_stops_51 : decode cX4_stops 51 = .ok (.istore_n 1, 1) := by decide +kernel
theorem dX4_stops_52 : decode cX4_stops 52 = .ok (.iinc 2 1, 3) := by decide +kernel
theorem dX4_stops_55 : decode cX4_stops 55 = .ok (.goto (-51), 3) := by decide +kernel
theorem dX4_stops_58 : decode cX4_stops 58 = .ok (.iload_n 1, 1) := by decide +kernel
theorem dX4_stops_59 : decode cX4_stops 59 = .ok (.ireturn, 1) := by decide +kernel
theorem dX4_loads_0 : decode cX4_loads 0 = .ok (.iconst 0, 1) := by decide +kernel
theorem dX4_loads_1 : decode cX4_loads 1 = .ok (.istore_n 1, 1) := by decide +kernel
theorem dX4_loads_2 : decode cX4_loads 2 = .ok (.iconst 0, 1) := by decide +kernel
theorem dX4_loads_3 : decode cX4_loads 3 = .ok (.istore_n 2, 1) := by decide +kernel
theorem dX4_loads_4 : decode cX4_loads 4 = .ok (.iload_n 2, 1) := by decide +kernel
theorem dX4_loads_5 : decode cX4_loads 5 = .ok (.aload_n 0, 1) := by decide +kernel
theorem dX4_loads_6 : decode cX4_loads 6 = .ok (.getfield 7, 3) := by decide +kernel
theorem dX4_loads_9 : decode cX4_loads 9 = .ok (.iconst 1, 1) := by decide +kernel
theorem dX4_loads_10 : decode cX4_loads 10 = .ok (.iaload, 1) := by decide +kernel
theorem dX4_loads_11 : decode cX4_loads 11 = .ok (.if_icmp .ge 21, 3) := by decide +kernel
theorem dX4_loads_14 : decode cX4_loads 14 = .ok (.iload_n 1, 1) := by decide +kernel
theorem dX4_loads_15 : decode cX4_loads 15 = .ok (.aload_n 0, 1) := by decide +kernel
theorem dX4_loads_16 : decode cX4_loads 16 = .ok (.getfield 7, 3) := by decide +kernel
theorem dX4_loads_19 : decode cX4_loads 19 = .ok (.bipush 12, 2) := by decide +kernel
theorem dX4_loads_21 : decode cX4_loads 21 = .ok (.iload_n 2, 1) := by decide +kernel
theorem dX4_loads_22 : decode cX4_loads 22 = .ok (.iadd, 1) := by decide +kernel
theorem dX4_loads_23 : decode cX4_loads 23 = .ok (.iaload, 1) := by decide +kernel
theorem dX4_loads_24 : decode cX4_loads 24 = .ok (.iadd, 1) := by decide +kernel
theorem dX4_loads_25 : decode cX4_loads 25 = .ok (.istore_n 1, 1) := by decide +kernel
theorem dX4_loads_26 : decode cX4_loads 26 = .ok (.iinc 2 1, 3) := by decide +kernel
theorem dX4_loads_29 : decode cX4_loads 29 = .ok (.goto (-25), 3) := by decide +kernel
theorem dX4_loads_32 : decode cX4_loads 32 = .ok (.iload_n 1, 1) := by decide +kernel
theorem dX4_loads_33 : decode cX4_loads 33 = .ok (.ireturn, 1) := by decide +kernel
set_option maxRecDepth 20000 in
theorem ggX4_count_X4_stops : GoodIn wsX4_count wsX4_stops := goodIn_r _ [9, 1, 14, 15, 16, 17, 18, 19, 20, 21, 22, 23, 24, 25, 26, 27, 28, 29, 30, 31, 32, 33, 34] (by decide +kernel) (by decide +kernel)
set_option maxRecDepth 20000 in
theorem gX4_count_X4_stops : GoodIn wsX4_count (wsV RX4 155 RX4 yX4_stops wsX4_stops) := goodIn_app (goodIn_of _ (by decide +kernel)) ggX4_count_X4_stops
set_option maxRecDepth 20000 in
theorem ggX4_count_X4_loads : GoodIn wsX4_count wsX4_loads := goodIn_r _ [13, 1, 14, 15, 16, 17, 18, 19, 20, 21, 22, 23, 24, 25, 26, 27, 28, 29, 30, 31, 32, 33, 34] (by decide +kernel) (by decide +kernel)
set_option maxRecDepth 20000 in
theorem gX4_count_X4_loads : GoodIn wsX4_count (wsV RX4 159 RX4 yX4_loads wsX4_loads) := goodIn_app (goodIn_of _ (by decide +kernel)) ggX4_count_X4_loads
theorem dX4_count_0 : decode cX4_count 0 = .ok (.iload_n 1, 1) := by decide +kernel
theorem dX4_count_1 : decode cX4_count 1 = .ok (.tableswitch 77 0 5 #[39, 46, 53, 58, 67, 72], 39) := by decide +kernel
theorem dX4_count_40 : decode cX4_count 40 = .ok (.aload_n 0, 1) := by decide +kernel
theorem dX4_count_41 : decode cX4_count 41 = .ok (.getfield 7, 3) := by decide +kernel
theorem dX4_count_44 : decode cX4_count 44 = .ok (.iconst 1, 1) := by decide +kernel
theorem dX4_count_45 : decode cX4_count 45 = .ok (.iaload, 1) := by decide +kernel
theorem dX4_count_46 : decode cX4_count 46 = .ok (.ireturn, 1) := by decide +kernel
theorem dX4_count_47 : decode cX4_count 47 = .ok (.aload_n 0, 1) := by decide +kernel
theorem dX4_count_48 : decode cX4_count 48 = .ok (.getfield 7, 3) := by decide +kernel
theorem dX4_count_51 : decode cX4_count 51 = .ok (.iconst 0, 1) := by decide +kernel
theorem dX4_count_52 : decode cX4_count 52 = .ok (.iaload, 1) := by decide +kernel
theorem dX4_count_53 : decode cX4_count 53 = .ok (.ireturn, 1) := by decide +kernel
theorem dX4_count_54 : decode cX4_count 54 = .ok (.aload_n 0, 1) := by decide +kernel
theorem dX4_count_55 : decode cX4_count 55 = .ok (.invokevirtual 155, 3) := by decide +kernel
theorem dX4_count_58 : decode cX4_count 58 = .ok (.ireturn, 1) := by decide +kernel
theorem dX4_count_59 : decode cX4_count 59 = .ok (.aload_n 0, 1) := by decide +kernel
theorem dX4_count_60 : decode cX4_count 60 = .ok (.invokevirtual 159, 3) := by decide +kernel
theorem dX4_count_63 : decode cX4_count 63 = .ok (.sipush 1000, 3) := by decide +kernel
theorem dX4_count_66 : decode cX4_count 66 = .ok (.iadd, 1) := by decide +kernel
theorem dX4_count_67 : decode cX4_count 67 = .ok (.ireturn, 1) := by decide +kernel
theorem dX4_count_68 : decode cX4_count 68 = .ok (.aload_n 0, 1) := by decide +kernel
theorem dX4_count_69 : decode cX4_count 69 = .ok (.getfield 42, 3) := by decide +kernel
theorem dX4_count_72 : decode cX4_count 72 = .ok (.ireturn, 1) := by decide +kernel
theorem dX4_count_73 : decode cX4_count 73 = .ok (.aload_n 0, 1) := by decide +kernel
theorem dX4_count_74 : decode cX4_count 74 = .ok (.getfield 162, 3) := by decide +kernel
theorem dX4_count_77 : decode cX4_count 77 = .ok (.ireturn, 1) := by decide +kernel
theorem dX4_count_78 : decode cX4_count 78 = .ok (.ldc 57, 2) := by decide +kernel
theorem dX4_count_80 : decode cX4_count 80 = .ok (.ireturn, 1) := by decide +kernel
theorem dX4_undo_0 : decode cX4_undo 0 = .ok (.aload_n 0, 1) := by decide +kernel
theorem dX4_undo_1 : decode cX4_undo 1 = .ok (.getfield 42, 3) := by decide +kernel
theorem dX4_undo_4 : decode cX4_undo 4 = .ok (.ifCond .ne 6, 3) := by decide +kernel
theorem dX4_undo_7 : decode cX4_undo 7 = .ok (.ldc 58, 2) := by decide +kernel
theorem dX4_undo_9 : decode cX4_undo 9 = .ok (.ireturn, 1) := by decide +kernel
theorem dX4_undo_10 : decode cX4_undo 10 = .ok (.aload_n 0, 1) := by decide +kernel
theorem dX4_undo_11 : decode cX4_undo 11 = .ok (.dup, 1) := by decide +kernel
theorem dX4_undo_12 : decode cX4_undo 12 = .ok (.getfield 42, 3) := by decide +kernel
theorem dX4_undo_15 : decode cX4_undo 15 = .ok (.iconst 1, 1) := by decide +kernel
theorem dX4_undo_16 : decode cX4_undo 16 = .ok (.isub, 1) := by decide +kernel
theorem dX4_undo_17 : decode cX4_undo 17 = .ok (.putfield 42, 3) := by decide +kernel
theorem dX4_undo_20 : decode cX4_undo 20 = .ok (.iconst 0, 1) := by decide +kernel
theorem dX4_undo_21 : decode cX4_undo 21 = .ok (.istore_n 1, 1) := by decide +kernel
theorem dX4_undo_22 : decode cX4_undo 22 = .ok (.iload_n 1, 1) := by decide +kernel
theorem dX4_undo_23 : decode cX4_undo 23 = .ok (.bipush 24, 2) := by decide +kernel
theorem dX4_undo_25 : decode cX4_undo 25 = .ok (.if_icmp .ge 29, 3) := by decide +kernel
theorem dX4_undo_28 : decode cX4_undo 28 = .ok (.aload_n 0, 1) := by decide +kernel
theorem dX4_undo_29 : decode cX4_undo 29 = .ok (.getfield 7, 3) := by decide +kernel
theorem dX4_undo_32 : decode cX4_undo 32 = .ok (.iload_n 1, 1) := by decide +kernel
theorem dX4_undo_33 : decode cX4_undo 33 = .ok (.aload_n 0, 1) := by decide +kernel
theorem dX4_undo_34 : decode cX4_undo 34 = .ok (.getfield 13, 3) := by decide +kernel
theorem dX4_undo_37 : decode cX4_undo 37 = .ok (.bipush 24, 2) := by decide +kernel
theorem dX4_undo_39 : decode cX4_undo 39 = .ok (.aload_n 0, 1) := by decide +kernel
theorem dX4_undo_40 : decode cX4_undo 40 = .ok (.getfield 42, 3) := by decide +kernel
theorem dX4_undo_43 : decode cX4_undo 43 = .ok (.imul, 1) := by decide +kernel
theorem dX4_undo_44 : decode cX4_undo 44 = .ok (.iload_n 1, 1) := by decide +kernel
theorem dX4_undo_45 : decode cX4_undo 45 = .ok (.iadd, 1) := by decide +kernel
theorem dX4_undo_46 : decode cX4_undo 46 = .ok (.iaload, 1) := by decide +kernel
theorem dX4_undo_47 : decode cX4_undo 47 = .ok (.iastore, 1) := by decide +kernel
theorem dX4_undo_48 : decode cX4_undo 48 = .ok (.iinc 1 1, 3) := by decide +kernel
theorem dX4_undo_51 : decode cX4_undo 51 = .ok (.goto (-29), 3) := by decide +kernel
theorem dX4_undo_54 : decode cX4_undo 54 = .ok (.aload_n 0, 1) := by decide +kernel
theorem dX4_undo_55 : decode cX4_undo 55 = .ok (.getfield 42, 3) := by decide +kernel
theorem dX4_undo_58 : decode cX4_undo 58 = .ok (.ireturn, 1) := by decide +kernel
set_option maxRecDepth 20000 in
theorem ggX4_type_X4_in : GoodIn wsX4_type wsX4_in := goodIn_r _ [8] (by decide +kernel) (by decide +kernel)
set_option maxRecDepth 20000 in
theorem gX4_type_X4_in : GoodIn wsX4_type (va_wsS RX4 53 yX4_in wsX4_in) := goodIn_app (goodIn_of _ (by decide +kernel)) ggX4_type_X4_in
theorem dX4_type_0 : decode cX4_type 0 = .ok (.iload_n 1, 1) := by decide +kernel
theorem dX4_type_1 : decode cX4_type 1 = .ok (.bipush 32, 2) := by decide +kernel
theorem dX4_type_3 : decode cX4_type 3 = .ok (.bipush 126, 2) := by decide +kernel
theorem dX4_type_5 : decode cX4_type 5 = .ok (.invokestatic 53, 3) := by decide +kernel
theorem dX4_type_8 : decode cX4_type 8 = .ok (.ifCond .ne 6, 3) := by decide +kernel
theorem dX4_type_11 : decode cX4_type 11 = .ok (.ldc 57, 2) := by decide +kernel
theorem dX4_type_13 : decode cX4_type 13 = .ok (.ireturn, 1) := by decide +kernel
theorem dX4_type_14 : decode cX4_type 14 = .ok (.aload_n 0, 1) := by decide +kernel
theorem dX4_type_15 : decode cX4_type 15 = .ok (.getfield 162, 3) := by decide +kernel
theorem dX4_type_18 : decode cX4_type 18 = .ok (.bipush 60, 2) := by decide +kernel
theorem dX4_type_20 : decode cX4_type 20 = .ok (.if_icmp .ne 6, 3) := by decide +kernel
theorem dX4_type_23 : decode cX4_type 23 = .ok (.ldc 62, 2) := by decide +kernel
theorem dX4_type_25 : decode cX4_type 25 = .ok (.ireturn, 1) := by decide +kernel
theorem dX4_type_26 : decode cX4_type 26 = .ok (.aload_n 0, 1) := by decide +kernel
theorem dX4_type_27 : decode cX4_type 27 = .ok (.getfield 19, 3) := by decide +kernel
theorem dX4_type_30 : decode cX4_type 30 = .ok (.aload_n 0, 1) := by decide +kernel
theorem dX4_type_31 : decode cX4_type 31 = .ok (.getfield 162, 3) := by decide +kernel
theorem dX4_type_34 : decode cX4_type 34 = .ok (.iload_n 1, 1) := by decide +kernel
theorem dX4_type_35 : decode cX4_type 35 = .ok (.iastore, 1) := by decide +kernel
theorem dX4_type_36 : decode cX4_type 36 = .ok (.aload_n 0, 1) := by decide +kernel
theorem dX4_type_37 : decode cX4_type 37 = .ok (.dup, 1) := by decide +kernel
theorem dX4_type_38 : decode cX4_type 38 = .ok (.getfield 162, 3) := by decide +kernel
theorem dX4_type_41 : decode cX4_type 41 = .ok (.iconst 1, 1) := by decide +kernel
theorem dX4_type_42 : decode cX4_type 42 = .ok (.iadd, 1) := by decide +kernel
theorem dX4_type_43 : decode cX4_type 43 = .ok (.putfield 162, 3) := by decide +kernel
theorem dX4_type_46 : decode cX4_type 46 = .ok (.aload_n 0, 1) := by decide +kernel
theorem dX4_type_47 : decode cX4_type 47 = .ok (.getfield 162, 3) := by decide +kernel
theorem dX4_type_50 : decode cX4_type 50 = .ok (.ireturn, 1) := by decide +kernel
theorem dX4_clearText_0 : decode cX4_clearText 0 = .ok (.aload_n 0, 1) := by decide +kernel
theorem dX4_clearText_1 : decode cX4_clearText 1 = .ok (.getfield 162, 3) := by decide +kernel
theorem dX4_clearText_4 : decode cX4_clearText 4 = .ok (.istore_n 1, 1) := by decide +kernel
theorem dX4_clearText_5 : decode cX4_clearText 5 = .ok (.aload_n 0, 1) := by decide +kernel
theorem dX4_clearText_6 : decode cX4_clearText 6 = .ok (.iconst 0, 1) := by decide +kernel
theorem dX4_clearText_7 : decode cX4_clearText 7 = .ok (.putfield 162, 3) := by decide +kernel
theorem dX4_clearText_10 : decode cX4_clearText 10 = .ok (.iload_n 1, 1) := by decide +kernel
theorem dX4_clearText_11 : decode cX4_clearText 11 = .ok (.ireturn, 1) := by decide +kernel
set_option maxRecDepth 20000 in
theorem ggX4_isHere_X4_in : GoodIn wsX4_isHere wsX4_in := goodIn_r _ [7] (by decide +kernel) (by decide +kernel)
set_option maxRecDepth 20000 in
theorem gX4_isHere_X4_in : GoodIn wsX4_isHere (va_wsS RX4 53 yX4_in wsX4_in) := goodIn_app (goodIn_of _ (by decide +kernel)) ggX4_isHere_X4_in
theorem dX4_isHere_0 : decode cX4_isHere 0 = .ok (.aload_n 0, 1) := by decide +kernel
theorem dX4_isHere_1 : decode cX4_isHere 1 = .ok (.getfield 165, 3) := by decide +kernel
theorem dX4_isHere_4 : decode cX4_isHere 4 = .ok (.aload_n 0, 1) := by decide +kernel
theorem dX4_isHere_5 : decode cX4_isHere 5 = .ok (.getfield 162, 3) := by decide +kernel
theorem dX4_isHere_8 : decode cX4_isHere 8 = .ok (.if_icmp .ge 24, 3) := by decide +kernel
theorem dX4_isHere_11 : decode cX4_isHere 11 = .ok (.aload_n 0, 1) := by decide +kernel
theorem dX4_isHere_12 : decode cX4_isHere 12 = .ok (.getfield 19, 3) := by decide +kernel
theorem dX4_isHere_15 : decode cX4_isHere 15 = .ok (.aload_n 0, 1) := by decide +kernel
theorem dX4_isHere_16 : decode cX4_isHere 16 = .ok (.getfield 165, 3) := by decide +kernel
theorem dX4_isHere_19 : decode cX4_isHere 19 = .ok (.iaload, 1) := by decide +kernel
theorem dX4_isHere_20 : decode cX4_isHere 20 = .ok (.iload_n 1, 1) := by decide +kernel
theorem dX4_isHere_21 : decode cX4_isHere 21 = .ok (.iload_n 2, 1) := by decide +kernel
theorem dX4_isHere_22 : decode cX4_isHere 22 = .ok (.invokestatic 53, 3) := by decide +kernel
theorem dX4_isHere_25 : decode cX4_isHere 25 = .ok (.ifCond .eq 7, 3) := by decide +kernel
theorem dX4_isHere_28 : decode cX4_isHere 28 = .ok (.iconst 1, 1) := by decide +kernel
theorem dX4_isHere_29 : decode cX4_isHere 29 = .ok (.goto 4, 3) := by decide +kernel
theorem dX4_isHere_32 : decode cX4_isHere 32 = .ok (.iconst 0, 1) := by decide +kernel
theorem dX4_isHere_33 : decode cX4_isHere 33 = .ok (.ireturn, 1) := by decide +kernel
set_option maxRecDepth 20000 in
theorem ggX4_passes_X4_isHere : GoodIn wsX4_passes wsX4_isHere := goodIn_r _ [6, 1, 7, 8, 9, 10, 5, 11, 12, 13, 14, 15, 16, 17, 18, 19, 20, 21, 22, 23, 24, 25, 26, 27, 28, 29, 30, 31, 32] (by decide +kernel) (by decide +kernel)
set_option maxRecDepth 20000 in
theorem gX4_passes_X4_isHere : GoodIn wsX4_passes (wsV RX4 168 RX4 yX4_isHere wsX4_isHere) := goodIn_app (goodIn_of _ (by decide +kernel)) ggX4_passes_X4_isHere
theorem dX4_passes_0 : decode cX4_passes 0 = .ok (.aload_n 0, 1) := by decide +kernel
theorem dX4_passes_1 : decode cX4_passes 1 = .ok (.iload_n 1, 1) := by decide +kernel
theorem dX4_passes_2 : decode cX4_passes 2 = .ok (.iload_n 1, 1) := by decide +kernel
theorem dX4_passes_3 : decode cX4_passes 3 = .ok (.invokevirtual 168, 3) := by decide +kernel
theorem dX4_passes_6 : decode cX4_passes 6 = .ok (.istore_n 2, 1) := by decide +kernel
theorem dX4_passes_7 : decode cX4_passes 7 = .ok (.aload_n 0, 1) := by decide +kernel
theorem dX4_passes_8 : decode cX4_passes 8 = .ok (.dup, 1) := by decide +kernel
theorem dX4_passes_9 : decode cX4_passes 9 = .ok (.getfield 165, 3) := by decide +kernel
theorem dX4_passes_12 : decode cX4_passes 12 = .ok (.iload_n 2, 1) := by decide +kernel
theorem dX4_passes_13 : decode cX4_passes 13 = .ok (.ifCond .eq 7, 3) := by decide +kernel
theorem dX4_passes_16 : decode cX4_passes 16 = .ok (.iconst 1, 1) := by decide +kernel
theorem dX4_passes_17 : decode cX4_passes 17 = .ok (.goto 4, 3) := by decide +kernel
theorem dX4_passes_20 : decode cX4_passes 20 = .ok (.iconst 0, 1) := by decide +kernel
theorem dX4_passes_21 : decode cX4_passes 21 = .ok (.iadd, 1) := by decide +kernel
theorem dX4_passes_22 : decode cX4_passes 22 = .ok (.putfield 165, 3) := by decide +kernel
theorem dX4_passes_25 : decode cX4_passes 25 = .ok (.iload_n 2, 1) := by decide +kernel
theorem dX4_passes_26 : decode cX4_passes 26 = .ok (.ireturn, 1) := by decide +kernel
set_option maxRecDepth 20000 in
theorem ggX4_number_X4_isHere : GoodIn wsX4_number wsX4_isHere := goodIn_r _ [8, 1, 9, 3, 10, 11, 7, 12, 17, 18, 19, 20, 21, 22, 23, 24, 25, 26, 27, 28, 29, 30, 31, 32, 33, 34, 35, 36, 37] (by decide +kernel) (by decide +kernel)
set_option maxRecDepth 20000 in
theorem gX4_number_X4_isHere : GoodIn wsX4_number (wsV RX4 168 RX4 yX4_isHere wsX4_isHere) := goodIn_app (goodIn_of _ (by decide +kernel)) ggX4_number_X4_isHere
set_option maxRecDepth 20000 in
theorem ggX4_number_X4_passes : GoodIn wsX4_number wsX4_passes := goodIn_r _ [16, 1, 4, 5, 6, 7, 8, 9, 3, 10, 11, 12, 17, 18, 19, 20, 21, 22, 23, 24, 25, 26, 27, 28, 29, 30, 31, 32, 33, 34, 35, 36, 37] (by decide +kernel) (by decide +kernel)
set_option maxRecDepth 20000 in
theorem gX4_number_X4_passes : GoodIn wsX4_number (wsV RX4 171 RX4 yX4_passes wsX4_passes) := goodIn_app (goodIn_of _ (by decide +kernel)) ggX4_number_X4_passes
theorem dX4_number_0 : decode cX4_number 0 = .ok (.aload_n 0, 1) := by decide +kernel
theorem dX4_number_1 : decode cX4_number 1 = .ok (.getfield 165, 3) := by decide +kernel
theorem dX4_number_4 : decode cX4_number 4 = .ok (.istore_n 3, 1) := by decide +kernel
theorem dX4_number_5 : decode cX4_number 5 = .ok (.aload_n 0, 1) := by decide +kernel
theorem dX4_number_6 : decode cX4_number 6 = .ok (.getfield 35, 3) := by decide +kernel
theorem dX4_number_9 : decode cX4_number 9 = .ok (.iload_n 1, 1) := by decide +kernel
theorem dX4_number_10 : decode cX4_number 10 = .ok (.iconst 0, 1) := by decide +kernel
theorem dX4_number_11 : decode cX4_number 11 = .ok (.iastore, 1) := by decide +kernel
theorem dX4_number_12 : decode cX4_number 12 = .ok (.aload_n 0, 1) := by decide +kernel
theorem dX4_number_13 : decode cX4_number 13 = .ok (.bipush 48, 2) := by decide +kernel
theorem dX4_number_15 : decode cX4_number 15 = .ok (.bipush 57, 2) := by decide +kernel
theorem dX4_number_17 : decode cX4_number 17 = .ok (.invokevirtual 168, 3) := by decide +kernel
theorem dX4_number_20 : decode cX4_number 20 = .ok (.ifCond .eq 54, 3) := by decide +kernel
theorem dX4_number_23 : decode cX4_number 23 = .ok (.aload_n 0, 1) := by decide +kernel
theorem dX4_number_24 : decode cX4_number 24 = .ok (.getfield 165, 3) := by decide +kernel
theorem dX4_number_27 : decode cX4_number 27 = .ok (.iload_n 3, 1) := by decide +kernel
theorem dX4_number_28 : decode cX4_number 28 = .ok (.isub, 1) := by decide +kernel
theorem dX4_number_29 : decode cX4_number 29 = .ok (.iconst 2, 1) := by decide +kernel
theorem dX4_number_30 : decode cX4_number 30 = .ok (.if_icmp .ge 44, 3) := by decide +kernel
theorem dX4_number_33 : decode cX4_number 33 = .ok (.aload_n 0, 1) := by decide +kernel
theorem dX4_number_34 : decode cX4_number 34 = .ok (.getfield 35, 3) := by decide +kernel
theorem dX4_number_37 : decode cX4_number 37 = .ok (.iload_n 1, 1) := by decide +kernel
theorem dX4_number_38 : decode cX4_number 38 = .ok (.bipush 10, 2) := by decide +kernel
theorem dX4_number_40 : decode cX4_number 40 = .ok (.aload_n 0, 1) := by decide +kernel
theorem dX4_number_41 : decode cX4_number 41 = .ok (.getfield 35, 3) := by decide +kernel
theorem dX4_number_44 : decode cX4_number 44 = .ok (.iload_n 1, 1) := by decide +kernel
theorem dX4_number_45 : decode cX4_number 45 = .ok (.iaload, 1) := by decide +kernel
theorem dX4_number_46 : decode cX4_number 46 = .ok (.imul, 1) := by decide +kernel
theorem dX4_number_47 : decode cX4_number 47 = .ok (.aload_n 0, 1) := by decide +kernel
theorem dX4_number_48 : decode cX4_number 48 = .ok (.getfield 19, 3) := by decide +kernel
theorem dX4_number_51 : decode cX4_number 51 = .ok (.aload_n 0, 1) := by decide +kernel
theorem dX4_number_52 : decode cX4_number 52 = .ok (.getfield 165, 3) := by decide +kernel
theorem dX4_number_55 : decode cX4_number 55 = .ok (.iaload, 1) := by decide +kernel
theorem dX4_number_56 : decode cX4_number 56 = .ok (.iadd, 1) := by decide +kernel
theorem dX4_number_57 : decode cX4_number 57 = .ok (.bipush 48, 2) := by decide +kernel
theorem dX4_number_59 : decode cX4_number 59 = .ok (.isub, 1) := by decide +kernel
theorem dX4_number_60 : decode cX4_number 60 = .ok (.iastore, 1) := by decide +kernel
theorem dX4_number_61 : decode cX4_number 61 = .ok (.aload_n 0, 1) := by decide +kernel
theorem dX4_number_62 : decode cX4_number 62 = .ok (.dup, 1) := by decide +kernel
theorem dX4_number_63 : decode cX4_number 63 = .ok (.getfield 165, 3) := by decide +kernel
theorem dX4_number_66 : decode cX4_number 66 = .ok (.iconst 1, 1) := by decide +kernel
theorem dX4_number_67 : decode cX4_number 67 = .ok (.iadd, 1) := by decide +kernel
theorem dX4_number_68 : decode cX4_number 68 = .ok (.putfield 165, 3) := by decide +kernel
theorem dX4_number_71 : decode cX4_number 71 = .ok (.goto (-59), 3) := by decide +kernel
theorem dX4_number_74 : decode cX4_number 74 = .ok (.aload_n 0, 1) := by decide +kernel
theorem dX4_number_75 : decode cX4_number 75 = .ok (.getfield 165, 3) := by decide +kernel
theorem dX4_number_78 : decode cX4_number 78 = .ok (.iload_n 3, 1) := by decide +kernel
theorem dX4_number_79 : decode cX4_number 79 = .ok (.if_icmp .le 15, 3) := by decide +kernel
theorem dX4_number_82 : decode cX4_number 82 = .ok (.aload_n 0, 1) := by decide +kernel
theorem dX4_number_83 : decode cX4_number 83 = .ok (.iload_n 2, 1) := by decide +kernel
theorem dX4_number_84 : decode cX4_number 84 = .ok (.invokevirtual 171, 3) := by decide +kernel
theorem dX4_number_87 : decode cX4_number 87 = .ok (.ifCond .eq 7, 3) := by decide +kernel
theorem dX4_number_90 : decode cX4_number 90 = .ok (.iconst 1, 1) := by decide +kernel
theorem dX4_number_91 : decode cX4_number 91 = .ok (.goto 4, 3) := by decide +kernel
theorem dX4_number_94 : decode cX4_number 94 = .ok (.iconst 0, 1) := by decide +kernel
theorem dX4_number_95 : decode cX4_number 95 = .ok (.ireturn, 1) := by decide +kernel
theorem dX4_numbersOf_0 : decode cX4_numbersOf 0 = .ok (.iload_n 0, 1) := by decide +kernel
theorem dX4_numbersOf_1 : decode cX4_numbersOf 1 = .ok (.bipush 107, 2) := by decide +kernel
theorem dX4_numbersOf_3 : decode cX4_numbersOf 3 = .ok (.if_icmp .ne 7, 3) := by decide +kernel
theorem dX4_numbersOf_6 : decode cX4_numbersOf 6 = .ok (.iconst 3, 1) := by decide +kernel
theorem dX4_numbersOf_7 : decode cX4_numbersOf 7 = .ok (.goto 52, 3) := by decide +kernel
theorem dX4_numbersOf_10 : decode cX4_numbersOf 10 = .ok (.iload_n 0, 1) := by decide +kernel
theorem dX4_numbersOf_11 : decode cX4_numbersOf 11 = .ok (.bipush 102, 2) := by decide +kernel
theorem dX4_numbersOf_13 : decode cX4_numbersOf 13 = .ok (.if_icmp .eq 15, 3) := by decide +kernel
theorem dX4_numbersOf_16 : decode cX4_numbersOf 16 = .ok (.iload_n 0, 1) := by decide +kernel
theorem dX4_numbersOf_17 : decode cX4_numbersOf 17 = .ok (.bipush 108, 2) := by decide +kernel
theorem dX4_numbersOf_19 : decode cX4_numbersOf 19 = .ok (.if_icmp .eq 9, 3) := by decide +kernel
theorem dX4_numbersOf_22 : decode cX4_numbersOf 22 = .ok (.iload_n 0, 1) := by decide +kernel
theorem dX4_numbersOf_23 : decode cX4_numbersOf 23 = .ok (.bipush 114, 2) := by decide +kernel
theorem dX4_numbersOf_25 : decode cX4_numbersOf 25 = .ok (.if_icmp .ne 7, 3) := by decide +kernel
theorem dX4_numbersOf_28 : decode cX4_numbersOf 28 = .ok (.iconst 2, 1) := by decide +kernel
theorem dX4_numbersOf_29 : decode cX4_numbersOf 29 = .ok (.goto 30, 3) := by decide +kernel
theorem dX4_numbersOf_32 : decode cX4_numbersOf 32 = .ok (.iload_n 0, 1) := by decide +kernel
theorem dX4_numbersOf_33 : decode cX4_numbersOf 33 = .ok (.bipush 119, 2) := by decide +kernel
theorem dX4_numbersOf_35 : decode cX4_numbersOf 35 = .ok (.if_icmp .eq 9, 3) := by decide +kernel
theorem dX4_numbersOf_38 : decode cX4_numbersOf 38 = .ok (.iload_n 0, 1) := by decide +kernel
theorem dX4_numbersOf_39 : decode cX4_numbersOf 39 = .ok (.bipush 120, 2) := by decide +kernel
theorem dX4_numbersOf_41 : decode cX4_numbersOf 41 = .ok (.if_icmp .ne 7, 3) := by decide +kernel
theorem dX4_numbersOf_44 : decode cX4_numbersOf 44 = .ok (.iconst 1, 1) := by decide +kernel
theorem dX4_numbersOf_45 : decode cX4_numbersOf 45 = .ok (.goto 14, 3) := by decide +kernel
theorem dX4_numbersOf_48 : decode cX4_numbersOf 48 = .ok (.iload_n 0, 1) := by decide +kernel
theorem dX4_numbersOf_49 : decode cX4_numbersOf 49 = .ok (.bipush 112, 2) := by decide +kernel
theorem dX4_numbersOf_51 : decode cX4_numbersOf 51 = .ok (.if_icmp .ne 7, 3) := by decide +kernel
theorem dX4_numbersOf_54 : decode cX4_numbersOf 54 = .ok (.iconst 0, 1) := by decide +kernel
theorem dX4_numbersOf_55 : decode cX4_numbersOf 55 = .ok (.goto 4, 3) := by decide +kernel
theorem dX4_numbersOf_58 : decode cX4_numbersOf 58 = .ok (.iconst (-1), 1) := by decide +kernel
theorem dX4_numbersOf_59 : decode cX4_numbersOf 59 = .ok (.ireturn, 1) := by decide +kernel
set_option maxRecDepth 20000 in
theorem ggX4_isForm_X4_numbersOf : GoodIn wsX4_isForm wsX4_numbersOf := goodIn_r _ [6] (by decide +kernel) (by decide +kernel)
set_option maxRecDepth 20000 in
theorem gX4_isForm_X4_numbersOf : GoodIn wsX4_isForm (va_wsS RX4 174 yX4_numbersOf wsX4_numbersOf) := goodIn_app (goodIn_of _ (by decide +kernel)) ggX4_isForm_X4_numbersOf
set_option maxRecDepth 20000 in
theorem ggX4_isForm_X4_passes : GoodIn wsX4_isForm wsX4_passes := goodIn_r _ [10, 1, 11, 12, 13, 5, 14, 15, 16, 17, 18, 19, 24, 25, 26, 27, 28, 29, 30, 31, 32, 33, 34, 35, 36, 37, 38, 39, 40, 41, 42, 43, 44] (by decide +kernel) (by decide +kernel)
set_option maxRecDepth 20000 in
theorem gX4_isForm_X4_passes : GoodIn wsX4_isForm (wsV RX4 171 RX4 yX4_passes wsX4_passes) := goodIn_app (goodIn_of _ (by decide +kernel)) ggX4_isForm_X4_passes
set_option maxRecDepth 20000 in
theorem ggX4_isForm_X4_number : GoodIn wsX4_isForm wsX4_number := goodIn_r _ [23, 1, 2, 16, 11, 12, 13, 5, 14, 15, 17, 18, 19, 7, 8, 9, 10, 24, 25, 26, 27, 28, 29, 30, 31, 32, 33, 34, 35, 36, 37, 38, 39, 40, 41, 42, 43, 44] (by decide +kernel) (by decide +kernel)
set_option maxRecDepth 20000 in
theorem gX4_isForm_X4_number : GoodIn wsX4_isForm (wsV RX4 177 RX4 yX4_number wsX4_number) := goodIn_app (goodIn_of _ (by decide +kernel)) ggX4_isForm_X4_number
theorem dX4_isForm_0 : decode cX4_isForm 0 = .ok (.iload_n 1, 1) := by decide +kernel
theorem dX4_isForm_1 : decode cX4_isForm 1 = .ok (.invokestatic 174, 3) := by decide +kernel
theorem dX4_isForm_4 : decode cX4_isForm 4 = .ok (.istore_n 2, 1) := by decide +kernel
theorem dX4_isForm_5 : decode cX4_isForm 5 = .ok (.iload_n 2, 1) := by decide +kernel
theorem dX4_isForm_6 : decode cX4_isForm 6 = .ok (.ifCond .ge 5, 3) := by decide +kernel
theorem dX4_isForm_9 : decode cX4_isForm 9 = .ok (.iconst 0, 1) := by decide +kernel
theorem dX4_isForm_10 : decode cX4_isForm 10 = .ok (.ireturn, 1) := by decide +kernel
theorem dX4_isForm_11 : decode cX4_isForm 11 = .ok (.aload_n 0, 1) := by decide +kernel
theorem dX4_isForm_12 : decode cX4_isForm 12 = .ok (.dup, 1) := by decide +kernel
theorem dX4_isForm_13 : decode cX4_isForm 13 = .ok (.getfield 165, 3) := by decide +kernel
theorem dX4_isForm_16 : decode cX4_isForm 16 = .ok (.iconst 1, 1) := by decide +kernel
theorem dX4_isForm_17 : decode cX4_isForm 17 = .ok (.iadd, 1) := by decide +kernel
theorem dX4_isForm_18 : decode cX4_isForm 18 = .ok (.putfield 165, 3) := by decide +kernel
theorem dX4_isForm_21 : decode cX4_isForm 21 = .ok (.iload_n 2, 1) := by decide +kernel
theorem dX4_isForm_22 : decode cX4_isForm 22 = .ok (.ifCond .gt 12, 3) := by decide +kernel
theorem dX4_isForm_25 : decode cX4_isForm 25 = .ok (.aload_n 0, 1) := by decide +kernel
theorem dX4_isForm_26 : decode cX4_isForm 26 = .ok (.bipush 59, 2) := by decide +kernel
theorem dX4_isForm_28 : decode cX4_isForm 28 = .ok (.invokevirtual 171, 3) := by decide +kernel
theorem dX4_isForm_31 : decode cX4_isForm 31 = .ok (.ifCond .eq 7, 3) := by decide +kernel
theorem dX4_isForm_34 : decode cX4_isForm 34 = .ok (.iconst 1, 1) := by decide +kernel
theorem dX4_isForm_35 : decode cX4_isForm 35 = .ok (.goto 4, 3) := by decide +kernel
theorem dX4_isForm_38 : decode cX4_isForm 38 = .ok (.iconst 0, 1) := by decide +kernel
theorem dX4_isForm_39 : decode cX4_isForm 39 = .ok (.istore_n 3, 1) := by decide +kernel
theorem dX4_isForm_40 : decode cX4_isForm 40 = .ok (.iconst 0, 1) := by decide +kernel
theorem dX4_isForm_41 : decode cX4_isForm 41 = .ok (.istore 4, 2) := by decide +kernel
theorem dX4_isForm_43 : decode cX4_isForm 43 = .ok (.iload 4, 2) := by decide +kernel
theorem dX4_isForm_45 : decode cX4_isForm 45 = .ok (.iload_n 2, 1) := by decide +kernel
theorem dX4_isForm_46 : decode cX4_isForm 46 = .ok (.if_icmp .ge 93, 3) := by decide +kernel
theorem dX4_isForm_49 : decode cX4_isForm 49 = .ok (.iload_n 3, 1) := by decide +kernel
theorem dX4_isForm_50 : decode cX4_isForm 50 = .ok (.ifCond .eq 89, 3) := by decide +kernel
theorem dX4_isForm_53 : decode cX4_isForm 53 = .ok (.iload_n 1, 1) := by decide +kernel
theorem dX4_isForm_54 : decode cX4_isForm 54 = .ok (.bipush 102, 2) := by decide +kernel
theorem dX4_isForm_56 : decode cX4_isForm 56 = .ok (.if_icmp .ne 22, 3) := by decide +kernel
theorem dX4_isForm_59 : decode cX4_isForm 59 = .ok (.iload 4, 2) := by decide +kernel
theorem dX4_isForm_61 : decode cX4_isForm 61 = .ok (.iconst 1, 1) := by decide +kernel
theorem dX4_isForm_62 : decode cX4_isForm 62 = .ok (.if_icmp .ne 16, 3) := by decide +kernel
theorem dX4_isForm_65 : decode cX4_isForm 65 = .ok (.aload_n 0, 1) := by decide +kernel
theorem dX4_isForm_66 : decode cX4_isForm 66 = .ok (.bipush 45, 2) := by decide +kernel
theorem dX4_isForm_68 : decode cX4_isForm 68 = .ok (.invokevirtual 171, 3) := by decide +kernel
theorem dX4_isForm_71 : decode cX4_isForm 71 = .ok (.ifCond .eq 7, 3) := by decide +kernel
theorem dX4_isForm_74 : decode cX4_isForm 74 = .ok (.iconst 1, 1) := by decide +kernel
theorem dX4_isForm_75 : decode cX4_isForm 75 = .ok (.goto 4, 3) := by decide +kernel
theorem dX4_isForm_78 : decode cX4_isForm 78 = .ok (.iconst 0, 1) := by decide +kernel
theorem dX4_isForm_79 : decode cX4_isForm 79 = .ok (.istore 5, 2) := by decide +kernel
theorem dX4_isForm_81 : decode cX4_isForm 81 = .ok (.aload_n 0, 1) := by decide +kernel
theorem dX4_isForm_82 : decode cX4_isForm 82 = .ok (.iload 4, 2) := by decide +kernel
theorem dX4_isForm_84 : decode cX4_isForm 84 = .ok (.iload 4, 2) := by decide +kernel
theorem dX4_isForm_86 : decode cX4_isForm 86 = .ok (.iload_n 2, 1) := by decide +kernel
theorem dX4_isForm_87 : decode cX4_isForm 87 = .ok (.iconst 1, 1) := by decide +kernel
theorem dX4_isForm_88 : decode cX4_isForm 88 = .ok (.isub, 1) := by decide +kernel
theorem dX4_isForm_89 : decode cX4_isForm 89 = .ok (.if_icmp .ne 8, 3) := by decide +kernel
theorem dX4_isForm_92 : decode cX4_isForm 92 = .ok (.bipush 59, 2) := by decide +kernel
theorem dX4_isForm_94 : decode cX4_isForm 94 = .ok (.goto 5, 3) := by decide +kernel
theorem dX4_isForm_97 : decode cX4_isForm 97 = .ok (.bipush 44, 2) := by decide +kernel
theorem dX4_isForm_99 : decode cX4_isForm 99 = .ok (.invokevirtual 177, 3) := by decide +kernel
theorem dX4_isForm_102 : decode cX4_isForm 102 = .ok (.istore_n 3, 1) := by decide +kernel
theorem dX4_isForm_103 : decode cX4_isForm 103 = .ok (.aload_n 0, 1) := by decide +kernel
theorem dX4_isForm_104 : decode cX4_isForm 104 = .ok (.getfield 35, 3) := by decide +kernel
theorem dX4_isForm_107 : decode cX4_isForm 107 = .ok (.iload 4, 2) := by decide +kernel
theorem dX4_isForm_109 : decode cX4_isForm 109 = .ok (.iload 5, 2) := by decide +kernel
theorem dX4_isForm_111 : decode cX4_isForm 111 = .ok (.ifCond .eq 14, 3) := by decide +kernel
theorem dX4_isForm_114 : decode cX4_isForm 114 = .ok (.aload_n 0, 1) := by decide +kernel
theorem dX4_isForm_115 : decode cX4_isForm 115 = .ok (.getfield 35, 3) := by decide +kernel
theorem dX4_isForm_118 : decode cX4_isForm 118 = .ok (.iload 4, 2) := by decide +kernel
theorem dX4_isForm_120 : decode cX4_isForm 120 = .ok (.iaload, 1) := by decide +kernel
theorem dX4_isForm_121 : decode cX4_isForm 121 = .ok (.ineg, 1) := by decide +kernel
theorem dX4_isForm_122 : decode cX4_isForm 122 = .ok (.goto 10, 3) := by decide +kernel
theorem dX4_isForm_125 : decode cX4_isForm 125 = .ok (.aload_n 0, 1) := by decide +kernel
theorem dX4_isForm_126 : decode cX4_isForm 126 = .ok (.getfield 35, 3) := by decide +kernel
theorem dX4_isForm_129 : decode cX4_isForm 129 = .ok (.iload 4, 2) := by decide +kernel
theorem dX4_isForm_131 : decode cX4_isForm 131 = .ok (.iaload, 1) := by decide +kernel
theorem dX4_isForm_132 : decode cX4_isForm 132 = .ok (.iastore, 1) := by decide +kernel
theorem dX4_isForm_133 : decode cX4_isForm 133 = .ok (.iinc 4 1, 3) := by decide +kernel
theorem dX4_isForm_136 : decode cX4_isForm 136 = .ok (.goto (-93), 3) := by decide +kernel
theorem dX4_isForm_139 : decode cX4_isForm 139 = .ok (.iload_n 3, 1) := by decide +kernel
theorem dX4_isForm_140 : decode cX4_isForm 140 = .ok (.ireturn, 1) := by decide +kernel
set_option maxRecDepth 20000 in
theorem ggX4_badNumber_X4_in : GoodIn wsX4_badNumber wsX4_in := goodIn_r _ [7] (by decide +kernel) (by decide +kernel)
set_option maxRecDepth 20000 in
theorem gX4_badNumber_X4_in : GoodIn wsX4_badNumber (va_wsS RX4 53 yX4_in wsX4_in) := goodIn_app (goodIn_of _ (by decide +kernel)) ggX4_badNumber_X4_in
set_option maxRecDepth 20000 in
theorem ggX4_badNumber_X4_isSpring : GoodIn wsX4_badNumber wsX4_isSpring := goodIn_r _ [11, 3, 16, 17, 18, 19, 20, 21, 22, 23, 24, 25, 26, 27, 28, 29, 30, 31, 32, 33, 34, 35, 36] (by decide +kernel) (by decide +kernel)
set_option maxRecDepth 20000 in
theorem gX4_badNumber_X4_isSpring : GoodIn wsX4_badNumber (wsV RX4 67 RX4 yX4_isSpring wsX4_isSpring) := goodIn_app (goodIn_of _ (by decide +kernel)) ggX4_badNumber_X4_isSpring
set_option maxRecDepth 20000 in
theorem ggX4_badNumber_X4_isPlate : GoodIn wsX4_badNumber wsX4_isPlate := goodIn_r _ [15, 3, 16, 17, 18, 19, 20, 21, 22, 23, 24, 25, 26, 27, 28, 29, 30, 31, 32, 33, 34, 35, 36] (by decide +kernel) (by decide +kernel)
set_option maxRecDepth 20000 in
theorem gX4_badNumber_X4_isPlate : GoodIn wsX4_badNumber (wsV RX4 63 RX4 yX4_isPlate wsX4_isPlate) := goodIn_app (goodIn_of _ (by decide +kernel)) ggX4_badNumber_X4_isPlate
theorem dX4_badNumber_0 : decode cX4_badNumber 0 = .ok (.iload_n 1, 1) := by decide +kernel
theorem dX4_badNumber_1 : decode cX4_badNumber 1 = .ok (.tableswitch 190 107 119 #[93, 151, 190, 190, 190, 90, 190, 151, 190, 190, 190, 190, 67], 67) := by decide +kernel
theorem dX4_badNumber_68 : decode cX4_badNumber 68 = .ok (.aload_n 0, 1) := by decide +kernel
theorem dX4_badNumber_69 : decode cX4_badNumber 69 = .ok (.getfield 35, 3) := by decide +kernel
theorem dX4_badNumber_72 : decode cX4_badNumber 72 = .ok (.iconst 0, 1) := by decide +kernel
theorem dX4_badNumber_73 : decode cX4_badNumber 73 = .ok (.iaload, 1) := by decide +kernel
theorem dX4_badNumber_74 : decode cX4_badNumber 74 = .ok (.bipush 10, 2) := by decide +kernel
theorem dX4_badNumber_76 : decode cX4_badNumber 76 = .ok (.bipush 99, 2) := by decide +kernel
theorem dX4_badNumber_78 : decode cX4_badNumber 78 = .ok (.invokestatic 53, 3) := by decide +kernel
theorem dX4_badNumber_81 : decode cX4_badNumber 81 = .ok (.ifCond .eq 8, 3) := by decide +kernel
theorem dX4_badNumber_84 : decode cX4_badNumber 84 = .ok (.ldc 78, 2) := by decide +kernel
theorem dX4_badNumber_86 : decode cX4_badNumber 86 = .ok (.goto 4, 3) := by decide +kernel
theorem dX4_badNumber_89 : decode cX4_badNumber 89 = .ok (.iconst 0, 1) := by decide +kernel
theorem dX4_badNumber_90 : decode cX4_badNumber 90 = .ok (.ireturn, 1) := by decide +kernel
theorem dX4_badNumber_91 : decode cX4_badNumber 91 = .ok (.ldc 78, 2) := by decide +kernel
theorem dX4_badNumber_93 : decode cX4_badNumber 93 = .ok (.ireturn, 1) := by decide +kernel
theorem dX4_badNumber_94 : decode cX4_badNumber 94 = .ok (.aload_n 0, 1) := by decide +kernel
theorem dX4_badNumber_95 : decode cX4_badNumber 95 = .ok (.aload_n 0, 1) := by decide +kernel
theorem dX4_badNumber_96 : decode cX4_badNumber 96 = .ok (.getfield 35, 3) := by decide +kernel
theorem dX4_badNumber_99 : decode cX4_badNumber 99 = .ok (.iconst 0, 1) := by decide +kernel
theorem dX4_badNumber_100 : decode cX4_badNumber 100 = .ok (.iaload, 1) := by decide +kernel
theorem dX4_badNumber_101 : decode cX4_badNumber 101 = .ok (.invokevirtual 67, 3) := by decide +kernel
theorem dX4_badNumber_104 : decode cX4_badNumber 104 = .ok (.ifCond .ne 7, 3) := by decide +kernel
theorem dX4_badNumber_107 : decode cX4_badNumber 107 = .ok (.iconst 0, 1) := by decide +kernel
theorem dX4_badNumber_108 : decode cX4_badNumber 108 = .ok (.goto 43, 3) := by decide +kernel
theorem dX4_badNumber_111 : decode cX4_badNumber 111 = .ok (.aload_n 0, 1) := by decide +kernel
theorem dX4_badNumber_112 : decode cX4_badNumber 112 = .ok (.getfield 35, 3) := by decide +kernel
theorem dX4_badNumber_115 : decode cX4_badNumber 115 = .ok (.iconst 1, 1) := by decide +kernel
theorem dX4_badNumber_116 : decode cX4_badNumber 116 = .ok (.iaload, 1) := by decide +kernel
theorem dX4_badNumber_117 : decode cX4_badNumber 117 = .ok (.iconst 1, 1) := by decide +kernel
theorem dX4_badNumber_118 : decode cX4_badNumber 118 = .ok (.bipush 9, 2) := by decide +kernel
theorem dX4_badNumber_120 : decode cX4_badNumber 120 = .ok (.invokestatic 53, 3) := by decide +kernel
theorem dX4_badNumber_123 : decode cX4_badNumber 123 = .ok (.ifCond .ne 7, 3) := by decide +kernel
theorem dX4_badNumber_126 : decode cX4_badNumber 126 = .ok (.iconst 1, 1) := by decide +kernel
theorem dX4_badNumber_127 : decode cX4_badNumber 127 = .ok (.goto 24, 3) := by decide +kernel
theorem dX4_badNumber_130 : decode cX4_badNumber 130 = .ok (.aload_n 0, 1) := by decide +kernel
theorem dX4_badNumber_131 : decode cX4_badNumber 131 = .ok (.getfield 35, 3) := by decide +kernel
theorem dX4_badNumber_134 : decode cX4_badNumber 134 = .ok (.iconst 2, 1) := by decide +kernel
theorem dX4_badNumber_135 : decode cX4_badNumber 135 = .ok (.iaload, 1) := by decide +kernel
theorem dX4_badNumber_136 : decode cX4_badNumber 136 = .ok (.iconst 0, 1) := by decide +kernel
theorem dX4_badNumber_137 : decode cX4_badNumber 137 = .ok (.bipush 50, 2) := by decide +kernel
theorem dX4_badNumber_139 : decode cX4_badNumber 139 = .ok (.invokestatic 53, 3) := by decide +kernel
theorem dX4_badNumber_142 : decode cX4_badNumber 142 = .ok (.ifCond .ne 7, 3) := by decide +kernel
theorem dX4_badNumber_145 : decode cX4_badNumber 145 = .ok (.iconst 2, 1) := by decide +kernel
theorem dX4_badNumber_146 : decode cX4_badNumber 146 = .ok (.goto 5, 3) := by decide +kernel
theorem dX4_badNumber_149 : decode cX4_badNumber 149 = .ok (.ldc 78, 2) := by decide +kernel
theorem dX4_badNumber_151 : decode cX4_badNumber 151 = .ok (.ireturn, 1) := by decide +kernel
theorem dX4_badNumber_152 : decode cX4_badNumber 152 = .ok (.aload_n 0, 1) := by decide +kernel
theorem dX4_badNumber_153 : decode cX4_badNumber 153 = .ok (.aload_n 0, 1) := by decide +kernel
theorem dX4_badNumber_154 : decode cX4_badNumber 154 = .ok (.getfield 35, 3) := by decide +kernel
theorem dX4_badNumber_157 : decode cX4_badNumber 157 = .ok (.iconst 0, 1) := by decide +kernel
theorem dX4_badNumber_158 : decode cX4_badNumber 158 = .ok (.iaload, 1) := by decide +kernel
theorem dX4_badNumber_159 : decode cX4_badNumber 159 = .ok (.invokevirtual 63, 3) := by decide +kernel
theorem dX4_badNumber_162 : decode cX4_badNumber 162 = .ok (.ifCond .ne 7, 3) := by decide +kernel
theorem dX4_badNumber_165 : decode cX4_badNumber 165 = .ok (.iconst 0, 1) := by decide +kernel
theorem dX4_badNumber_166 : decode cX4_badNumber 166 = .ok (.goto 24, 3) := by decide +kernel
theorem dX4_badNumber_169 : decode cX4_badNumber 169 = .ok (.aload_n 0, 1) := by decide +kernel
theorem dX4_badNumber_170 : decode cX4_badNumber 170 = .ok (.getfield 35, 3) := by decide +kernel
theorem dX4_badNumber_173 : decode cX4_badNumber 173 = .ok (.iconst 1, 1) := by decide +kernel
theorem dX4_badNumber_174 : decode cX4_badNumber 174 = .ok (.iaload, 1) := by decide +kernel
theorem dX4_badNumber_175 : decode cX4_badNumber 175 = .ok (.aload_n 0, 1) := by decide +kernel
theorem dX4_badNumber_176 : decode cX4_badNumber 176 = .ok (.getfield 7, 3) := by decide +kernel
theorem dX4_badNumber_179 : decode cX4_badNumber 179 = .ok (.iconst 0, 1) := by decide +kernel
theorem dX4_badNumber_180 : decode cX4_badNumber 180 = .ok (.iaload, 1) := by decide +kernel
theorem dX4_badNumber_181 : decode cX4_badNumber 181 = .ok (.if_icmp .le 7, 3) := by decide +kernel
theorem dX4_badNumber_184 : decode cX4_badNumber 184 = .ok (.iconst 1, 1) := by decide +kernel
theorem dX4_badNumber_185 : decode cX4_badNumber 185 = .ok (.goto 5, 3) := by decide +kernel
theorem dX4_badNumber_188 : decode cX4_badNumber 188 = .ok (.ldc 78, 2) := by decide +kernel
theorem dX4_badNumber_190 : decode cX4_badNumber 190 = .ok (.ireturn, 1) := by decide +kernel
theorem dX4_badNumber_191 : decode cX4_badNumber 191 = .ok (.aload_n 0, 1) := by decide +kernel
theorem dX4_badNumber_192 : decode cX4_badNumber 192 = .ok (.aload_n 0, 1) := by decide +kernel
theorem dX4_badNumber_193 : decode cX4_badNumber 193 = .ok (.getfield 35, 3) := by decide +kernel
theorem dX4_badNumber_196 : decode cX4_badNumber 196 = .ok (.iconst 0, 1) := by decide +kernel
theorem dX4_badNumber_197 : decode cX4_badNumber 197 = .ok (.iaload, 1) := by decide +kernel
theorem dX4_badNumber_198 : decode cX4_badNumber 198 = .ok (.invokevirtual 63, 3) := by decide +kernel
theorem dX4_badNumber_201 : decode cX4_badNumber 201 = .ok (.ifCond .eq 8, 3) := by decide +kernel
theorem dX4_badNumber_204 : decode cX4_badNumber 204 = .ok (.ldc 78, 2) := by decide +kernel
theorem dX4_badNumber_206 : decode cX4_badNumber 206 = .ok (.goto 4, 3) := by decide +kernel
theorem dX4_badNumber_209 : decode cX4_badNumber 209 = .ok (.iconst 0, 1) := by decide +kernel
theorem dX4_badNumber_210 : decode cX4_badNumber 210 = .ok (.ireturn, 1) := by decide +kernel
set_option maxRecDepth 20000 in
theorem ggX4_calls_X4_width : GoodIn wsX4_calls wsX4_width := goodIn_r _ [7, 8, 2, 9, 10, 11, 6, 12, 13, 14, 15, 16, 17, 18, 19, 61, 62, 63, 64, 65, 66, 67, 68, 69, 70, 71, 72, 73, 74, 75, 76, 77, 78, 79, 80, 81] (by decide +kernel) (by decide +kernel)
set_option maxRecDepth 20000 in
theorem gX4_calls_X4_width : GoodIn wsX4_calls (wsV RX4 180 RX4 yX4_width wsX4_width) := goodIn_app (goodIn_of _ (by decide +kernel)) ggX4_calls_X4_width
set_option maxRecDepth 20000 in
theorem ggX4_calls_X4_plate : GoodIn wsX4_calls wsX4_plate := goodIn_r _ [23, 2, 24, 13, 14, 15, 6, 16, 17, 18, 19, 61, 62, 63, 64, 65, 66, 67, 68, 69, 70, 71, 72, 73, 74, 75, 76, 77, 78, 79, 80, 81] (by decide +kernel) (by decide +kernel)
set_option maxRecDepth 20000 in
theorem gX4_calls_X4_plate : GoodIn wsX4_calls (wsV RX4 183 RX4 yX4_plate wsX4_plate) := goodIn_app (goodIn_of _ (by decide +kernel)) ggX4_calls_X4_plate
set_option maxRecDepth 20000 in
theorem ggX4_calls_X4_spring : GoodIn wsX4_calls wsX4_spring := goodIn_r _ [28, 8, 2, 29, 30, 31, 6, 32, 10, 11, 12, 13, 14, 15, 16, 17, 18, 19, 61, 62, 63, 64, 65, 66, 67, 68, 69, 70, 71, 72, 73, 74, 75, 76, 77, 78, 79, 80, 81] (by decide +kernel) (by decide +kernel)
set_option maxRecDepth 20000 in
theorem gX4_calls_X4_spring : GoodIn wsX4_calls (wsV RX4 186 RX4 yX4_spring wsX4_spring) := goodIn_app (goodIn_of _ (by decide +kernel)) ggX4_calls_X4_spring
set_option maxRecDepth 20000 in
theorem ggX4_calls_X4_load : GoodIn wsX4_calls wsX4_load := goodIn_r _ [36, 8, 2, 37, 38, 39, 6, 40, 10, 11, 12, 13, 14, 15, 16, 17, 18, 19, 61, 62, 63, 64, 65, 66, 67, 68, 69, 70, 71, 72, 73, 74, 75, 76, 77, 78, 79, 80, 81] (by decide +kernel) (by decide +kernel)
set_option maxRecDepth 20000 in
theorem gX4_calls_X4_load : GoodIn wsX4_calls (wsV RX4 190 RX4 yX4_load wsX4_load) := goodIn_app (goodIn_of _ (by decide +kernel)) ggX4_calls_X4_load
set_option maxRecDepth 20000 in
theorem ggX4_calls_X4_stop : GoodIn wsX4_calls wsX4_stop := goodIn_r _ [44, 2, 8, 9, 37, 38, 39, 6, 40, 10, 11, 12, 45, 46, 47, 48, 49, 50, 51, 52, 53, 54, 55, 56, 57, 58, 59, 60, 13, 14, 15, 16, 17, 18, 19, 61, 62, 63, 64, 65, 66, 67, 68, 69, 70, 71, 72, 73, 74, 75, 76, 77, 78, 79, 80, 81] (by decide +kernel) (by decide +kernel)
set_option maxRecDepth 20000 in
theorem gX4_calls_X4_stop : GoodIn wsX4_calls (wsV RX4 193 RX4 yX4_stop wsX4_stop) := goodIn_app (goodIn_of _ (by decide +kernel)) ggX4_calls_X4_stop
theorem dX4_calls_0 : decode cX4_calls 0 = .ok (.iload_n 1, 1) := by decide +kernel
theorem dX4_calls_1 : decode cX4_calls 1 = .ok (.tableswitch 179 102 119 #[126, 179, 179, 179, 179, 103, 143, 179, 179, 179, 98, 179, 161, 179, 179, 179, 179, 87], 87) := by decide +kernel
theorem dX4_calls_88 : decode cX4_calls 88 = .ok (.aload_n 0, 1) := by decide +kernel
theorem dX4_calls_89 : decode cX4_calls 89 = .ok (.aload_n 0, 1) := by decide +kernel
theorem dX4_calls_90 : decode cX4_calls 90 = .ok (.getfield 35, 3) := by decide +kernel
theorem dX4_calls_93 : decode cX4_calls 93 = .ok (.iconst 0, 1) := by decide +kernel
theorem dX4_calls_94 : decode cX4_calls 94 = .ok (.iaload, 1) := by decide +kernel
theorem dX4_calls_95 : decode cX4_calls 95 = .ok (.invokevirtual 180, 3) := by decide +kernel
theorem dX4_calls_98 : decode cX4_calls 98 = .ok (.ireturn, 1) := by decide +kernel
theorem dX4_calls_99 : decode cX4_calls 99 = .ok (.aload_n 0, 1) := by decide +kernel
theorem dX4_calls_100 : decode cX4_calls 100 = .ok (.invokevirtual 183, 3) := by decide +kernel
theorem dX4_calls_103 : decode cX4_calls 103 = .ok (.ireturn, 1) := by decide +kernel
theorem dX4_calls_104 : decode cX4_calls 104 = .ok (.aload_n 0, 1) := by decide +kernel
theorem dX4_calls_105 : decode cX4_calls 105 = .ok (.aload_n 0, 1) := by decide +kernel
theorem dX4_calls_106 : decode cX4_calls 106 = .ok (.getfield 35, 3) := by decide +kernel
theorem dX4_calls_109 : decode cX4_calls 109 = .ok (.iconst 0, 1) := by decide +kernel
theorem dX4_calls_110 : decode cX4_calls 110 = .ok (.iaload, 1) := by decide +kernel
theorem dX4_calls_111 : decode cX4_calls 111 = .ok (.aload_n 0, 1) := by decide +kernel
theorem dX4_calls_112 : decode cX4_calls 112 = .ok (.getfield 35, 3) := by decide +kernel
theorem dX4_calls_115 : decode cX4_calls 115 = .ok (.iconst 1, 1) := by decide +kernel
theorem dX4_calls_116 : decode cX4_calls 116 = .ok (.iaload, 1) := by decide +kernel
theorem dX4_calls_117 : decode cX4_calls 117 = .ok (.aload_n 0, 1) := by decide +kernel
theorem dX4_calls_118 : decode cX4_calls 118 = .ok (.getfield 35, 3) := by decide +kernel
theorem dX4_calls_121 : decode cX4_calls 121 = .ok (.iconst 2, 1) := by decide +kernel
theorem dX4_calls_122 : decode cX4_calls 122 = .ok (.iaload, 1) := by decide +kernel
theorem dX4_calls_123 : decode cX4_calls 123 = .ok (.invokevirtual 186, 3) := by decide +kernel
theorem dX4_calls_126 : decode cX4_calls 126 = .ok (.ireturn, 1) := by decide +kernel
theorem dX4_calls_127 : decode cX4_calls 127 = .ok (.aload_n 0, 1) := by decide +kernel
theorem dX4_calls_128 : decode cX4_calls 128 = .ok (.aload_n 0, 1) := by decide +kernel
theorem dX4_calls_129 : decode cX4_calls 129 = .ok (.getfield 35, 3) := by decide +kernel
theorem dX4_calls_132 : decode cX4_calls 132 = .ok (.iconst 0, 1) := by decide +kernel
theorem dX4_calls_133 : decode cX4_calls 133 = .ok (.iaload, 1) := by decide +kernel
theorem dX4_calls_134 : decode cX4_calls 134 = .ok (.aload_n 0, 1) := by decide +kernel
theorem dX4_calls_135 : decode cX4_calls 135 = .ok (.getfield 35, 3) := by decide +kernel
theorem dX4_calls_138 : decode cX4_calls 138 = .ok (.iconst 1, 1) := by decide +kernel
theorem dX4_calls_139 : decode cX4_calls 139 = .ok (.iaload, 1) := by decide +kernel
theorem dX4_calls_140 : decode cX4_calls 140 = .ok (.invokevirtual 190, 3) := by decide +kernel
theorem dX4_calls_143 : decode cX4_calls 143 = .ok (.ireturn, 1) := by decide +kernel
theorem dX4_calls_144 : decode cX4_calls 144 = .ok (.aload_n 0, 1) := by decide +kernel
theorem dX4_calls_145 : decode cX4_calls 145 = .ok (.aload_n 0, 1) := by decide +kernel
theorem dX4_calls_146 : decode cX4_calls 146 = .ok (.getfield 35, 3) := by decide +kernel
theorem dX4_calls_149 : decode cX4_calls 149 = .ok (.iconst 0, 1) := by decide +kernel
theorem dX4_calls_150 : decode cX4_calls 150 = .ok (.iaload, 1) := by decide +kernel
theorem dX4_calls_151 : decode cX4_calls 151 = .ok (.iconst 0, 1) := by decide +kernel
theorem dX4_calls_152 : decode cX4_calls 152 = .ok (.aload_n 0, 1) := by decide +kernel
theorem dX4_calls_153 : decode cX4_calls 153 = .ok (.getfield 35, 3) := by decide +kernel
theorem dX4_calls_156 : decode cX4_calls 156 = .ok (.iconst 1, 1) := by decide +kernel
theorem dX4_calls_157 : decode cX4_calls 157 = .ok (.iaload, 1) := by decide +kernel
theorem dX4_calls_158 : decode cX4_calls 158 = .ok (.invokevirtual 193, 3) := by decide +kernel
theorem dX4_calls_161 : decode cX4_calls 161 = .ok (.ireturn, 1) := by decide +kernel
theorem dX4_calls_162 : decode cX4_calls 162 = .ok (.aload_n 0, 1) := by decide +kernel
theorem dX4_calls_163 : decode cX4_calls 163 = .ok (.aload_n 0, 1) := by decide +kernel
theorem dX4_calls_164 : decode cX4_calls 164 = .ok (.getfield 35, 3) := by decide +kernel
theorem dX4_calls_167 : decode cX4_calls 167 = .ok (.iconst 0, 1) := by decide +kernel
theorem dX4_calls_168 : decode cX4_calls 168 = .ok (.iaload, 1) := by decide +kernel
theorem dX4_calls_169 : decode cX4_calls 169 = .ok (.iconst 1, 1) := by decide +kernel
theorem dX4_calls_170 : decode cX4_calls 170 = .ok (.aload_n 0, 1) := by decide +kernel
theorem dX4_calls_171 : decode cX4_calls 171 = .ok (.getfield 35, 3) := by decide +kernel
theorem dX4_calls_174 : decode cX4_calls 174 = .ok (.iconst 1, 1) := by decide +kernel
theorem dX4_calls_175 : decode cX4_calls 175 = .ok (.iaload, 1) := by decide +kernel
theorem dX4_calls_176 : decode cX4_calls 176 = .ok (.invokevirtual 193, 3) := by decide +kernel
theorem dX4_calls_179 : decode cX4_calls 179 = .ok (.ireturn, 1) := by decide +kernel
theorem dX4_calls_180 : decode cX4_calls 180 = .ok (.aload_n 0, 1) := by decide +kernel
theorem dX4_calls_181 : decode cX4_calls 181 = .ok (.getfield 7, 3) := by decide +kernel
theorem dX4_calls_184 : decode cX4_calls 184 = .ok (.bipush 16, 2) := by decide +kernel
theorem dX4_calls_186 : decode cX4_calls 186 = .ok (.aload_n 0, 1) := by decide +kernel
theorem dX4_calls_187 : decode cX4_calls 187 = .ok (.getfield 35, 3) := by decide +kernel
theorem dX4_calls_190 : decode cX4_calls 190 = .ok (.iconst 0, 1) := by decide +kernel
theorem dX4_calls_191 : decode cX4_calls 191 = .ok (.iaload, 1) := by decide +kernel
theorem dX4_calls_192 : decode cX4_calls 192 = .ok (.iadd, 1) := by decide +kernel
theorem dX4_calls_193 : decode cX4_calls 193 = .ok (.iconst (-1), 1) := by decide +kernel
theorem dX4_calls_194 : decode cX4_calls 194 = .ok (.iastore, 1) := by decide +kernel
theorem dX4_calls_195 : decode cX4_calls 195 = .ok (.aload_n 0, 1) := by decide +kernel
theorem dX4_calls_196 : decode cX4_calls 196 = .ok (.getfield 7, 3) := by decide +kernel
theorem dX4_calls_199 : decode cX4_calls 199 = .ok (.bipush 20, 2) := by decide +kernel
theorem dX4_calls_201 : decode cX4_calls 201 = .ok (.aload_n 0, 1) := by decide +kernel
theorem dX4_calls_202 : decode cX4_calls 202 = .ok (.getfield 35, 3) := by decide +kernel
theorem dX4_calls_205 : decode cX4_calls 205 = .ok (.iconst 0, 1) := by decide +kernel
theorem dX4_calls_206 : decode cX4_calls 206 = .ok (.iaload, 1) := by decide +kernel
theorem dX4_calls_207 : decode cX4_calls 207 = .ok (.iadd, 1) := by decide +kernel
theorem dX4_calls_208 : decode cX4_calls 208 = .ok (.iconst (-1), 1) := by decide +kernel
theorem dX4_calls_209 : decode cX4_calls 209 = .ok (.iastore, 1) := by decide +kernel
theorem dX4_calls_210 : decode cX4_calls 210 = .ok (.iconst 0, 1) := by decide +kernel
theorem dX4_calls_211 : decode cX4_calls 211 = .ok (.ireturn, 1) := by decide +kernel
set_option maxRecDepth 20000 in
theorem ggX4_does_X4_isForm : GoodIn wsX4_does wsX4_isForm := goodIn_r _ [10, 1, 11, 12, 13, 9, 14, 15, 16, 17, 18, 19, 20, 21, 22, 23, 2, 24, 25, 26, 27, 28, 29, 30, 93, 94, 95, 96, 97, 98, 99, 100, 101, 102, 103, 104, 105, 106, 107, 108, 109, 110, 111, 112, 113] (by decide +kernel) (by decide +kernel)
set_option maxRecDepth 20000 in
theorem gX4_does_X4_isForm : GoodIn wsX4_does (wsV RX4 196 RX4 yX4_isForm wsX4_isForm) := goodIn_app (goodIn_of _ (by decide +kernel)) ggX4_does_X4_isForm
set_option maxRecDepth 20000 in
theorem ggX4_does_X4_badNumber : GoodIn wsX4_does wsX4_badNumber := goodIn_r _ [34, 11, 35, 36, 24, 25, 9, 26, 37, 38, 39, 40, 41, 42, 43, 44, 93, 94, 95, 96, 97, 98, 99, 100, 101, 102, 103, 104, 105, 106, 107, 108, 109, 110, 111, 112, 113] (by decide +kernel) (by decide +kernel)
set_option maxRecDepth 20000 in
theorem gX4_does_X4_badNumber : GoodIn wsX4_does (wsV RX4 202 RX4 yX4_badNumber wsX4_badNumber) := goodIn_app (goodIn_of _ (by decide +kernel)) ggX4_does_X4_badNumber
set_option maxRecDepth 20000 in
theorem ggX4_does_X4_calls : GoodIn wsX4_does wsX4_calls := goodIn_r _ [48, 11, 36, 49, 50, 51, 9, 52, 53, 4, 24, 25, 26, 54, 55, 56, 57, 58, 59, 60, 61, 62, 63, 64, 5, 65, 66, 67, 68, 37, 38, 39, 40, 69, 70, 71, 72, 41, 42, 43, 44, 73, 74, 75, 76, 77, 78, 79, 80, 81, 82, 83, 84, 85, 86, 87, 88, 89, 90, 91, 92, 93, 94, 95, 96, 97, 98, 99, 100, 101, 102, 103, 104, 105, 106, 107, 108, 109, 110, 111, 112, 113] (by decide +kernel) (by decide +kernel)
set_option maxRecDepth 20000 in
theorem gX4_does_X4_calls : GoodIn wsX4_does (wsV RX4 205 RX4 yX4_calls wsX4_calls) := goodIn_app (goodIn_of _ (by decide +kernel)) ggX4_does_X4_calls
theorem dX4_does_0 : decode cX4_does 0 = .ok (.aload_n 0, 1) := by decide +kernel
theorem dX4_does_1 : decode cX4_does 1 = .ok (.getfield 165, 3) := by decide +kernel
theorem dX4_does_4 : decode cX4_does 4 = .ok (.istore_n 1, 1) := by decide +kernel
theorem dX4_does_5 : decode cX4_does 5 = .ok (.aload_n 0, 1) := by decide +kernel
theorem dX4_does_6 : decode cX4_does 6 = .ok (.getfield 19, 3) := by decide +kernel
theorem dX4_does_9 : decode cX4_does 9 = .ok (.aload_n 0, 1) := by decide +kernel
theorem dX4_does_10 : decode cX4_does 10 = .ok (.getfield 165, 3) := by decide +kernel
theorem dX4_does_13 : decode cX4_does 13 = .ok (.iaload, 1) := by decide +kernel
theorem dX4_does_14 : decode cX4_does 14 = .ok (.istore_n 2, 1) := by decide +kernel
theorem dX4_does_15 : decode cX4_does 15 = .ok (.aload_n 0, 1) := by decide +kernel
theorem dX4_does_16 : decode cX4_does 16 = .ok (.iload_n 2, 1) := by decide +kernel
theorem dX4_does_17 : decode cX4_does 17 = .ok (.invokevirtual 196, 3) := by decide +kernel
theorem dX4_does_20 : decode cX4_does 20 = .ok (.ifCond .ne 15, 3) := by decide +kernel
theorem dX4_does_23 : decode cX4_does 23 = .ok (.aload_n 0, 1) := by decide +kernel
theorem dX4_does_24 : decode cX4_does 24 = .ok (.aload_n 0, 1) := by decide +kernel
theorem dX4_does_25 : decode cX4_does 25 = .ok (.getfield 165, 3) := by decide +kernel
theorem dX4_does_28 : decode cX4_does 28 = .ok (.iload_n 1, 1) := by decide +kernel
theorem dX4_does_29 : decode cX4_does 29 = .ok (.isub, 1) := by decide +kernel
theorem dX4_does_30 : decode cX4_does 30 = .ok (.putfield 199, 3) := by decide +kernel
theorem dX4_does_33 : decode cX4_does 33 = .ok (.iconst 1, 1) := by decide +kernel
theorem dX4_does_34 : decode cX4_does 34 = .ok (.ireturn, 1) := by decide +kernel
theorem dX4_does_35 : decode cX4_does 35 = .ok (.aload_n 0, 1) := by decide +kernel
theorem dX4_does_36 : decode cX4_does 36 = .ok (.aload_n 0, 1) := by decide +kernel
theorem dX4_does_37 : decode cX4_does 37 = .ok (.iload_n 2, 1) := by decide +kernel
theorem dX4_does_38 : decode cX4_does 38 = .ok (.invokevirtual 202, 3) := by decide +kernel
theorem dX4_does_41 : decode cX4_does 41 = .ok (.putfield 199, 3) := by decide +kernel
theorem dX4_does_44 : decode cX4_does 44 = .ok (.aload_n 0, 1) := by decide +kernel
theorem dX4_does_45 : decode cX4_does 45 = .ok (.getfield 199, 3) := by decide +kernel
theorem dX4_does_48 : decode cX4_does 48 = .ok (.ifCond .lt 5, 3) := by decide +kernel
theorem dX4_does_51 : decode cX4_does 51 = .ok (.iconst 2, 1) := by decide +kernel
theorem dX4_does_52 : decode cX4_does 52 = .ok (.ireturn, 1) := by decide +kernel
theorem dX4_does_53 : decode cX4_does 53 = .ok (.aload_n 0, 1) := by decide +kernel
theorem dX4_does_54 : decode cX4_does 54 = .ok (.iload_n 2, 1) := by decide +kernel
theorem dX4_does_55 : decode cX4_does 55 = .ok (.invokevirtual 205, 3) := by decide +kernel
theorem dX4_does_58 : decode cX4_does 58 = .ok (.istore_n 3, 1) := by decide +kernel
theorem dX4_does_59 : decode cX4_does 59 = .ok (.iload_n 3, 1) := by decide +kernel
theorem dX4_does_60 : decode cX4_does 60 = .ok (.ldc 58, 2) := by decide +kernel
theorem dX4_does_62 : decode cX4_does 62 = .ok (.if_icmp .eq 9, 3) := by decide +kernel
theorem dX4_does_65 : decode cX4_does 65 = .ok (.iload_n 3, 1) := by decide +kernel
theorem dX4_does_66 : decode cX4_does 66 = .ok (.ldc 62, 2) := by decide +kernel
theorem dX4_does_68 : decode cX4_does 68 = .ok (.if_icmp .ne 7, 3) := by decide +kernel
theorem dX4_does_71 : decode cX4_does 71 = .ok (.iconst 3, 1) := by decide +kernel
theorem dX4_does_72 : decode cX4_does 72 = .ok (.goto 4, 3) := by decide +kernel
theorem dX4_does_75 : decode cX4_does 75 = .ok (.iconst 0, 1) := by decide +kernel
theorem dX4_does_76 : decode cX4_does 76 = .ok (.ireturn, 1) := by decide +kernel
set_option maxRecDepth 20000 in
theorem ggX4_plays_X4_does : GoodIn wsX4_plays wsX4_does := goodIn_r _ [11, 2, 12, 13, 14, 15, 16, 17, 18, 10, 19, 20, 21, 22, 23, 24, 25, 26, 27, 28, 29, 30, 31, 5, 32, 33, 34, 35, 36, 37, 38, 39, 40, 41, 42, 6, 43, 44, 45, 46, 47, 48, 49, 50, 51, 52, 53, 54, 55, 56, 57, 58, 59, 60, 61, 62, 63, 64, 1, 65, 66, 67, 68, 69, 70, 71, 72, 73, 74, 75, 76, 77, 78, 79, 80, 81, 82, 83, 84, 85, 86, 87, 88, 89, 90, 91, 92, 93, 94, 95, 96, 97, 98, 99, 100, 101, 102, 103, 104, 105, 106, 107, 108, 109, 110, 111, 112, 113, 114, 115, 116, 117, 118, 119] (by decide +kernel) (by decide +kernel)
set_option maxRecDepth 20000 in
theorem gX4_plays_X4_does : GoodIn wsX4_plays (wsV RX4 214 RX4 yX4_does wsX4_does) := goodIn_app (goodIn_of _ (by decide +kernel)) ggX4_plays_X4_does
theorem dX4_plays_0 : decode cX4_plays 0 = .ok (.aload_n 0, 1) := by decide +kernel
theorem dX4_plays_1 : decode cX4_plays 1 = .ok (.iconst 1, 1) := by decide +kernel
theorem dX4_plays_2 : decode cX4_plays 2 = .ok (.putfield 38, 3) := by decide +kernel
theorem dX4_plays_5 : decode cX4_plays 5 = .ok (.aload_n 0, 1) := by decide +kernel
theorem dX4_plays_6 : decode cX4_plays 6 = .ok (.iconst 0, 1) := by decide +kernel
theorem dX4_plays_7 : decode cX4_plays 7 = .ok (.putfield 165, 3) := by decide +kernel
theorem dX4_plays_10 : decode cX4_plays 10 = .ok (.aload_n 0, 1) := by decide +kernel
theorem dX4_plays_11 : decode cX4_plays 11 = .ok (.iconst 0, 1) := by decide +kernel
theorem dX4_plays_12 : decode cX4_plays 12 = .ok (.putfield 208, 3) := by decide +kernel
theorem dX4_plays_15 : decode cX4_plays 15 = .ok (.aload_n 0, 1) := by decide +kernel
theorem dX4_plays_16 : decode cX4_plays 16 = .ok (.iconst 0, 1) := by decide +kernel
theorem dX4_plays_17 : decode cX4_plays 17 = .ok (.putfield 211, 3) := by decide +kernel
theorem dX4_plays_20 : decode cX4_plays 20 = .ok (.iconst 0, 1) := by decide +kernel
theorem dX4_plays_21 : decode cX4_plays 21 = .ok (.istore_n 1, 1) := by decide +kernel
theorem dX4_plays_22 : decode cX4_plays 22 = .ok (.aload_n 0, 1) := by decide +kernel
theorem dX4_plays_23 : decode cX4_plays 23 = .ok (.getfield 165, 3) := by decide +kernel
theorem dX4_plays_26 : decode cX4_plays 26 = .ok (.aload_n 0, 1) := by decide +kernel
theorem dX4_plays_27 : decode cX4_plays 27 = .ok (.getfield 162, 3) := by decide +kernel
theorem dX4_plays_30 : decode cX4_plays 30 = .ok (.if_icmp .ge 36, 3) := by decide +kernel
theorem dX4_plays_33 : decode cX4_plays 33 = .ok (.aload_n 0, 1) := by decide +kernel
theorem dX4_plays_34 : decode cX4_plays 34 = .ok (.getfield 208, 3) := by decide +kernel
theorem dX4_plays_37 : decode cX4_plays 37 = .ok (.ifCond .ne 29, 3) := by decide +kernel
theorem dX4_plays_40 : decode cX4_plays 40 = .ok (.aload_n 0, 1) := by decide +kernel
theorem dX4_plays_41 : decode cX4_plays 41 = .ok (.getfield 165, 3) := by decide +kernel
theorem dX4_plays_44 : decode cX4_plays 44 = .ok (.istore_n 1, 1) := by decide +kernel
theorem dX4_plays_45 : decode cX4_plays 45 = .ok (.aload_n 0, 1) := by decide +kernel
theorem dX4_plays_46 : decode cX4_plays 46 = .ok (.aload_n 0, 1) := by decide +kernel
theorem dX4_plays_47 : decode cX4_plays 47 = .ok (.invokevirtual 214, 3) := by decide +kernel
theorem dX4_plays_50 : decode cX4_plays 50 = .ok (.putfield 208, 3) := by decide +kernel
theorem dX4_plays_53 : decode cX4_plays 53 = .ok (.aload_n 0, 1) := by decide +kernel
theorem dX4_plays_54 : decode cX4_plays 54 = .ok (.dup, 1) := by decide +kernel
theorem dX4_plays_55 : decode cX4_plays 55 = .ok (.getfield 211, 3) := by decide +kernel
theorem dX4_plays_58 : decode cX4_plays 58 = .ok (.iconst 1, 1) := by decide +kernel
theorem dX4_plays_59 : decode cX4_plays 59 = .ok (.iadd, 1) := by decide +kernel
theorem dX4_plays_60 : decode cX4_plays 60 = .ok (.putfield 211, 3) := by decide +kernel
theorem dX4_plays_63 : decode cX4_plays 63 = .ok (.goto (-41), 3) := by decide +kernel
theorem dX4_plays_66 : decode cX4_plays 66 = .ok (.aload_n 0, 1) := by decide +kernel
theorem dX4_plays_67 : decode cX4_plays 67 = .ok (.iconst 0, 1) := by decide +kernel
theorem dX4_plays_68 : decode cX4_plays 68 = .ok (.putfield 38, 3) := by decide +kernel
theorem dX4_plays_71 : decode cX4_plays 71 = .ok (.aload_n 0, 1) := by decide +kernel
theorem dX4_plays_72 : decode cX4_plays 72 = .ok (.getfield 208, 3) := by decide +kernel
theorem dX4_plays_75 : decode cX4_plays 75 = .ok (.ifCond .ne 8, 3) := by decide +kernel
theorem dX4_plays_78 : decode cX4_plays 78 = .ok (.ldc 78, 2) := by decide +kernel
theorem dX4_plays_80 : decode cX4_plays 80 = .ok (.goto 4, 3) := by decide +kernel
theorem dX4_plays_83 : decode cX4_plays 83 = .ok (.iload_n 1, 1) := by decide +kernel
theorem dX4_plays_84 : decode cX4_plays 84 = .ok (.ireturn, 1) := by decide +kernel
set_option maxRecDepth 20000 in
theorem ggX4_fault_X4_in : GoodIn wsX4_fault wsX4_in := goodIn_r _ [10] (by decide +kernel) (by decide +kernel)
set_option maxRecDepth 20000 in
theorem gX4_fault_X4_in : GoodIn wsX4_fault (va_wsS RX4 53 yX4_in wsX4_in) := goodIn_app (goodIn_of _ (by decide +kernel)) ggX4_fault_X4_in
set_option maxRecDepth 20000 in
theorem ggX4_fault_X4_copies : GoodIn wsX4_fault wsX4_copies := goodIn_r _ [13] (by decide +kernel) (by decide +kernel)
set_option maxRecDepth 20000 in
theorem gX4_fault_X4_copies : GoodIn wsX4_fault (va_wsS RX4 217 yX4_copies wsX4_copies) := goodIn_app (goodIn_of _ (by decide +kernel)) ggX4_fault_X4_copies
set_option maxRecDepth 20000 in
theorem ggX4_fault_X4_plays : GoodIn wsX4_fault wsX4_plays := goodIn_r _ [17, 18, 19, 5, 20, 21, 4, 22, 23, 24, 9, 25, 26, 6, 27, 28, 29, 30, 31, 32, 33, 34, 35, 36, 37, 38, 39, 40, 41, 42, 43, 44, 7, 8, 10, 45, 46, 47, 48, 49, 50, 51, 52, 2, 53, 54, 55, 56, 57, 58, 59, 60, 61, 62, 63, 64, 65, 66, 67, 68, 1, 69, 70, 71, 72, 73, 74, 75, 76, 77, 78, 79, 80, 81, 82, 83, 84, 85, 86, 87, 88, 89, 90, 91, 92, 93, 94, 95, 96, 97, 98, 99, 100, 101, 102, 103, 104, 105, 106, 107, 108, 109, 110, 111, 112, 113, 114, 115, 116, 117, 118, 119, 120, 121, 122, 123, 124, 125, 126, 127] (by decide +kernel) (by decide +kernel)
set_option maxRecDepth 20000 in
theorem gX4_fault_X4_plays : GoodIn wsX4_fault (wsV RX4 221 RX4 yX4_plays wsX4_plays) := goodIn_app (goodIn_of _ (by decide +kernel)) ggX4_fault_X4_plays
theorem dX4_fault_0 : decode cX4_fault 0 = .ok (.iload_n 1, 1) := by decide +kernel
theorem dX4_fault_1 : decode cX4_fault 1 = .ok (.iconst 0, 1) := by decide +kernel
theorem dX4_fault_2 : decode cX4_fault 2 = .ok (.iconst 2, 1) := by decide +kernel
theorem dX4_fault_3 : decode cX4_fault 3 = .ok (.invokestatic 53, 3) := by decide +kernel
theorem dX4_fault_6 : decode cX4_fault 6 = .ok (.ifCond .ne 6, 3) := by decide +kernel
theorem dX4_fault_9 : decode cX4_fault 9 = .ok (.ldc 57, 2) := by decide +kernel
theorem dX4_fault_11 : decode cX4_fault 11 = .ok (.ireturn, 1) := by decide +kernel
theorem dX4_fault_12 : decode cX4_fault 12 = .ok (.aload_n 0, 1) := by decide +kernel
theorem dX4_fault_13 : decode cX4_fault 13 = .ok (.getfield 7, 3) := by decide +kernel
theorem dX4_fault_16 : decode cX4_fault 16 = .ok (.aload_n 0, 1) := by decide +kernel
theorem dX4_fault_17 : decode cX4_fault 17 = .ok (.getfield 16, 3) := by decide +kernel
theorem dX4_fault_20 : decode cX4_fault 20 = .ok (.invokestatic 217, 3) := by decide +kernel
theorem dX4_fault_23 : decode cX4_fault 23 = .ok (.aload_n 0, 1) := by decide +kernel
theorem dX4_fault_24 : decode cX4_fault 24 = .ok (.invokevirtual 221, 3) := by decide +kernel
theorem dX4_fault_27 : decode cX4_fault 27 = .ok (.istore_n 2, 1) := by decide +kernel
theorem dX4_fault_28 : decode cX4_fault 28 = .ok (.aload_n 0, 1) := by decide +kernel
theorem dX4_fault_29 : decode cX4_fault 29 = .ok (.getfield 16, 3) := by decide +kernel
theorem dX4_fault_32 : decode cX4_fault 32 = .ok (.aload_n 0, 1) := by decide +kernel
theorem dX4_fault_33 : decode cX4_fault 33 = .ok (.getfield 7, 3) := by decide +kernel
theorem dX4_fault_36 : decode cX4_fault 36 = .ok (.invokestatic 217, 3) := by decide +kernel
theorem dX4_fault_39 : decode cX4_fault 39 = .ok (.iload_n 2, 1) := by decide +kernel
theorem dX4_fault_40 : decode cX4_fault 40 = .ok (.ldc 78, 2) := by decide +kernel
theorem dX4_fault_42 : decode cX4_fault 42 = .ok (.if_icmp .eq 7, 3) := by decide +kernel
theorem dX4_fault_45 : decode cX4_fault 45 = .ok (.iload_n 1, 1) := by decide +kernel
theorem dX4_fault_46 : decode cX4_fault 46 = .ok (.ifCond .ne 7, 3) := by decide +kernel
theorem dX4_fault_49 : decode cX4_fault 49 = .ok (.iload_n 2, 1) := by decide +kernel
theorem dX4_fault_50 : decode cX4_fault 50 = .ok (.goto 32, 3) := by decide +kernel
theorem dX4_fault_53 : decode cX4_fault 53 = .ok (.iload_n 1, 1) := by decide +kernel
theorem dX4_fault_54 : decode cX4_fault 54 = .ok (.iconst 1, 1) := by decide +kernel
theorem dX4_fault_55 : decode cX4_fault 55 = .ok (.if_icmp .ne 10, 3) := by decide +kernel
theorem dX4_fault_58 : decode cX4_fault 58 = .ok (.aload_n 0, 1) := by decide +kernel
theorem dX4_fault_59 : decode cX4_fault 59 = .ok (.getfield 208, 3) := by decide +kernel
theorem dX4_fault_62 : decode cX4_fault 62 = .ok (.goto 20, 3) := by decide +kernel
theorem dX4_fault_65 : decode cX4_fault 65 = .ok (.aload_n 0, 1) := by decide +kernel
theorem dX4_fault_66 : decode cX4_fault 66 = .ok (.getfield 208, 3) := by decide +kernel
theorem dX4_fault_69 : decode cX4_fault 69 = .ok (.iconst 3, 1) := by decide +kernel
theorem dX4_fault_70 : decode cX4_fault 70 = .ok (.if_icmp .ne 8, 3) := by decide +kernel
theorem dX4_fault_73 : decode cX4_fault 73 = .ok (.ldc 78, 2) := by decide +kernel
theorem dX4_fault_75 : decode cX4_fault 75 = .ok (.goto 7, 3) := by decide +kernel
theorem dX4_fault_78 : decode cX4_fault 78 = .ok (.aload_n 0, 1) := by decide +kernel
theorem dX4_fault_79 : decode cX4_fault 79 = .ok (.getfield 199, 3) := by decide +kernel
theorem dX4_fault_82 : decode cX4_fault 82 = .ok (.ireturn, 1) := by decide +kernel
set_option maxRecDepth 20000 in
theorem ggX4_play_X4_copies : GoodIn wsX4_play wsX4_copies := goodIn_r _ [9] (by decide +kernel) (by decide +kernel)
set_option maxRecDepth 20000 in
theorem gX4_play_X4_copies : GoodIn wsX4_play (va_wsS RX4 217 yX4_copies wsX4_copies) := goodIn_app (goodIn_of _ (by decide +kernel)) ggX4_play_X4_copies
set_option maxRecDepth 20000 in
theorem ggX4_play_X4_plays : GoodIn wsX4_play wsX4_plays := goodIn_r _ [13, 14, 15, 16, 5, 17, 3, 18, 19, 20, 8, 21, 22, 23, 4, 24, 25, 26, 27, 28, 29, 30, 31, 32, 33, 34, 35, 36, 37, 38, 39, 40, 41, 42, 43, 44, 45, 46, 47, 48, 49, 50, 51, 1, 52, 53, 54, 55, 56, 57, 58, 59, 60, 61, 62, 63, 64, 65, 66, 67, 68, 69, 70, 71, 72, 73, 74, 75, 76, 77, 78, 79, 80, 81, 82, 83, 84, 85, 86, 87, 88, 89, 90, 91, 92, 93, 94, 95, 96, 97, 98, 99, 100, 101, 102, 103, 104, 105, 106, 107, 108, 109, 110, 111, 112, 113, 114, 115, 116, 117, 118, 119, 120, 121, 122, 123, 124, 125, 126, 127] (by decide +kernel) (by decide +kernel)
set_option maxRecDepth 20000 in
theorem gX4_play_X4_plays : GoodIn wsX4_play (wsV RX4 221 RX4 yX4_plays wsX4_plays) := goodIn_app (goodIn_of _ (by decide +kernel)) ggX4_play_X4_plays
set_option maxRecDepth 20000 in
theorem ggX4_play_X4_changes : GoodIn wsX4_play wsX4_changes := goodIn_r _ [72, 14, 73, 74, 1, 107, 108, 109, 110, 111, 112, 113, 114, 115, 116, 117, 118, 119, 120, 121, 122, 123, 124, 125, 126, 127] (by decide +kernel) (by decide +kernel)
set_option maxRecDepth 20000 in
theorem gX4_play_X4_changes : GoodIn wsX4_play (wsV RX4 59 RX4 yX4_changes wsX4_changes) := goodIn_app (goodIn_of _ (by decide +kernel)) ggX4_play_X4_changes
theorem dX4_play_0 : decode cX4_play 0 = .ok (.aload_n 0, 1) := by decide +kernel
theorem dX4_play_1 : decode cX4_play 1 = .ok (.getfield 7, 3) := by decide +kernel
theorem dX4_play_4 : decode cX4_play 4 = .ok (.aload_n 0, 1) := by decide +kernel
theorem dX4_play_5 : decode cX4_play 5 = .ok (.getfield 16, 3) := by decide +kernel
theorem dX4_play_8 : decode cX4_play 8 = .ok (.invokestatic 217, 3) := by decide +kernel
theorem dX4_play_11 : decode cX4_play 11 = .ok (.aload_n 0, 1) := by decide +kernel
theorem dX4_play_12 : decode cX4_play 12 = .ok (.invokevirtual 221, 3) := by decide +kernel
theorem dX4_play_15 : decode cX4_play 15 = .ok (.istore_n 1, 1) := by decide +kernel
theorem dX4_play_16 : decode cX4_play 16 = .ok (.aload_n 0, 1) := by decide +kernel
theorem dX4_play_17 : decode cX4_play 17 = .ok (.getfield 16, 3) := by decide +kernel
theorem dX4_play_20 : decode cX4_play 20 = .ok (.aload_n 0, 1) := by decide +kernel
theorem dX4_play_21 : decode cX4_play 21 = .ok (.getfield 7, 3) := by decide +kernel
theorem dX4_play_24 : decode cX4_play 24 = .ok (.invokestatic 217, 3) := by decide +kernel
theorem dX4_play_27 : decode cX4_play 27 = .ok (.iload_n 1, 1) := by decide +kernel
theorem dX4_play_28 : decode cX4_play 28 = .ok (.ldc 78, 2) := by decide +kernel
theorem dX4_play_30 : decode cX4_play 30 = .ok (.if_icmp .eq 6, 3) := by decide +kernel
theorem dX4_play_33 : decode cX4_play 33 = .ok (.ldc 58, 2) := by decide +kernel
theorem dX4_play_35 : decode cX4_play 35 = .ok (.ireturn, 1) := by decide +kernel
theorem dX4_play_36 : decode cX4_play 36 = .ok (.aload_n 0, 1) := by decide +kernel
theorem dX4_play_37 : decode cX4_play 37 = .ok (.invokevirtual 59, 3) := by decide +kernel
theorem dX4_play_40 : decode cX4_play 40 = .ok (.aload_n 0, 1) := by decide +kernel
theorem dX4_play_41 : decode cX4_play 41 = .ok (.invokevirtual 221, 3) := by decide +kernel
theorem dX4_play_44 : decode cX4_play 44 = .ok (.ldc 78, 2) := by decide +kernel
theorem dX4_play_46 : decode cX4_play 46 = .ok (.if_icmp .ne 10, 3) := by decide +kernel
theorem dX4_play_49 : decode cX4_play 49 = .ok (.aload_n 0, 1) := by decide +kernel
theorem dX4_play_50 : decode cX4_play 50 = .ok (.getfield 211, 3) := by decide +kernel
theorem dX4_play_53 : decode cX4_play 53 = .ok (.goto 5, 3) := by decide +kernel
theorem dX4_play_56 : decode cX4_play 56 = .ok (.ldc 78, 2) := by decide +kernel
theorem dX4_play_58 : decode cX4_play 58 = .ok (.ireturn, 1) := by decide +kernel
