theorem dL_cell_0 : decode cL_cell 0 = .ok (.iload_n 1, 1) := by decide +kernel
theorem dL_cell_1 : decode cL_cell 1 = .ok (.aload_n 0, 1) := by decide +kernel
theorem dL_cell_2 : decode cL_cell 2 = .ok (.arraylength, 1) := by decide +kernel
theorem dL_cell_3 : decode cL_cell 3 = .ok (.if_icmp .ge 9, 3) := by decide +kernel
theorem dL_cell_6 : decode cL_cell 6 = .ok (.aload_n 0, 1) := by decide +kernel
theorem dL_cell_7 : decode cL_cell 7 = .ok (.iload_n 1, 1) := by decide +kernel
theorem dL_cell_8 : decode cL_cell 8 = .ok (.iaload, 1) := by decide +kernel
theorem dL_cell_9 : decode cL_cell 9 = .ok (.goto 9, 3) := by decide +kernel
theorem dL_cell_12 : decode cL_cell 12 = .ok (.ldc 7, 2) := by decide +kernel
theorem dL_cell_14 : decode cL_cell 14 = .ok (.iload_n 1, 1) := by decide +kernel
theorem dL_cell_15 : decode cL_cell 15 = .ok (.iconst 3, 1) := by decide +kernel
theorem dL_cell_16 : decode cL_cell 16 = .ok (.iadd, 1) := by decide +kernel
theorem dL_cell_17 : decode cL_cell 17 = .ok (.imul, 1) := by decide +kernel
theorem dL_cell_18 : decode cL_cell 18 = .ok (.ireturn, 1) := by decide +kernel
theorem dL_low_0 : decode cL_low 0 = .ok (.iload_n 0, 1) := by decide +kernel
theorem dL_low_1 : decode cL_low 1 = .ok (.ldc 8, 2) := by decide +kernel
theorem dL_low_3 : decode cL_low 3 = .ok (.iand, 1) := by decide +kernel
theorem dL_low_4 : decode cL_low 4 = .ok (.iload_n 1, 1) := by decide +kernel
theorem dL_low_5 : decode cL_low 5 = .ok (.irem, 1) := by decide +kernel
theorem dL_low_6 : decode cL_low 6 = .ok (.ireturn, 1) := by decide +kernel
theorem dL_divisor_0 : decode cL_divisor 0 = .ok (.lload_n 0, 1) := by decide +kernel
theorem dL_divisor_1 : decode cL_divisor 1 = .ok (.lstore 4, 2) := by decide +kernel
theorem dL_divisor_3 : decode cL_divisor 3 = .ok (.lload_n 2, 1) := by decide +kernel
theorem dL_divisor_4 : decode cL_divisor 4 = .ok (.lstore 6, 2) := by decide +kernel
theorem dL_divisor_6 : decode cL_divisor 6 = .ok (.lload 6, 2) := by decide +kernel
theorem dL_divisor_8 : decode cL_divisor 8 = .ok (.lconst 0, 1) := by decide +kernel
theorem dL_divisor_9 : decode cL_divisor 9 = .ok (.lcmp, 1) := by decide +kernel
theorem dL_divisor_10 : decode cL_divisor 10 = .ok (.ifCond .le 21, 3) := by decide +kernel
theorem dL_divisor_13 : decode cL_divisor 13 = .ok (.lload 4, 2) := by decide +kernel
theorem dL_divisor_15 : decode cL_divisor 15 = .ok (.lload 6, 2) := by decide +kernel
theorem dL_divisor_17 : decode cL_divisor 17 = .ok (.lrem, 1) := by decide +kernel
theorem dL_divisor_18 : decode cL_divisor 18 = .ok (.lstore 8, 2) := by decide +kernel
theorem dL_divisor_20 : decode cL_divisor 20 = .ok (.lload 6, 2) := by decide +kernel
theorem dL_divisor_22 : decode cL_divisor 22 = .ok (.lstore 4, 2) := by decide +kernel
theorem dL_divisor_24 : decode cL_divisor 24 = .ok (.lload 8, 2) := by decide +kernel
theorem dL_divisor_26 : decode cL_divisor 26 = .ok (.lstore 6, 2) := by decide +kernel
theorem dL_divisor_28 : decode cL_divisor 28 = .ok (.goto (-22), 3) := by decide +kernel
theorem dL_divisor_31 : decode cL_divisor 31 = .ok (.lload 4, 2) := by decide +kernel
theorem dL_divisor_33 : decode cL_divisor 33 = .ok (.lreturn, 1) := by decide +kernel
theorem dL_place_0 : decode cL_place 0 = .ok (.iload 4, 2) := by decide +kernel
theorem dL_place_2 : decode cL_place 2 = .ok (.ifCond .ge 7, 3) := by decide +kernel
theorem dL_place_5 : decode cL_place 5 = .ok (.lconst 0, 1) := by decide +kernel
theorem dL_place_6 : decode cL_place 6 = .ok (.goto 24, 3) := by decide +kernel
theorem dL_place_9 : decode cL_place 9 = .ok (.iload 4, 2) := by decide +kernel
theorem dL_place_11 : decode cL_place 11 = .ok (.aload_n 0, 1) := by decide +kernel
theorem dL_place_12 : decode cL_place 12 = .ok (.iconst 1, 1) := by decide +kernel
theorem dL_place_13 : decode cL_place 13 = .ok (.iaload, 1) := by decide +kernel
theorem dL_place_14 : decode cL_place 14 = .ok (.if_icmp .ne 12, 3) := by decide +kernel
theorem dL_place_17 : decode cL_place 17 = .ok (.aload_n 0, 1) := by decide +kernel
theorem dL_place_18 : decode cL_place 18 = .ok (.iconst 0, 1) := by decide +kernel
theorem dL_place_19 : decode cL_place 19 = .ok (.iaload, 1) := by decide +kernel
theorem dL_place_20 : decode cL_place 20 = .ok (.i2l, 1) := by decide +kernel
theorem dL_place_21 : decode cL_place 21 = .ok (.lload_n 2, 1) := by decide +kernel
theorem dL_place_22 : decode cL_place 22 = .ok (.lmul, 1) := by decide +kernel
theorem dL_place_23 : decode cL_place 23 = .ok (.goto 7, 3) := by decide +kernel
theorem dL_place_26 : decode cL_place 26 = .ok (.aload_n 1, 1) := by decide +kernel
theorem dL_place_27 : decode cL_place 27 = .ok (.iload 4, 2) := by decide +kernel
theorem dL_place_29 : decode cL_place 29 = .ok (.laload, 1) := by decide +kernel
theorem dL_place_30 : decode cL_place 30 = .ok (.lreturn, 1) := by decide +kernel
set_option maxRecDepth 20000 in
theorem ggL_pull_L_place : GoodIn wsL_pull wsL_place := goodIn_r _ [4] (by decide +kernel) (by decide +kernel)
set_option maxRecDepth 20000 in
theorem gL_pull_L_place : GoodIn wsL_pull (va_wsS RL 9 yL_place wsL_place) := goodIn_app (goodIn_of _ (by decide +kernel)) ggL_pull_L_place
theorem dL_pull_0 : decode cL_pull 0 = .ok (.aload_n 1, 1) := by decide +kernel
theorem dL_pull_1 : decode cL_pull 1 = .ok (.iload 5, 2) := by decide +kernel
theorem dL_pull_3 : decode cL_pull 3 = .ok (.iaload, 1) := by decide +kernel
theorem dL_pull_4 : decode cL_pull 4 = .ok (.i2l, 1) := by decide +kernel
theorem dL_pull_5 : decode cL_pull 5 = .ok (.aload_n 0, 1) := by decide +kernel
theorem dL_pull_6 : decode cL_pull 6 = .ok (.aload_n 2, 1) := by decide +kernel
theorem dL_pull_7 : decode cL_pull 7 = .ok (.lload_n 3, 1) := by decide +kernel
theorem dL_pull_8 : decode cL_pull 8 = .ok (.iload 5, 2) := by decide +kernel
theorem dL_pull_10 : decode cL_pull 10 = .ok (.invokestatic 9, 3) := by decide +kernel
theorem dL_pull_13 : decode cL_pull 13 = .ok (.aload_n 0, 1) := by decide +kernel
theorem dL_pull_14 : decode cL_pull 14 = .ok (.aload_n 2, 1) := by decide +kernel
theorem dL_pull_15 : decode cL_pull 15 = .ok (.lload_n 3, 1) := by decide +kernel
theorem dL_pull_16 : decode cL_pull 16 = .ok (.iload 5, 2) := by decide +kernel
theorem dL_pull_18 : decode cL_pull 18 = .ok (.iconst 1, 1) := by decide +kernel
theorem dL_pull_19 : decode cL_pull 19 = .ok (.isub, 1) := by decide +kernel
theorem dL_pull_20 : decode cL_pull 20 = .ok (.invokestatic 9, 3) := by decide +kernel
theorem dL_pull_23 : decode cL_pull 23 = .ok (.lsub, 1) := by decide +kernel
theorem dL_pull_24 : decode cL_pull 24 = .ok (.aload_n 1, 1) := by decide +kernel
theorem dL_pull_25 : decode cL_pull 25 = .ok (.iconst 5, 1) := by decide +kernel
theorem dL_pull_26 : decode cL_pull 26 = .ok (.iload 5, 2) := by decide +kernel
theorem dL_pull_28 : decode cL_pull 28 = .ok (.iadd, 1) := by decide +kernel
theorem dL_pull_29 : decode cL_pull 29 = .ok (.iaload, 1) := by decide +kernel
theorem dL_pull_30 : decode cL_pull 30 = .ok (.i2l, 1) := by decide +kernel
theorem dL_pull_31 : decode cL_pull 31 = .ok (.lload_n 3, 1) := by decide +kernel
theorem dL_pull_32 : decode cL_pull 32 = .ok (.lmul, 1) := by decide +kernel
theorem dL_pull_33 : decode cL_pull 33 = .ok (.lsub, 1) := by decide +kernel
theorem dL_pull_34 : decode cL_pull 34 = .ok (.lmul, 1) := by decide +kernel
theorem dL_pull_35 : decode cL_pull 35 = .ok (.lreturn, 1) := by decide +kernel
set_option maxRecDepth 20000 in
theorem ggL_force_L_pull : GoodIn wsL_force wsL_pull := goodIn_r _ [4, 5, 6, 3, 7] (by decide +kernel) (by decide +kernel)
set_option maxRecDepth 20000 in
theorem gL_force_L_pull : GoodIn wsL_force (va_wsS RL 15 yL_pull wsL_pull) := goodIn_app (goodIn_of _ (by decide +kernel)) ggL_force_L_pull
theorem dL_force_0 : decode cL_force 0 = .ok (.aload_n 0, 1) := by decide +kernel
theorem dL_force_1 : decode cL_force 1 = .ok (.aload_n 1, 1) := by decide +kernel
theorem dL_force_2 : decode cL_force 2 = .ok (.aload_n 2, 1) := by decide +kernel
theorem dL_force_3 : decode cL_force 3 = .ok (.lload_n 3, 1) := by decide +kernel
theorem dL_force_4 : decode cL_force 4 = .ok (.iload 5, 2) := by decide +kernel
theorem dL_force_6 : decode cL_force 6 = .ok (.iconst 1, 1) := by decide +kernel
theorem dL_force_7 : decode cL_force 7 = .ok (.iadd, 1) := by decide +kernel
theorem dL_force_8 : decode cL_force 8 = .ok (.invokestatic 15, 3) := by decide +kernel
theorem dL_force_11 : decode cL_force 11 = .ok (.aload_n 0, 1) := by decide +kernel
theorem dL_force_12 : decode cL_force 12 = .ok (.aload_n 1, 1) := by decide +kernel
theorem dL_force_13 : decode cL_force 13 = .ok (.aload_n 2, 1) := by decide +kernel
theorem dL_force_14 : decode cL_force 14 = .ok (.lload_n 3, 1) := by decide +kernel
theorem dL_force_15 : decode cL_force 15 = .ok (.iload 5, 2) := by decide +kernel
theorem dL_force_17 : decode cL_force 17 = .ok (.invokestatic 15, 3) := by decide +kernel
theorem dL_force_20 : decode cL_force 20 = .ok (.lsub, 1) := by decide +kernel
theorem dL_force_21 : decode cL_force 21 = .ok (.aload_n 1, 1) := by decide +kernel
theorem dL_force_22 : decode cL_force 22 = .ok (.bipush 10, 2) := by decide +kernel
theorem dL_force_24 : decode cL_force 24 = .ok (.iload 5, 2) := by decide +kernel
theorem dL_force_26 : decode cL_force 26 = .ok (.iadd, 1) := by decide +kernel
theorem dL_force_27 : decode cL_force 27 = .ok (.iaload, 1) := by decide +kernel
theorem dL_force_28 : decode cL_force 28 = .ok (.i2l, 1) := by decide +kernel
theorem dL_force_29 : decode cL_force 29 = .ok (.lload_n 3, 1) := by decide +kernel
theorem dL_force_30 : decode cL_force 30 = .ok (.lmul, 1) := by decide +kernel
theorem dL_force_31 : decode cL_force 31 = .ok (.ladd, 1) := by decide +kernel
theorem dL_force_32 : decode cL_force 32 = .ok (.lreturn, 1) := by decide +kernel
theorem dL_least_0 : decode cL_least 0 = .ok (.aload_n 0, 1) := by decide +kernel
theorem dL_least_1 : decode cL_least 1 = .ok (.bipush 14, 2) := by decide +kernel
theorem dL_least_3 : decode cL_least 3 = .ok (.iload_n 1, 1) := by decide +kernel
theorem dL_least_4 : decode cL_least 4 = .ok (.iadd, 1) := by decide +kernel
theorem dL_least_5 : decode cL_least 5 = .ok (.iaload, 1) := by decide +kernel
theorem dL_least_6 : decode cL_least 6 = .ok (.ifCond .ge 7, 3) := by decide +kernel
theorem dL_least_9 : decode cL_least 9 = .ok (.iconst 0, 1) := by decide +kernel
theorem dL_least_10 : decode cL_least 10 = .ok (.goto 9, 3) := by decide +kernel
theorem dL_least_13 : decode cL_least 13 = .ok (.aload_n 0, 1) := by decide +kernel
theorem dL_least_14 : decode cL_least 14 = .ok (.bipush 14, 2) := by decide +kernel
theorem dL_least_16 : decode cL_least 16 = .ok (.iload_n 1, 1) := by decide +kernel
theorem dL_least_17 : decode cL_least 17 = .ok (.iadd, 1) := by decide +kernel
theorem dL_least_18 : decode cL_least 18 = .ok (.iaload, 1) := by decide +kernel
theorem dL_least_19 : decode cL_least 19 = .ok (.ireturn, 1) := by decide +kernel
theorem dL_most_0 : decode cL_most 0 = .ok (.aload_n 1, 1) := by decide +kernel
theorem dL_most_1 : decode cL_most 1 = .ok (.bipush 18, 2) := by decide +kernel
theorem dL_most_3 : decode cL_most 3 = .ok (.iload_n 2, 1) := by decide +kernel
theorem dL_most_4 : decode cL_most 4 = .ok (.iadd, 1) := by decide +kernel
theorem dL_most_5 : decode cL_most 5 = .ok (.iaload, 1) := by decide +kernel
theorem dL_most_6 : decode cL_most 6 = .ok (.ifCond .ge 9, 3) := by decide +kernel
theorem dL_most_9 : decode cL_most 9 = .ok (.aload_n 0, 1) := by decide +kernel
theorem dL_most_10 : decode cL_most 10 = .ok (.iconst 0, 1) := by decide +kernel
theorem dL_most_11 : decode cL_most 11 = .ok (.iaload, 1) := by decide +kernel
theorem dL_most_12 : decode cL_most 12 = .ok (.goto 9, 3) := by decide +kernel
theorem dL_most_15 : decode cL_most 15 = .ok (.aload_n 1, 1) := by decide +kernel
theorem dL_most_16 : decode cL_most 16 = .ok (.bipush 18, 2) := by decide +kernel
theorem dL_most_18 : decode cL_most 18 = .ok (.iload_n 2, 1) := by decide +kernel
theorem dL_most_19 : decode cL_most 19 = .ok (.iadd, 1) := by decide +kernel
theorem dL_most_20 : decode cL_most 20 = .ok (.iaload, 1) := by decide +kernel
theorem dL_most_21 : decode cL_most 21 = .ok (.ireturn, 1) := by decide +kernel
set_option maxRecDepth 20000 in
theorem ggL_rest_L_least : GoodIn wsL_rest wsL_least := goodIn_r _ [4] (by decide +kernel) (by decide +kernel)
set_option maxRecDepth 20000 in
theorem gL_rest_L_least : GoodIn wsL_rest (va_wsS RL 19 yL_least wsL_least) := goodIn_app (goodIn_of _ (by decide +kernel)) ggL_rest_L_least
set_option maxRecDepth 20000 in
theorem ggL_rest_L_most : GoodIn wsL_rest wsL_most := goodIn_r _ [7] (by decide +kernel) (by decide +kernel)
set_option maxRecDepth 20000 in
theorem gL_rest_L_most : GoodIn wsL_rest (va_wsS RL 23 yL_most wsL_most) := goodIn_app (goodIn_of _ (by decide +kernel)) ggL_rest_L_most
set_option maxRecDepth 20000 in
theorem ggL_rest_L_force : GoodIn wsL_rest wsL_force := goodIn_r _ [10, 11, 12, 3, 13, 14, 15, 16] (by decide +kernel) (by decide +kernel)
set_option maxRecDepth 20000 in
theorem gL_rest_L_force : GoodIn wsL_rest (va_wsS RL 27 yL_force wsL_force) := goodIn_app (goodIn_of _ (by decide +kernel)) ggL_rest_L_force
theorem dL_rest_0 : decode cL_rest 0 = .ok (.lload_n 3, 1) := by decide +kernel
theorem dL_rest_1 : decode cL_rest 1 = .ok (.lconst 0, 1) := by decide +kernel
theorem dL_rest_2 : decode cL_rest 2 = .ok (.lcmp, 1) := by decide +kernel
theorem dL_rest_3 : decode cL_rest 3 = .ok (.ifCond .le 7, 3) := by decide +kernel
theorem dL_rest_6 : decode cL_rest 6 = .ok (.iconst 1, 1) := by decide +kernel
theorem dL_rest_7 : decode cL_rest 7 = .ok (.goto 4, 3) := by decide +kernel
theorem dL_rest_10 : decode cL_rest 10 = .ok (.iconst 0, 1) := by decide +kernel
theorem dL_rest_11 : decode cL_rest 11 = .ok (.istore 5, 2) := by decide +kernel
theorem dL_rest_13 : decode cL_rest 13 = .ok (.iconst 0, 1) := by decide +kernel
theorem dL_rest_14 : decode cL_rest 14 = .ok (.istore 6, 2) := by decide +kernel
theorem dL_rest_16 : decode cL_rest 16 = .ok (.iload 6, 2) := by decide +kernel
theorem dL_rest_18 : decode cL_rest 18 = .ok (.aload_n 0, 1) := by decide +kernel
theorem dL_rest_19 : decode cL_rest 19 = .ok (.iconst 1, 1) := by decide +kernel
theorem dL_rest_20 : decode cL_rest 20 = .ok (.iaload, 1) := by decide +kernel
theorem dL_rest_21 : decode cL_rest 21 = .ok (.if_icmp .ge 75, 3) := by decide +kernel
theorem dL_rest_24 : decode cL_rest 24 = .ok (.iload 5, 2) := by decide +kernel
theorem dL_rest_26 : decode cL_rest 26 = .ok (.ifCond .eq 61, 3) := by decide +kernel
theorem dL_rest_29 : decode cL_rest 29 = .ok (.aload_n 2, 1) := by decide +kernel
theorem dL_rest_30 : decode cL_rest 30 = .ok (.iload 6, 2) := by decide +kernel
theorem dL_rest_32 : decode cL_rest 32 = .ok (.laload, 1) := by decide +kernel
theorem dL_rest_33 : decode cL_rest 33 = .ok (.aload_n 1, 1) := by decide +kernel
theorem dL_rest_34 : decode cL_rest 34 = .ok (.iload 6, 2) := by decide +kernel
theorem dL_rest_36 : decode cL_rest 36 = .ok (.invokestatic 19, 3) := by decide +kernel
theorem dL_rest_39 : decode cL_rest 39 = .ok (.i2l, 1) := by decide +kernel
theorem dL_rest_40 : decode cL_rest 40 = .ok (.lload_n 3, 1) := by decide +kernel
theorem dL_rest_41 : decode cL_rest 41 = .ok (.lmul, 1) := by decide +kernel
theorem dL_rest_42 : decode cL_rest 42 = .ok (.lcmp, 1) := by decide +kernel
theorem dL_rest_43 : decode cL_rest 43 = .ok (.ifCond .lt 44, 3) := by decide +kernel
theorem dL_rest_46 : decode cL_rest 46 = .ok (.aload_n 2, 1) := by decide +kernel
theorem dL_rest_47 : decode cL_rest 47 = .ok (.iload 6, 2) := by decide +kernel
theorem dL_rest_49 : decode cL_rest 49 = .ok (.laload, 1) := by decide +kernel
theorem dL_rest_50 : decode cL_rest 50 = .ok (.aload_n 0, 1) := by decide +kernel
theorem dL_rest_51 : decode cL_rest 51 = .ok (.aload_n 1, 1) := by decide +kernel
theorem dL_rest_52 : decode cL_rest 52 = .ok (.iload 6, 2) := by decide +kernel
theorem dL_rest_54 : decode cL_rest 54 = .ok (.invokestatic 23, 3) := by decide +kernel
theorem dL_rest_57 : decode cL_rest 57 = .ok (.i2l, 1) := by decide +kernel
theorem dL_rest_58 : decode cL_rest 58 = .ok (.lload_n 3, 1) := by decide +kernel
theorem dL_rest_59 : decode cL_rest 59 = .ok (.lmul, 1) := by decide +kernel
theorem dL_rest_60 : decode cL_rest 60 = .ok (.lcmp, 1) := by decide +kernel
theorem dL_rest_61 : decode cL_rest 61 = .ok (.ifCond .gt 26, 3) := by decide +kernel
theorem dL_rest_64 : decode cL_rest 64 = .ok (.iload 6, 2) := by decide +kernel
theorem dL_rest_66 : decode cL_rest 66 = .ok (.ifCond .eq 17, 3) := by decide +kernel
theorem dL_rest_69 : decode cL_rest 69 = .ok (.aload_n 2, 1) := by decide +kernel
theorem dL_rest_70 : decode cL_rest 70 = .ok (.iload 6, 2) := by decide +kernel
theorem dL_rest_72 : decode cL_rest 72 = .ok (.laload, 1) := by decide +kernel
theorem dL_rest_73 : decode cL_rest 73 = .ok (.aload_n 2, 1) := by decide +kernel
theorem dL_rest_74 : decode cL_rest 74 = .ok (.iload 6, 2) := by decide +kernel
theorem dL_rest_76 : decode cL_rest 76 = .ok (.iconst 1, 1) := by decide +kernel
theorem dL_rest_77 : decode cL_rest 77 = .ok (.isub, 1) := by decide +kernel
theorem dL_rest_78 : decode cL_rest 78 = .ok (.laload, 1) := by decide +kernel
theorem dL_rest_79 : decode cL_rest 79 = .ok (.lcmp, 1) := by decide +kernel
theorem dL_rest_80 : decode cL_rest 80 = .ok (.ifCond .lt 7, 3) := by decide +kernel
theorem dL_rest_83 : decode cL_rest 83 = .ok (.iconst 1, 1) := by decide +kernel
theorem dL_rest_84 : decode cL_rest 84 = .ok (.goto 4, 3) := by decide +kernel
theorem dL_rest_87 : decode cL_rest 87 = .ok (.iconst 0, 1) := by decide +kernel
theorem dL_rest_88 : decode cL_rest 88 = .ok (.istore 5, 2) := by decide +kernel
theorem dL_rest_90 : decode cL_rest 90 = .ok (.iinc 6 1, 3) := by decide +kernel
theorem dL_rest_93 : decode cL_rest 93 = .ok (.goto (-77), 3) := by decide +kernel
theorem dL_rest_96 : decode cL_rest 96 = .ok (.iconst 0, 1) := by decide +kernel
theorem dL_rest_97 : decode cL_rest 97 = .ok (.istore 6, 2) := by decide +kernel
theorem dL_rest_99 : decode cL_rest 99 = .ok (.iload 6, 2) := by decide +kernel
theorem dL_rest_101 : decode cL_rest 101 = .ok (.aload_n 0, 1) := by decide +kernel
theorem dL_rest_102 : decode cL_rest 102 = .ok (.iconst 1, 1) := by decide +kernel
theorem dL_rest_103 : decode cL_rest 103 = .ok (.iaload, 1) := by decide +kernel
theorem dL_rest_104 : decode cL_rest 104 = .ok (.if_icmp .ge 242, 3) := by decide +kernel
theorem dL_rest_107 : decode cL_rest 107 = .ok (.iload 6, 2) := by decide +kernel
theorem dL_rest_109 : decode cL_rest 109 = .ok (.istore 7, 2) := by decide +kernel
theorem dL_rest_111 : decode cL_rest 111 = .ok (.iload 7, 2) := by decide +kernel
theorem dL_rest_113 : decode cL_rest 113 = .ok (.aload_n 0, 1) := by decide +kernel
theorem dL_rest_114 : decode cL_rest 114 = .ok (.iconst 1, 1) := by decide +kernel
theorem dL_rest_115 : decode cL_rest 115 = .ok (.iaload, 1) := by decide +kernel
theorem dL_rest_116 : decode cL_rest 116 = .ok (.if_icmp .ge 224, 3) := by decide +kernel
theorem dL_rest_119 : decode cL_rest 119 = .ok (.aload_n 2, 1) := by decide +kernel
theorem dL_rest_120 : decode cL_rest 120 = .ok (.iload 6, 2) := by decide +kernel
theorem dL_rest_122 : decode cL_rest 122 = .ok (.laload, 1) := by decide +kernel
theorem dL_rest_123 : decode cL_rest 123 = .ok (.aload_n 2, 1) := by decide +kernel
theorem dL_rest_124 : decode cL_rest 124 = .ok (.iload 7, 2) := by decide +kernel
theorem dL_rest_126 : decode cL_rest 126 = .ok (.laload, 1) := by decide +kernel
theorem dL_rest_127 : decode cL_rest 127 = .ok (.lcmp, 1) := by decide +kernel
theorem dL_rest_128 : decode cL_rest 128 = .ok (.ifCond .ne 7, 3) := by decide +kernel
theorem dL_rest_131 : decode cL_rest 131 = .ok (.iconst 1, 1) := by decide +kernel
theorem dL_rest_132 : decode cL_rest 132 = .ok (.goto 4, 3) := by decide +kernel
theorem dL_rest_135 : decode cL_rest 135 = .ok (.iconst 0, 1) := by decide +kernel
theorem dL_rest_136 : decode cL_rest 136 = .ok (.istore 8, 2) := by decide +kernel
theorem dL_rest_138 : decode cL_rest 138 = .ok (.iload 8, 2) := by decide +kernel
theorem dL_rest_140 : decode cL_rest 140 = .ok (.ifCond .eq 31, 3) := by decide +kernel
theorem dL_rest_143 : decode cL_rest 143 = .ok (.iload 7, 2) := by decide +kernel
theorem dL_rest_145 : decode cL_rest 145 = .ok (.aload_n 0, 1) := by decide +kernel
theorem dL_rest_146 : decode cL_rest 146 = .ok (.iconst 1, 1) := by decide +kernel
theorem dL_rest_147 : decode cL_rest 147 = .ok (.iaload, 1) := by decide +kernel
theorem dL_rest_148 : decode cL_rest 148 = .ok (.iconst 1, 1) := by decide +kernel
theorem dL_rest_149 : decode cL_rest 149 = .ok (.isub, 1) := by decide +kernel
theorem dL_rest_150 : decode cL_rest 150 = .ok (.if_icmp .eq 17, 3) := by decide +kernel
theorem dL_rest_153 : decode cL_rest 153 = .ok (.aload_n 2, 1) := by decide +kernel
theorem dL_rest_154 : decode cL_rest 154 = .ok (.iload 7, 2) := by decide +kernel
theorem dL_rest_156 : decode cL_rest 156 = .ok (.iconst 1, 1) := by decide +kernel
theorem dL_rest_157 : decode cL_rest 157 = .ok (.iadd, 1) := by decide +kernel
theorem dL_rest_158 : decode cL_rest 158 = .ok (.laload, 1) := by decide +kernel
theorem dL_rest_159 : decode cL_rest 159 = .ok (.aload_n 2, 1) := by decide +kernel
theorem dL_rest_160 : decode cL_rest 160 = .ok (.iload 7, 2) := by decide +kernel
theorem dL_rest_162 : decode cL_rest 162 = .ok (.laload, 1) := by decide +kernel
theorem dL_rest_163 : decode cL_rest 163 = .ok (.lcmp, 1) := by decide +kernel
theorem dL_rest_164 : decode cL_rest 164 = .ok (.ifCond .le 7, 3) := by decide +kernel
theorem dL_rest_167 : decode cL_rest 167 = .ok (.iconst 1, 1) := by decide +kernel
theorem dL_rest_168 : decode cL_rest 168 = .ok (.goto 4, 3) := by decide +kernel
theorem dL_rest_171 : decode cL_rest 171 = .ok (.iconst 0, 1) := by decide +kernel
theorem dL_rest_172 : decode cL_rest 172 = .ok (.istore 9, 2) := by decide +kernel
theorem dL_rest_174 : decode cL_rest 174 = .ok (.iload 8, 2) := by decide +kernel
theorem dL_rest_176 : decode cL_rest 176 = .ok (.ifCond .eq 26, 3) := by decide +kernel
theorem dL_rest_179 : decode cL_rest 179 = .ok (.iload 6, 2) := by decide +kernel
theorem dL_rest_181 : decode cL_rest 181 = .ok (.ifCond .eq 17, 3) := by decide +kernel
theorem dL_rest_184 : decode cL_rest 184 = .ok (.aload_n 2, 1) := by decide +kernel
theorem dL_rest_185 : decode cL_rest 185 = .ok (.iload 6, 2) := by decide +kernel
theorem dL_rest_187 : decode cL_rest 187 = .ok (.iconst 1, 1) := by decide +kernel
theorem dL_rest_188 : decode cL_rest 188 = .ok (.isub, 1) := by decide +kernel
theorem dL_rest_189 : decode cL_rest 189 = .ok (.laload, 1) := by decide +kernel
theorem dL_rest_190 : decode cL_rest 190 = .ok (.aload_n 2, 1) := by decide +kernel
theorem dL_rest_191 : decode cL_rest 191 = .ok (.iload 6, 2) := by decide +kernel
theorem dL_rest_193 : decode cL_rest 193 = .ok (.laload, 1) := by decide +kernel
theorem dL_rest_194 : decode cL_rest 194 = .ok (.lcmp, 1) := by decide +kernel
theorem dL_rest_195 : decode cL_rest 195 = .ok (.ifCond .ge 7, 3) := by decide +kernel
theorem dL_rest_198 : decode cL_rest 198 = .ok (.iconst 1, 1) := by decide +kernel
theorem dL_rest_199 : decode cL_rest 199 = .ok (.goto 4, 3) := by decide +kernel
theorem dL_rest_202 : decode cL_rest 202 = .ok (.iconst 0, 1) := by decide +kernel
theorem dL_rest_203 : decode cL_rest 203 = .ok (.istore 10, 2) := by decide +kernel
theorem dL_rest_205 : decode cL_rest 205 = .ok (.lconst 0, 1) := by decide +kernel
theorem dL_rest_206 : decode cL_rest 206 = .ok (.lstore 11, 2) := by decide +kernel
theorem dL_rest_208 : decode cL_rest 208 = .ok (.iload 6, 2) := by decide +kernel
theorem dL_rest_210 : decode cL_rest 210 = .ok (.istore 13, 2) := by decide +kernel
theorem dL_rest_212 : decode cL_rest 212 = .ok (.iload 13, 2) := by decide +kernel
theorem dL_rest_214 : decode cL_rest 214 = .ok (.iload 7, 2) := by decide +kernel
theorem dL_rest_216 : decode cL_rest 216 = .ok (.if_icmp .gt 82, 3) := by decide +kernel
theorem dL_rest_219 : decode cL_rest 219 = .ok (.lload 11, 2) := by decide +kernel
theorem dL_rest_221 : decode cL_rest 221 = .ok (.aload_n 0, 1) := by decide +kernel
theorem dL_rest_222 : decode cL_rest 222 = .ok (.aload_n 1, 1) := by decide +kernel
theorem dL_rest_223 : decode cL_rest 223 = .ok (.aload_n 2, 1) := by decide +kernel
theorem dL_rest_224 : decode cL_rest 224 = .ok (.lload_n 3, 1) := by decide +kernel
theorem dL_rest_225 : decode cL_rest 225 = .ok (.iload 13, 2) := by decide +kernel
theorem dL_rest_227 : decode cL_rest 227 = .ok (.invokestatic 27, 3) := by decide +kernel
theorem dL_rest_230 : decode cL_rest 230 = .ok (.ladd, 1) := by decide +kernel
theorem dL_rest_231 : decode cL_rest 231 = .ok (.lstore 11, 2) := by decide +kernel
theorem dL_rest_233 : decode cL_rest 233 = .ok (.iload 9, 2) := by decide +kernel
theorem dL_rest_235 : decode cL_rest 235 = .ok (.ifCond .eq 25, 3) := by decide +kernel
theorem dL_rest_238 : decode cL_rest 238 = .ok (.aload_n 2, 1) := by decide +kernel
theorem dL_rest_239 : decode cL_rest 239 = .ok (.iload 13, 2) := by decide +kernel
theorem dL_rest_241 : decode cL_rest 241 = .ok (.laload, 1) := by decide +kernel
theorem dL_rest_242 : decode cL_rest 242 = .ok (.aload_n 0, 1) := by decide +kernel
theorem dL_rest_243 : decode cL_rest 243 = .ok (.aload_n 1, 1) := by decide +kernel
theorem dL_rest_244 : decode cL_rest 244 = .ok (.iload 13, 2) := by decide +kernel
theorem dL_rest_246 : decode cL_rest 246 = .ok (.invokestatic 23, 3) := by decide +kernel
theorem dL_rest_249 : decode cL_rest 249 = .ok (.i2l, 1) := by decide +kernel
theorem dL_rest_250 : decode cL_rest 250 = .ok (.lload_n 3, 1) := by decide +kernel
theorem dL_rest_251 : decode cL_rest 251 = .ok (.lmul, 1) := by decide +kernel
theorem dL_rest_252 : decode cL_rest 252 = .ok (.lcmp, 1) := by decide +kernel
theorem dL_rest_253 : decode cL_rest 253 = .ok (.ifCond .ge 7, 3) := by decide +kernel
theorem dL_rest_256 : decode cL_rest 256 = .ok (.iconst 1, 1) := by decide +kernel
theorem dL_rest_257 : decode cL_rest 257 = .ok (.goto 4, 3) := by decide +kernel
theorem dL_rest_260 : decode cL_rest 260 = .ok (.iconst 0, 1) := by decide +kernel
theorem dL_rest_261 : decode cL_rest 261 = .ok (.istore 9, 2) := by decide +kernel
theorem dL_rest_263 : decode cL_rest 263 = .ok (.iload 10, 2) := by decide +kernel
theorem dL_rest_265 : decode cL_rest 265 = .ok (.ifCond .eq 24, 3) := by decide +kernel
theorem dL_rest_268 : decode cL_rest 268 = .ok (.aload_n 2, 1) := by decide +kernel
theorem dL_rest_269 : decode cL_rest 269 = .ok (.iload 13, 2) := by decide +kernel
theorem dL_rest_271 : decode cL_rest 271 = .ok (.laload, 1) := by decide +kernel
theorem dL_rest_272 : decode cL_rest 272 = .ok (.aload_n 1, 1) := by decide +kernel
theorem dL_rest_273 : decode cL_rest 273 = .ok (.iload 13, 2) := by decide +kernel
theorem dL_rest_275 : decode cL_rest 275 = .ok (.invokestatic 19, 3) := by decide +kernel
theorem dL_rest_278 : decode cL_rest 278 = .ok (.i2l, 1) := by decide +kernel
theorem dL_rest_279 : decode cL_rest 279 = .ok (.lload_n 3, 1) := by decide +kernel
theorem dL_rest_280 : decode cL_rest 280 = .ok (.lmul, 1) := by decide +kernel
theorem dL_rest_281 : decode cL_rest 281 = .ok (.lcmp, 1) := by decide +kernel
theorem dL_rest_282 : decode cL_rest 282 = .ok (.ifCond .le 7, 3) := by decide +kernel
theorem dL_rest_285 : decode cL_rest 285 = .ok (.iconst 1, 1) := by decide +kernel
theorem dL_rest_286 : decode cL_rest 286 = .ok (.goto 4, 3) := by decide +kernel
theorem dL_rest_289 : decode cL_rest 289 = .ok (.iconst 0, 1) := by decide +kernel
theorem dL_rest_290 : decode cL_rest 290 = .ok (.istore 10, 2) := by decide +kernel
theorem dL_rest_292 : decode cL_rest 292 = .ok (.iinc 13 1, 3) := by decide +kernel
theorem dL_rest_295 : decode cL_rest 295 = .ok (.goto (-83), 3) := by decide +kernel
theorem dL_rest_298 : decode cL_rest 298 = .ok (.iload 5, 2) := by decide +kernel
theorem dL_rest_300 : decode cL_rest 300 = .ok (.ifCond .eq 31, 3) := by decide +kernel
theorem dL_rest_303 : decode cL_rest 303 = .ok (.iload 9, 2) := by decide +kernel
theorem dL_rest_305 : decode cL_rest 305 = .ok (.ifCond .eq 10, 3) := by decide +kernel
theorem dL_rest_308 : decode cL_rest 308 = .ok (.lload 11, 2) := by decide +kernel
theorem dL_rest_310 : decode cL_rest 310 = .ok (.lconst 0, 1) := by decide +kernel
theorem dL_rest_311 : decode cL_rest 311 = .ok (.lcmp, 1) := by decide +kernel
theorem dL_rest_312 : decode cL_rest 312 = .ok (.ifCond .gt 19, 3) := by decide +kernel
theorem dL_rest_315 : decode cL_rest 315 = .ok (.iload 10, 2) := by decide +kernel
theorem dL_rest_317 : decode cL_rest 317 = .ok (.ifCond .eq 10, 3) := by decide +kernel
theorem dL_rest_320 : decode cL_rest 320 = .ok (.lload 11, 2) := by decide +kernel
theorem dL_rest_322 : decode cL_rest 322 = .ok (.lconst 0, 1) := by decide +kernel
theorem dL_rest_323 : decode cL_rest 323 = .ok (.lcmp, 1) := by decide +kernel
theorem dL_rest_324 : decode cL_rest 324 = .ok (.ifCond .lt 7, 3) := by decide +kernel
theorem dL_rest_327 : decode cL_rest 327 = .ok (.iconst 1, 1) := by decide +kernel
theorem dL_rest_328 : decode cL_rest 328 = .ok (.goto 4, 3) := by decide +kernel
theorem dL_rest_331 : decode cL_rest 331 = .ok (.iconst 0, 1) := by decide +kernel
theorem dL_rest_332 : decode cL_rest 332 = .ok (.istore 5, 2) := by decide +kernel
theorem dL_rest_334 : decode cL_rest 334 = .ok (.iinc 7 1, 3) := by decide +kernel
theorem dL_rest_337 : decode cL_rest 337 = .ok (.goto (-226), 3) := by decide +kernel
theorem dL_rest_340 : decode cL_rest 340 = .ok (.iinc 6 1, 3) := by decide +kernel
theorem dL_rest_343 : decode cL_rest 343 = .ok (.goto (-244), 3) := by decide +kernel
theorem dL_rest_346 : decode cL_rest 346 = .ok (.iload 5, 2) := by decide +kernel
theorem dL_rest_348 : decode cL_rest 348 = .ok (.ireturn, 1) := by decide +kernel
set_option maxRecDepth 20000 in
theorem ggL_common_L_divisor : GoodIn wsL_common wsL_divisor := goodIn_r _ [4] (by decide +kernel) (by decide +kernel)
set_option maxRecDepth 20000 in
theorem gL_common_L_divisor : GoodIn wsL_common (va_wsS RL 30 yL_divisor wsL_divisor) := goodIn_app (goodIn_of _ (by decide +kernel)) ggL_common_L_divisor
theorem dL_common_0 : decode cL_common 0 = .ok (.lconst 1, 1) := by decide +kernel
theorem dL_common_1 : decode cL_common 1 = .ok (.lstore 4, 2) := by decide +kernel
theorem dL_common_3 : decode cL_common 3 = .ok (.iconst 1, 1) := by decide +kernel
theorem dL_common_4 : decode cL_common 4 = .ok (.istore 6, 2) := by decide +kernel
theorem dL_common_6 : decode cL_common 6 = .ok (.iconst 0, 1) := by decide +kernel
theorem dL_common_7 : decode cL_common 7 = .ok (.istore 7, 2) := by decide +kernel
theorem dL_common_9 : decode cL_common 9 = .ok (.iload 7, 2) := by decide +kernel
theorem dL_common_11 : decode cL_common 11 = .ok (.iload_n 0, 1) := by decide +kernel
theorem dL_common_12 : decode cL_common 12 = .ok (.if_icmp .ge 83, 3) := by decide +kernel
theorem dL_common_15 : decode cL_common 15 = .ok (.iload 6, 2) := by decide +kernel
theorem dL_common_17 : decode cL_common 17 = .ok (.ifCond .eq 41, 3) := by decide +kernel
theorem dL_common_20 : decode cL_common 20 = .ok (.aload_n 2, 1) := by decide +kernel
theorem dL_common_21 : decode cL_common 21 = .ok (.iload 7, 2) := by decide +kernel
theorem dL_common_23 : decode cL_common 23 = .ok (.laload, 1) := by decide +kernel
theorem dL_common_24 : decode cL_common 24 = .ok (.lconst 0, 1) := by decide +kernel
theorem dL_common_25 : decode cL_common 25 = .ok (.lcmp, 1) := by decide +kernel
theorem dL_common_26 : decode cL_common 26 = .ok (.ifCond .le 32, 3) := by decide +kernel
theorem dL_common_29 : decode cL_common 29 = .ok (.aload_n 1, 1) := by decide +kernel
theorem dL_common_30 : decode cL_common 30 = .ok (.iload 7, 2) := by decide +kernel
theorem dL_common_32 : decode cL_common 32 = .ok (.laload, 1) := by decide +kernel
theorem dL_common_33 : decode cL_common 33 = .ok (.lconst 0, 1) := by decide +kernel
theorem dL_common_34 : decode cL_common 34 = .ok (.lcmp, 1) := by decide +kernel
theorem dL_common_35 : decode cL_common 35 = .ok (.ifCond .lt 23, 3) := by decide +kernel
theorem dL_common_38 : decode cL_common 38 = .ok (.aload_n 1, 1) := by decide +kernel
theorem dL_common_39 : decode cL_common 39 = .ok (.iload 7, 2) := by decide +kernel
theorem dL_common_41 : decode cL_common 41 = .ok (.laload, 1) := by decide +kernel
theorem dL_common_42 : decode cL_common 42 = .ok (.aload_n 2, 1) := by decide +kernel
theorem dL_common_43 : decode cL_common 43 = .ok (.iload 7, 2) := by decide +kernel
theorem dL_common_45 : decode cL_common 45 = .ok (.laload, 1) := by decide +kernel
theorem dL_common_46 : decode cL_common 46 = .ok (.invokestatic 30, 3) := by decide +kernel
theorem dL_common_49 : decode cL_common 49 = .ok (.lconst 1, 1) := by decide +kernel
theorem dL_common_50 : decode cL_common 50 = .ok (.lcmp, 1) := by decide +kernel
theorem dL_common_51 : decode cL_common 51 = .ok (.ifCond .ne 7, 3) := by decide +kernel
theorem dL_common_54 : decode cL_common 54 = .ok (.iconst 1, 1) := by decide +kernel
theorem dL_common_55 : decode cL_common 55 = .ok (.goto 4, 3) := by decide +kernel
theorem dL_common_58 : decode cL_common 58 = .ok (.iconst 0, 1) := by decide +kernel
theorem dL_common_59 : decode cL_common 59 = .ok (.istore 6, 2) := by decide +kernel
theorem dL_common_61 : decode cL_common 61 = .ok (.iload 6, 2) := by decide +kernel
theorem dL_common_63 : decode cL_common 63 = .ok (.ifCond .eq 23, 3) := by decide +kernel
theorem dL_common_66 : decode cL_common 66 = .ok (.lload 4, 2) := by decide +kernel
theorem dL_common_68 : decode cL_common 68 = .ok (.lload 4, 2) := by decide +kernel
theorem dL_common_70 : decode cL_common 70 = .ok (.aload_n 2, 1) := by decide +kernel
theorem dL_common_71 : decode cL_common 71 = .ok (.iload 7, 2) := by decide +kernel
theorem dL_common_73 : decode cL_common 73 = .ok (.laload, 1) := by decide +kernel
theorem dL_common_74 : decode cL_common 74 = .ok (.invokestatic 30, 3) := by decide +kernel
theorem dL_common_77 : decode cL_common 77 = .ok (.ldiv, 1) := by decide +kernel
theorem dL_common_78 : decode cL_common 78 = .ok (.aload_n 2, 1) := by decide +kernel
theorem dL_common_79 : decode cL_common 79 = .ok (.iload 7, 2) := by decide +kernel
theorem dL_common_81 : decode cL_common 81 = .ok (.laload, 1) := by decide +kernel
theorem dL_common_82 : decode cL_common 82 = .ok (.lmul, 1) := by decide +kernel
theorem dL_common_83 : decode cL_common 83 = .ok (.goto 4, 3) := by decide +kernel
theorem dL_common_86 : decode cL_common 86 = .ok (.lconst 1, 1) := by decide +kernel
theorem dL_common_87 : decode cL_common 87 = .ok (.lstore 4, 2) := by decide +kernel
theorem dL_common_89 : decode cL_common 89 = .ok (.iinc 7 1, 3) := by decide +kernel
theorem dL_common_92 : decode cL_common 92 = .ok (.goto (-83), 3) := by decide +kernel
theorem dL_common_95 : decode cL_common 95 = .ok (.iconst 0, 1) := by decide +kernel
theorem dL_common_96 : decode cL_common 96 = .ok (.istore 7, 2) := by decide +kernel
theorem dL_common_98 : decode cL_common 98 = .ok (.iload 7, 2) := by decide +kernel
theorem dL_common_100 : decode cL_common 100 = .ok (.iload_n 0, 1) := by decide +kernel
theorem dL_common_101 : decode cL_common 101 = .ok (.if_icmp .ge 30, 3) := by decide +kernel
theorem dL_common_104 : decode cL_common 104 = .ok (.iload 6, 2) := by decide +kernel
theorem dL_common_106 : decode cL_common 106 = .ok (.ifCond .eq 25, 3) := by decide +kernel
theorem dL_common_109 : decode cL_common 109 = .ok (.aload_n 3, 1) := by decide +kernel
theorem dL_common_110 : decode cL_common 110 = .ok (.iload 7, 2) := by decide +kernel
theorem dL_common_112 : decode cL_common 112 = .ok (.aload_n 1, 1) := by decide +kernel
theorem dL_common_113 : decode cL_common 113 = .ok (.iload 7, 2) := by decide +kernel
theorem dL_common_115 : decode cL_common 115 = .ok (.laload, 1) := by decide +kernel
theorem dL_common_116 : decode cL_common 116 = .ok (.lload 4, 2) := by decide +kernel
theorem dL_common_118 : decode cL_common 118 = .ok (.aload_n 2, 1) := by decide +kernel
theorem dL_common_119 : decode cL_common 119 = .ok (.iload 7, 2) := by decide +kernel
theorem dL_common_121 : decode cL_common 121 = .ok (.laload, 1) := by decide +kernel
theorem dL_common_122 : decode cL_common 122 = .ok (.ldiv, 1) := by decide +kernel
theorem dL_common_123 : decode cL_common 123 = .ok (.lmul, 1) := by decide +kernel
theorem dL_common_124 : decode cL_common 124 = .ok (.lastore, 1) := by decide +kernel
theorem dL_common_125 : decode cL_common 125 = .ok (.iinc 7 1, 3) := by decide +kernel
theorem dL_common_128 : decode cL_common 128 = .ok (.goto (-30), 3) := by decide +kernel
theorem dL_common_131 : decode cL_common 131 = .ok (.iload 6, 2) := by decide +kernel
theorem dL_common_133 : decode cL_common 133 = .ok (.ifCond .eq 8, 3) := by decide +kernel
theorem dL_common_136 : decode cL_common 136 = .ok (.lload 4, 2) := by decide +kernel
theorem dL_common_138 : decode cL_common 138 = .ok (.goto 4, 3) := by decide +kernel
theorem dL_common_141 : decode cL_common 141 = .ok (.lconst 0, 1) := by decide +kernel
theorem dL_common_142 : decode cL_common 142 = .ok (.lreturn, 1) := by decide +kernel
set_option maxRecDepth 20000 in
theorem ggL_rests_X3_place : GoodIn wsL_rests wsX3_place := goodIn_r _ [6, 7, 8, 9, 10, 11, 12, 13, 14, 15, 16, 17, 18, 5, 19, 20, 21, 22, 23, 24, 25, 26, 27, 28, 29, 30, 31, 32, 33, 34, 35, 36, 37, 38, 39, 40, 41, 42, 43, 44, 45, 46, 47, 48, 49, 50, 51, 52, 53, 54, 55, 56, 57, 58, 59, 60, 61, 62, 63, 64, 65, 66, 67, 68, 69, 70, 71, 72, 73, 74, 75, 76, 77, 78, 79, 80, 81, 82, 83, 84, 85, 86, 87, 88, 89, 90, 91, 92, 93, 94, 95, 96, 97, 98, 99, 100, 101, 102, 103, 104, 105, 106, 107, 108, 109, 110, 111, 112, 113, 114, 115, 116, 117, 118, 119, 120, 121, 122, 123, 124, 125, 126, 127, 128, 129, 130, 131, 132, 133, 134, 135, 143, 144, 145, 146, 147, 148, 149, 150, 151, 152, 153, 154, 155, 156, 157, 158, 159, 160, 161, 162, 163, 164, 165, 166] (by decide +kernel) (by decide +kernel)
set_option maxRecDepth 20000 in
theorem gL_rests_X3_place : GoodIn wsL_rests (wsV RL 34 RX3 yX3_place wsX3_place) := goodIn_app (goodIn_of _ (by decide +kernel)) ggL_rests_X3_place
set_option maxRecDepth 20000 in
theorem ggL_rests_L_common : GoodIn wsL_rests wsL_common := goodIn_r _ [139, 140, 141, 138, 142] (by decide +kernel) (by decide +kernel)
set_option maxRecDepth 20000 in
theorem gL_rests_L_common : GoodIn wsL_rests (va_wsS RL 39 yL_common wsL_common) := goodIn_app (goodIn_of _ (by decide +kernel)) ggL_rests_L_common
theorem dL_rests_0 : decode cL_rests 0 = .ok (.iconst 4, 1) := by decide +kernel
theorem dL_rests_1 : decode cL_rests 1 = .ok (.newarray .long, 2) := by decide +kernel
theorem dL_rests_3 : decode cL_rests 3 = .ok (.astore_n 3, 1) := by decide +kernel
theorem dL_rests_4 : decode cL_rests 4 = .ok (.iconst 4, 1) := by decide +kernel
theorem dL_rests_5 : decode cL_rests 5 = .ok (.newarray .long, 2) := by decide +kernel
theorem dL_rests_7 : decode cL_rests 7 = .ok (.astore 4, 2) := by decide +kernel
theorem dL_rests_9 : decode cL_rests 9 = .ok (.iconst 0, 1) := by decide +kernel
theorem dL_rests_10 : decode cL_rests 10 = .ok (.istore 5, 2) := by decide +kernel
theorem dL_rests_12 : decode cL_rests 12 = .ok (.iload 5, 2) := by decide +kernel
theorem dL_rests_14 : decode cL_rests 14 = .ok (.iload_n 1, 1) := by decide +kernel
theorem dL_rests_15 : decode cL_rests 15 = .ok (.if_icmp .ge 34, 3) := by decide +kernel
theorem dL_rests_18 : decode cL_rests 18 = .ok (.aload_n 3, 1) := by decide +kernel
theorem dL_rests_19 : decode cL_rests 19 = .ok (.iload 5, 2) := by decide +kernel
theorem dL_rests_21 : decode cL_rests 21 = .ok (.aload_n 0, 1) := by decide +kernel
theorem dL_rests_22 : decode cL_rests 22 = .ok (.iload 5, 2) := by decide +kernel
theorem dL_rests_24 : decode cL_rests 24 = .ok (.iconst 0, 1) := by decide +kernel
theorem dL_rests_25 : decode cL_rests 25 = .ok (.invokevirtual 34, 3) := by decide +kernel
theorem dL_rests_28 : decode cL_rests 28 = .ok (.i2l, 1) := by decide +kernel
theorem dL_rests_29 : decode cL_rests 29 = .ok (.lastore, 1) := by decide +kernel
theorem dL_rests_30 : decode cL_rests 30 = .ok (.aload 4, 2) := by decide +kernel
theorem dL_rests_32 : decode cL_rests 32 = .ok (.iload 5, 2) := by decide +kernel
theorem dL_rests_34 : decode cL_rests 34 = .ok (.aload_n 0, 1) := by decide +kernel
theorem dL_rests_35 : decode cL_rests 35 = .ok (.iload 5, 2) := by decide +kernel
theorem dL_rests_37 : decode cL_rests 37 = .ok (.iconst 1, 1) := by decide +kernel
theorem dL_rests_38 : decode cL_rests 38 = .ok (.invokevirtual 34, 3) := by decide +kernel
theorem dL_rests_41 : decode cL_rests 41 = .ok (.i2l, 1) := by decide +kernel
theorem dL_rests_42 : decode cL_rests 42 = .ok (.lastore, 1) := by decide +kernel
theorem dL_rests_43 : decode cL_rests 43 = .ok (.iinc 5 1, 3) := by decide +kernel
theorem dL_rests_46 : decode cL_rests 46 = .ok (.goto (-34), 3) := by decide +kernel
theorem dL_rests_49 : decode cL_rests 49 = .ok (.iload_n 1, 1) := by decide +kernel
theorem dL_rests_50 : decode cL_rests 50 = .ok (.aload_n 3, 1) := by decide +kernel
theorem dL_rests_51 : decode cL_rests 51 = .ok (.aload 4, 2) := by decide +kernel
theorem dL_rests_53 : decode cL_rests 53 = .ok (.aload_n 2, 1) := by decide +kernel
theorem dL_rests_54 : decode cL_rests 54 = .ok (.invokestatic 39, 3) := by decide +kernel
theorem dL_rests_57 : decode cL_rests 57 = .ok (.lreturn, 1) := by decide +kernel
set_option maxRecDepth 20000 in
theorem ggL_allowed_L_least : GoodIn wsL_allowed wsL_least := goodIn_r _ [4] (by decide +kernel) (by decide +kernel)
set_option maxRecDepth 20000 in
theorem gL_allowed_L_least : GoodIn wsL_allowed (va_wsS RL 19 yL_least wsL_least) := goodIn_app (goodIn_of _ (by decide +kernel)) ggL_allowed_L_least
set_option maxRecDepth 20000 in
theorem ggL_allowed_L_most : GoodIn wsL_allowed wsL_most := goodIn_r _ [7] (by decide +kernel) (by decide +kernel)
set_option maxRecDepth 20000 in
theorem gL_allowed_L_most : GoodIn wsL_allowed (va_wsS RL 23 yL_most wsL_most) := goodIn_app (goodIn_of _ (by decide +kernel)) ggL_allowed_L_most
theorem dL_allowed_0 : decode cL_allowed 0 = .ok (.iconst 1, 1) := by decide +kernel
theorem dL_allowed_1 : decode cL_allowed 1 = .ok (.istore_n 2, 1) := by decide +kernel
theorem dL_allowed_2 : decode cL_allowed 2 = .ok (.iconst 0, 1) := by decide +kernel
theorem dL_allowed_3 : decode cL_allowed 3 = .ok (.istore_n 3, 1) := by decide +kernel
theorem dL_allowed_4 : decode cL_allowed 4 = .ok (.iload_n 3, 1) := by decide +kernel
theorem dL_allowed_5 : decode cL_allowed 5 = .ok (.aload_n 0, 1) := by decide +kernel
theorem dL_allowed_6 : decode cL_allowed 6 = .ok (.iconst 1, 1) := by decide +kernel
theorem dL_allowed_7 : decode cL_allowed 7 = .ok (.iaload, 1) := by decide +kernel
theorem dL_allowed_8 : decode cL_allowed 8 = .ok (.if_icmp .ge 51, 3) := by decide +kernel
theorem dL_allowed_11 : decode cL_allowed 11 = .ok (.iload_n 3, 1) := by decide +kernel
theorem dL_allowed_12 : decode cL_allowed 12 = .ok (.istore 4, 2) := by decide +kernel
theorem dL_allowed_14 : decode cL_allowed 14 = .ok (.iload 4, 2) := by decide +kernel
theorem dL_allowed_16 : decode cL_allowed 16 = .ok (.aload_n 0, 1) := by decide +kernel
theorem dL_allowed_17 : decode cL_allowed 17 = .ok (.iconst 1, 1) := by decide +kernel
theorem dL_allowed_18 : decode cL_allowed 18 = .ok (.iaload, 1) := by decide +kernel
theorem dL_allowed_19 : decode cL_allowed 19 = .ok (.if_icmp .ge 34, 3) := by decide +kernel
theorem dL_allowed_22 : decode cL_allowed 22 = .ok (.iload_n 2, 1) := by decide +kernel
theorem dL_allowed_23 : decode cL_allowed 23 = .ok (.ifCond .eq 22, 3) := by decide +kernel
theorem dL_allowed_26 : decode cL_allowed 26 = .ok (.aload_n 1, 1) := by decide +kernel
theorem dL_allowed_27 : decode cL_allowed 27 = .ok (.iload_n 3, 1) := by decide +kernel
theorem dL_allowed_28 : decode cL_allowed 28 = .ok (.invokestatic 19, 3) := by decide +kernel
theorem dL_allowed_31 : decode cL_allowed 31 = .ok (.aload_n 0, 1) := by decide +kernel
theorem dL_allowed_32 : decode cL_allowed 32 = .ok (.aload_n 1, 1) := by decide +kernel
theorem dL_allowed_33 : decode cL_allowed 33 = .ok (.iload 4, 2) := by decide +kernel
theorem dL_allowed_35 : decode cL_allowed 35 = .ok (.invokestatic 23, 3) := by decide +kernel
theorem dL_allowed_38 : decode cL_allowed 38 = .ok (.if_icmp .gt 7, 3) := by decide +kernel
theorem dL_allowed_41 : decode cL_allowed 41 = .ok (.iconst 1, 1) := by decide +kernel
theorem dL_allowed_42 : decode cL_allowed 42 = .ok (.goto 4, 3) := by decide +kernel
theorem dL_allowed_45 : decode cL_allowed 45 = .ok (.iconst 0, 1) := by decide +kernel
theorem dL_allowed_46 : decode cL_allowed 46 = .ok (.istore_n 2, 1) := by decide +kernel
theorem dL_allowed_47 : decode cL_allowed 47 = .ok (.iinc 4 1, 3) := by decide +kernel
theorem dL_allowed_50 : decode cL_allowed 50 = .ok (.goto (-36), 3) := by decide +kernel
theorem dL_allowed_53 : decode cL_allowed 53 = .ok (.iinc 3 1, 3) := by decide +kernel
theorem dL_allowed_56 : decode cL_allowed 56 = .ok (.goto (-52), 3) := by decide +kernel
theorem dL_allowed_59 : decode cL_allowed 59 = .ok (.iload_n 2, 1) := by decide +kernel
theorem dL_allowed_60 : decode cL_allowed 60 = .ok (.ireturn, 1) := by decide +kernel
set_option maxRecDepth 20000 in
theorem ggL_acts_L_low : GoodIn wsL_acts wsL_low := goodIn_r _ [8, 9] (by decide +kernel) (by decide +kernel)
set_option maxRecDepth 20000 in
theorem gL_acts_L_low : GoodIn wsL_acts (va_wsS RL 44 yL_low wsL_low) := goodIn_app (goodIn_of _ (by decide +kernel)) ggL_acts_L_low
set_option maxRecDepth 20000 in
theorem ggL_acts_X3_plate : GoodIn wsL_acts wsX3_plate := goodIn_r _ [14, 15, 16, 17, 13, 18, 19, 20, 21, 22, 23, 24, 25, 26, 27, 28, 29, 30, 31, 32, 33, 34, 35, 36, 37, 38, 39, 40, 41, 42, 43, 44, 45, 46, 47, 48, 49, 50, 51, 52, 53, 54, 55, 56, 57, 58, 59, 60, 61, 62, 63, 64, 65, 66, 67, 68, 69, 70, 71, 72, 166, 167, 168, 169, 170, 171, 172, 173, 174, 175, 176, 177, 178, 179] (by decide +kernel) (by decide +kernel)
set_option maxRecDepth 20000 in
theorem gL_acts_X3_plate : GoodIn wsL_acts (wsV RL 47 RX3 yX3_plate wsX3_plate) := goodIn_app (goodIn_of _ (by decide +kernel)) ggL_acts_X3_plate
set_option maxRecDepth 20000 in
theorem ggL_acts_X3_spring : GoodIn wsL_acts wsX3_spring := goodIn_r _ [76, 15, 16, 17, 13, 18, 19, 20, 21, 22, 23, 24, 25, 26, 27, 28, 29, 30, 31, 32, 33, 34, 35, 77, 78, 79, 80, 81, 82, 83, 84, 85, 45, 46, 47, 48, 49, 50, 51, 52, 53, 54, 55, 56, 57, 58, 59, 60, 61, 62, 63, 64, 65, 66, 67, 68, 69, 70, 71, 72, 41, 42, 43, 44, 166, 167, 168, 169, 170, 171, 172, 173, 174, 175, 176, 177, 178, 179] (by decide +kernel) (by decide +kernel)
set_option maxRecDepth 20000 in
theorem gL_acts_X3_spring : GoodIn wsL_acts (wsV RL 52 RX3 yX3_spring wsX3_spring) := goodIn_app (goodIn_of _ (by decide +kernel)) ggL_acts_X3_spring
set_option maxRecDepth 20000 in
theorem ggL_acts_X3_width : GoodIn wsL_acts wsX3_width := goodIn_r _ [89, 15, 16, 17, 13, 18, 19, 20, 21, 22, 23, 24, 25, 26, 27, 28, 29, 30, 31, 32, 33, 34, 35, 90, 91, 92, 93, 81, 94, 95, 96, 97, 98, 45, 46, 47, 48, 49, 50, 51, 52, 53, 54, 55, 56, 57, 58, 59, 60, 61, 62, 63, 64, 65, 66, 67, 68, 69, 70, 71, 72, 41, 42, 43, 44, 166, 167, 168, 169, 170, 171, 172, 173, 174, 175, 176, 177, 178, 179] (by decide +kernel) (by decide +kernel)
set_option maxRecDepth 20000 in
theorem gL_acts_X3_width : GoodIn wsL_acts (wsV RL 56 RX3 yX3_width wsX3_width) := goodIn_app (goodIn_of _ (by decide +kernel)) ggL_acts_X3_width
set_option maxRecDepth 20000 in
theorem ggL_acts_X3_load : GoodIn wsL_acts wsX3_load := goodIn_r _ [102, 15, 16, 17, 13, 18, 19, 20, 21, 22, 23, 24, 25, 26, 27, 28, 29, 30, 31, 32, 33, 34, 35, 103, 104, 105, 106, 81, 107, 108, 109, 110, 45, 46, 47, 48, 49, 50, 51, 52, 53, 54, 55, 56, 57, 58, 59, 60, 61, 62, 63, 64, 65, 66, 67, 68, 69, 70, 71, 72, 41, 42, 43, 44, 166, 167, 168, 169, 170, 171, 172, 173, 174, 175, 176, 177, 178, 179] (by decide +kernel) (by decide +kernel)
set_option maxRecDepth 20000 in
theorem gL_acts_X3_load : GoodIn wsL_acts (wsV RL 61 RX3 yX3_load wsX3_load) := goodIn_app (goodIn_of _ (by decide +kernel)) ggL_acts_X3_load
set_option maxRecDepth 20000 in
theorem ggL_acts_X3_stop : GoodIn wsL_acts wsX3_stop := goodIn_r _ [114, 15, 16, 17, 13, 18, 19, 20, 21, 22, 23, 24, 25, 26, 27, 28, 29, 30, 31, 32, 33, 34, 35, 115, 116, 117, 118, 81, 94, 107, 108, 109, 110, 119, 120, 121, 122, 123, 124, 125, 126, 127, 128, 129, 130, 131, 132, 133, 134, 135, 136, 137, 138, 139, 140, 45, 46, 47, 48, 49, 50, 51, 52, 53, 54, 55, 56, 57, 58, 59, 60, 61, 62, 63, 64, 65, 66, 67, 68, 69, 70, 71, 72, 41, 42, 43, 44, 166, 167, 168, 169, 170, 171, 172, 173, 174, 175, 176, 177, 178, 179] (by decide +kernel) (by decide +kernel)
set_option maxRecDepth 20000 in
theorem gL_acts_X3_stop : GoodIn wsL_acts (wsV RL 65 RX3 yX3_stop wsX3_stop) := goodIn_app (goodIn_of _ (by decide +kernel)) ggL_acts_X3_stop
set_option maxRecDepth 20000 in
theorem ggL_acts_X3_unstop : GoodIn wsL_acts wsX3_unstop := goodIn_r _ [144, 15, 16, 17, 13, 18, 19, 20, 21, 22, 23, 24, 25, 26, 27, 28, 29, 30, 31, 32, 33, 34, 35, 145, 146, 147, 148, 81, 94, 107, 108, 109, 110, 119, 120, 121, 122, 123, 124, 45, 46, 47, 48, 49, 50, 51, 52, 53, 54, 55, 56, 57, 58, 59, 60, 61, 62, 63, 64, 65, 66, 67, 68, 69, 70, 71, 72, 41, 42, 43, 44, 166, 167, 168, 169, 170, 171, 172, 173, 174, 175, 176, 177, 178, 179] (by decide +kernel) (by decide +kernel)
set_option maxRecDepth 20000 in
theorem gL_acts_X3_unstop : GoodIn wsL_acts (wsV RL 68 RX3 yX3_unstop wsX3_unstop) := goodIn_app (goodIn_of _ (by decide +kernel)) ggL_acts_X3_unstop
set_option maxRecDepth 20000 in
theorem ggL_acts_X3_drop : GoodIn wsL_acts wsX3_drop := goodIn_r _ [152, 15, 16, 17, 13, 18, 19, 20, 21, 22, 23, 24, 25, 26, 27, 28, 29, 30, 31, 32, 33, 34, 35, 153, 154, 155, 156, 81, 107, 108, 109, 110, 45, 46, 47, 48, 49, 50, 51, 52, 53, 54, 55, 56, 57, 58, 59, 60, 61, 62, 63, 64, 65, 66, 67, 68, 69, 70, 71, 72, 41, 42, 43, 44, 166, 167, 168, 169, 170, 171, 172, 173, 174, 175, 176, 177, 178, 179] (by decide +kernel) (by decide +kernel)
set_option maxRecDepth 20000 in
theorem gL_acts_X3_drop : GoodIn wsL_acts (wsV RL 71 RX3 yX3_drop wsX3_drop) := goodIn_app (goodIn_of _ (by decide +kernel)) ggL_acts_X3_drop
set_option maxRecDepth 20000 in
theorem ggL_acts_L_allowed : GoodIn wsL_acts wsL_allowed := goodIn_r _ [159, 160, 161, 7, 162, 163, 164, 165] (by decide +kernel) (by decide +kernel)
set_option maxRecDepth 20000 in
theorem gL_acts_L_allowed : GoodIn wsL_acts (va_wsS RL 74 yL_allowed wsL_allowed) := goodIn_app (goodIn_of _ (by decide +kernel)) ggL_acts_L_allowed
theorem dL_acts_0 : decode cL_acts 0 = .ok (.iload_n 3, 1) := by decide +kernel
theorem dL_acts_1 : decode cL_acts 1 = .ok (.iconst 5, 1) := by decide +kernel
theorem dL_acts_2 : decode cL_acts 2 = .ok (.ishr, 1) := by decide +kernel
theorem dL_acts_3 : decode cL_acts 3 = .ok (.ldc 43, 2) := by decide +kernel
theorem dL_acts_5 : decode cL_acts 5 = .ok (.invokestatic 44, 3) := by decide +kernel
theorem dL_acts_8 : decode cL_acts 8 = .ok (.istore 4, 2) := by decide +kernel
theorem dL_acts_10 : decode cL_acts 10 = .ok (.iload_n 3, 1) := by decide +kernel
theorem dL_acts_11 : decode cL_acts 11 = .ok (.bipush 24, 2) := by decide +kernel
theorem dL_acts_13 : decode cL_acts 13 = .ok (.invokestatic 44, 3) := by decide +kernel
theorem dL_acts_16 : decode cL_acts 16 = .ok (.istore 5, 2) := by decide +kernel
theorem dL_acts_18 : decode cL_acts 18 = .ok (.aload_n 1, 1) := by decide +kernel
theorem dL_acts_19 : decode cL_acts 19 = .ok (.iconst 1, 1) := by decide +kernel
theorem dL_acts_20 : decode cL_acts 20 = .ok (.iaload, 1) := by decide +kernel
theorem dL_acts_21 : decode cL_acts 21 = .ok (.istore 6, 2) := by decide +kernel
theorem dL_acts_23 : decode cL_acts 23 = .ok (.iload 5, 2) := by decide +kernel
theorem dL_acts_25 : decode cL_acts 25 = .ok (.ifCond .eq 15, 3) := by decide +kernel
theorem dL_acts_28 : decode cL_acts 28 = .ok (.iload 6, 2) := by decide +kernel
theorem dL_acts_30 : decode cL_acts 30 = .ok (.ifCond .ne 93, 3) := by decide +kernel
theorem dL_acts_33 : decode cL_acts 33 = .ok (.iload 5, 2) := by decide +kernel
theorem dL_acts_35 : decode cL_acts 35 = .ok (.bipush 8, 2) := by decide +kernel
theorem dL_acts_37 : decode cL_acts 37 = .ok (.if_icmp .ge 86, 3) := by decide +kernel
theorem dL_acts_40 : decode cL_acts 40 = .ok (.iload 6, 2) := by decide +kernel
theorem dL_acts_42 : decode cL_acts 42 = .ok (.iconst 4, 1) := by decide +kernel
theorem dL_acts_43 : decode cL_acts 43 = .ok (.if_icmp .ne 18, 3) := by decide +kernel
theorem dL_acts_46 : decode cL_acts 46 = .ok (.aload_n 0, 1) := by decide +kernel
theorem dL_acts_47 : decode cL_acts 47 = .ok (.invokevirtual 47, 3) := by decide +kernel
theorem dL_acts_50 : decode cL_acts 50 = .ok (.ldc 51, 2) := by decide +kernel
theorem dL_acts_52 : decode cL_acts 52 = .ok (.if_icmp .ne 7, 3) := by decide +kernel
theorem dL_acts_55 : decode cL_acts 55 = .ok (.iconst 1, 1) := by decide +kernel
theorem dL_acts_56 : decode cL_acts 56 = .ok (.goto 4, 3) := by decide +kernel
theorem dL_acts_59 : decode cL_acts 59 = .ok (.iconst 0, 1) := by decide +kernel
theorem dL_acts_60 : decode cL_acts 60 = .ok (.ireturn, 1) := by decide +kernel
theorem dL_acts_61 : decode cL_acts 61 = .ok (.aload_n 2, 1) := by decide +kernel
theorem dL_acts_62 : decode cL_acts 62 = .ok (.iload 6, 2) := by decide +kernel
theorem dL_acts_64 : decode cL_acts 64 = .ok (.iconst 1, 1) := by decide +kernel
theorem dL_acts_65 : decode cL_acts 65 = .ok (.iadd, 1) := by decide +kernel
theorem dL_acts_66 : decode cL_acts 66 = .ok (.iconst 1, 1) := by decide +kernel
theorem dL_acts_67 : decode cL_acts 67 = .ok (.iastore, 1) := by decide +kernel
theorem dL_acts_68 : decode cL_acts 68 = .ok (.aload_n 2, 1) := by decide +kernel
theorem dL_acts_69 : decode cL_acts 69 = .ok (.bipush 6, 2) := by decide +kernel
theorem dL_acts_71 : decode cL_acts 71 = .ok (.iload 6, 2) := by decide +kernel
theorem dL_acts_73 : decode cL_acts 73 = .ok (.iadd, 1) := by decide +kernel
theorem dL_acts_74 : decode cL_acts 74 = .ok (.bipush 10, 2) := by decide +kernel
theorem dL_acts_76 : decode cL_acts 76 = .ok (.iastore, 1) := by decide +kernel
theorem dL_acts_77 : decode cL_acts 77 = .ok (.aload_n 2, 1) := by decide +kernel
theorem dL_acts_78 : decode cL_acts 78 = .ok (.bipush 10, 2) := by decide +kernel
theorem dL_acts_80 : decode cL_acts 80 = .ok (.iload 6, 2) := by decide +kernel
theorem dL_acts_82 : decode cL_acts 82 = .ok (.iadd, 1) := by decide +kernel
theorem dL_acts_83 : decode cL_acts 83 = .ok (.iconst 0, 1) := by decide +kernel
theorem dL_acts_84 : decode cL_acts 84 = .ok (.iastore, 1) := by decide +kernel
theorem dL_acts_85 : decode cL_acts 85 = .ok (.aload_n 2, 1) := by decide +kernel
theorem dL_acts_86 : decode cL_acts 86 = .ok (.bipush 14, 2) := by decide +kernel
theorem dL_acts_88 : decode cL_acts 88 = .ok (.iload 6, 2) := by decide +kernel
theorem dL_acts_90 : decode cL_acts 90 = .ok (.iadd, 1) := by decide +kernel
theorem dL_acts_91 : decode cL_acts 91 = .ok (.iconst (-1), 1) := by decide +kernel
theorem dL_acts_92 : decode cL_acts 92 = .ok (.iastore, 1) := by decide +kernel
theorem dL_acts_93 : decode cL_acts 93 = .ok (.aload_n 2, 1) := by decide +kernel
theorem dL_acts_94 : decode cL_acts 94 = .ok (.bipush 18, 2) := by decide +kernel
theorem dL_acts_96 : decode cL_acts 96 = .ok (.iload 6, 2) := by decide +kernel
theorem dL_acts_98 : decode cL_acts 98 = .ok (.iadd, 1) := by decide +kernel
theorem dL_acts_99 : decode cL_acts 99 = .ok (.iconst (-1), 1) := by decide +kernel
theorem dL_acts_100 : decode cL_acts 100 = .ok (.iastore, 1) := by decide +kernel
theorem dL_acts_101 : decode cL_acts 101 = .ok (.aload_n 1, 1) := by decide +kernel
theorem dL_acts_102 : decode cL_acts 102 = .ok (.iconst 1, 1) := by decide +kernel
theorem dL_acts_103 : decode cL_acts 103 = .ok (.dup2, 1) := by decide +kernel
theorem dL_acts_104 : decode cL_acts 104 = .ok (.iaload, 1) := by decide +kernel
theorem dL_acts_105 : decode cL_acts 105 = .ok (.iconst 1, 1) := by decide +kernel
theorem dL_acts_106 : decode cL_acts 106 = .ok (.iadd, 1) := by decide +kernel
theorem dL_acts_107 : decode cL_acts 107 = .ok (.iastore, 1) := by decide +kernel
theorem dL_acts_108 : decode cL_acts 108 = .ok (.aload_n 0, 1) := by decide +kernel
theorem dL_acts_109 : decode cL_acts 109 = .ok (.invokevirtual 47, 3) := by decide +kernel
theorem dL_acts_112 : decode cL_acts 112 = .ok (.iload 6, 2) := by decide +kernel
theorem dL_acts_114 : decode cL_acts 114 = .ok (.if_icmp .ne 7, 3) := by decide +kernel
theorem dL_acts_117 : decode cL_acts 117 = .ok (.iconst 1, 1) := by decide +kernel
theorem dL_acts_118 : decode cL_acts 118 = .ok (.goto 4, 3) := by decide +kernel
theorem dL_acts_121 : decode cL_acts 121 = .ok (.iconst 0, 1) := by decide +kernel
theorem dL_acts_122 : decode cL_acts 122 = .ok (.ireturn, 1) := by decide +kernel
theorem dL_acts_123 : decode cL_acts 123 = .ok (.iload 5, 2) := by decide +kernel
theorem dL_acts_125 : decode cL_acts 125 = .ok (.iconst 4, 1) := by decide +kernel
theorem dL_acts_126 : decode cL_acts 126 = .ok (.if_icmp .ge 94, 3) := by decide +kernel
theorem dL_acts_129 : decode cL_acts 129 = .ok (.iload 4, 2) := by decide +kernel
theorem dL_acts_131 : decode cL_acts 131 = .ok (.iload 6, 2) := by decide +kernel
theorem dL_acts_133 : decode cL_acts 133 = .ok (.iconst 1, 1) := by decide +kernel
theorem dL_acts_134 : decode cL_acts 134 = .ok (.iadd, 1) := by decide +kernel
theorem dL_acts_135 : decode cL_acts 135 = .ok (.irem, 1) := by decide +kernel
theorem dL_acts_136 : decode cL_acts 136 = .ok (.istore 7, 2) := by decide +kernel
theorem dL_acts_138 : decode cL_acts 138 = .ok (.bipush 100, 2) := by decide +kernel
theorem dL_acts_140 : decode cL_acts 140 = .ok (.aload_n 2, 1) := by decide +kernel
theorem dL_acts_141 : decode cL_acts 141 = .ok (.iload 7, 2) := by decide +kernel
theorem dL_acts_143 : decode cL_acts 143 = .ok (.iaload, 1) := by decide +kernel
theorem dL_acts_144 : decode cL_acts 144 = .ok (.imul, 1) := by decide +kernel
theorem dL_acts_145 : decode cL_acts 145 = .ok (.aload_n 2, 1) := by decide +kernel
theorem dL_acts_146 : decode cL_acts 146 = .ok (.iconst 5, 1) := by decide +kernel
theorem dL_acts_147 : decode cL_acts 147 = .ok (.iload 7, 2) := by decide +kernel
theorem dL_acts_149 : decode cL_acts 149 = .ok (.iadd, 1) := by decide +kernel
theorem dL_acts_150 : decode cL_acts 150 = .ok (.iaload, 1) := by decide +kernel
theorem dL_acts_151 : decode cL_acts 151 = .ok (.iadd, 1) := by decide +kernel
theorem dL_acts_152 : decode cL_acts 152 = .ok (.istore 8, 2) := by decide +kernel
theorem dL_acts_154 : decode cL_acts 154 = .ok (.aload_n 2, 1) := by decide +kernel
theorem dL_acts_155 : decode cL_acts 155 = .ok (.iload 7, 2) := by decide +kernel
theorem dL_acts_157 : decode cL_acts 157 = .ok (.iconst 1, 1) := by decide +kernel
theorem dL_acts_158 : decode cL_acts 158 = .ok (.iload 4, 2) := by decide +kernel
theorem dL_acts_160 : decode cL_acts 160 = .ok (.iconst 5, 1) := by decide +kernel
theorem dL_acts_161 : decode cL_acts 161 = .ok (.idiv, 1) := by decide +kernel
theorem dL_acts_162 : decode cL_acts 162 = .ok (.bipush 9, 2) := by decide +kernel
theorem dL_acts_164 : decode cL_acts 164 = .ok (.irem, 1) := by decide +kernel
theorem dL_acts_165 : decode cL_acts 165 = .ok (.iadd, 1) := by decide +kernel
theorem dL_acts_166 : decode cL_acts 166 = .ok (.iastore, 1) := by decide +kernel
theorem dL_acts_167 : decode cL_acts 167 = .ok (.aload_n 2, 1) := by decide +kernel
theorem dL_acts_168 : decode cL_acts 168 = .ok (.iconst 5, 1) := by decide +kernel
theorem dL_acts_169 : decode cL_acts 169 = .ok (.iload 7, 2) := by decide +kernel
theorem dL_acts_171 : decode cL_acts 171 = .ok (.iadd, 1) := by decide +kernel
theorem dL_acts_172 : decode cL_acts 172 = .ok (.iload 4, 2) := by decide +kernel
theorem dL_acts_174 : decode cL_acts 174 = .ok (.bipush 45, 2) := by decide +kernel
theorem dL_acts_176 : decode cL_acts 176 = .ok (.idiv, 1) := by decide +kernel
theorem dL_acts_177 : decode cL_acts 177 = .ok (.iload 4, 2) := by decide +kernel
theorem dL_acts_179 : decode cL_acts 179 = .ok (.iconst 3, 1) := by decide +kernel
theorem dL_acts_180 : decode cL_acts 180 = .ok (.irem, 1) := by decide +kernel
theorem dL_acts_181 : decode cL_acts 181 = .ok (.ifCond .ne 8, 3) := by decide +kernel
theorem dL_acts_184 : decode cL_acts 184 = .ok (.bipush 51, 2) := by decide +kernel
theorem dL_acts_186 : decode cL_acts 186 = .ok (.goto 5, 3) := by decide +kernel
theorem dL_acts_189 : decode cL_acts 189 = .ok (.bipush 25, 2) := by decide +kernel
theorem dL_acts_191 : decode cL_acts 191 = .ok (.irem, 1) := by decide +kernel
theorem dL_acts_192 : decode cL_acts 192 = .ok (.iastore, 1) := by decide +kernel
theorem dL_acts_193 : decode cL_acts 193 = .ok (.aload_n 0, 1) := by decide +kernel
theorem dL_acts_194 : decode cL_acts 194 = .ok (.iload 7, 2) := by decide +kernel
theorem dL_acts_196 : decode cL_acts 196 = .ok (.aload_n 2, 1) := by decide +kernel
theorem dL_acts_197 : decode cL_acts 197 = .ok (.iload 7, 2) := by decide +kernel
theorem dL_acts_199 : decode cL_acts 199 = .ok (.iaload, 1) := by decide +kernel
theorem dL_acts_200 : decode cL_acts 200 = .ok (.aload_n 2, 1) := by decide +kernel
theorem dL_acts_201 : decode cL_acts 201 = .ok (.iconst 5, 1) := by decide +kernel
theorem dL_acts_202 : decode cL_acts 202 = .ok (.iload 7, 2) := by decide +kernel
theorem dL_acts_204 : decode cL_acts 204 = .ok (.iadd, 1) := by decide +kernel
theorem dL_acts_205 : decode cL_acts 205 = .ok (.iaload, 1) := by decide +kernel
theorem dL_acts_206 : decode cL_acts 206 = .ok (.invokevirtual 52, 3) := by decide +kernel
theorem dL_acts_209 : decode cL_acts 209 = .ok (.iload 8, 2) := by decide +kernel
theorem dL_acts_211 : decode cL_acts 211 = .ok (.if_icmp .ne 7, 3) := by decide +kernel
theorem dL_acts_214 : decode cL_acts 214 = .ok (.iconst 1, 1) := by decide +kernel
theorem dL_acts_215 : decode cL_acts 215 = .ok (.goto 4, 3) := by decide +kernel
theorem dL_acts_218 : decode cL_acts 218 = .ok (.iconst 0, 1) := by decide +kernel
theorem dL_acts_219 : decode cL_acts 219 = .ok (.ireturn, 1) := by decide +kernel
theorem dL_acts_220 : decode cL_acts 220 = .ok (.iload 5, 2) := by decide +kernel
theorem dL_acts_222 : decode cL_acts 222 = .ok (.iconst 4, 1) := by decide +kernel
theorem dL_acts_223 : decode cL_acts 223 = .ok (.if_icmp .ne 115, 3) := by decide +kernel
theorem dL_acts_226 : decode cL_acts 226 = .ok (.bipush 10, 2) := by decide +kernel
theorem dL_acts_228 : decode cL_acts 228 = .ok (.iload 4, 2) := by decide +kernel
theorem dL_acts_230 : decode cL_acts 230 = .ok (.bipush 90, 2) := by decide +kernel
theorem dL_acts_232 : decode cL_acts 232 = .ok (.irem, 1) := by decide +kernel
theorem dL_acts_233 : decode cL_acts 233 = .ok (.iadd, 1) := by decide +kernel
theorem dL_acts_234 : decode cL_acts 234 = .ok (.istore 7, 2) := by decide +kernel
theorem dL_acts_236 : decode cL_acts 236 = .ok (.iconst 1, 1) := by decide +kernel
theorem dL_acts_237 : decode cL_acts 237 = .ok (.istore 8, 2) := by decide +kernel
theorem dL_acts_239 : decode cL_acts 239 = .ok (.iconst 0, 1) := by decide +kernel
theorem dL_acts_240 : decode cL_acts 240 = .ok (.istore 9, 2) := by decide +kernel
theorem dL_acts_242 : decode cL_acts 242 = .ok (.iload 9, 2) := by decide +kernel
theorem dL_acts_244 : decode cL_acts 244 = .ok (.iload 6, 2) := by decide +kernel
theorem dL_acts_246 : decode cL_acts 246 = .ok (.if_icmp .ge 45, 3) := by decide +kernel
theorem dL_acts_249 : decode cL_acts 249 = .ok (.iload 8, 2) := by decide +kernel
theorem dL_acts_251 : decode cL_acts 251 = .ok (.ifCond .eq 31, 3) := by decide +kernel
theorem dL_acts_254 : decode cL_acts 254 = .ok (.aload_n 2, 1) := by decide +kernel
theorem dL_acts_255 : decode cL_acts 255 = .ok (.bipush 14, 2) := by decide +kernel
theorem dL_acts_257 : decode cL_acts 257 = .ok (.iload 9, 2) := by decide +kernel
theorem dL_acts_259 : decode cL_acts 259 = .ok (.iadd, 1) := by decide +kernel
theorem dL_acts_260 : decode cL_acts 260 = .ok (.iaload, 1) := by decide +kernel
theorem dL_acts_261 : decode cL_acts 261 = .ok (.iload 7, 2) := by decide +kernel
theorem dL_acts_263 : decode cL_acts 263 = .ok (.if_icmp .gt 19, 3) := by decide +kernel
theorem dL_acts_266 : decode cL_acts 266 = .ok (.aload_n 2, 1) := by decide +kernel
theorem dL_acts_267 : decode cL_acts 267 = .ok (.bipush 18, 2) := by decide +kernel
theorem dL_acts_269 : decode cL_acts 269 = .ok (.iload 9, 2) := by decide +kernel
theorem dL_acts_271 : decode cL_acts 271 = .ok (.iadd, 1) := by decide +kernel
theorem dL_acts_272 : decode cL_acts 272 = .ok (.iaload, 1) := by decide +kernel
theorem dL_acts_273 : decode cL_acts 273 = .ok (.iload 7, 2) := by decide +kernel
theorem dL_acts_275 : decode cL_acts 275 = .ok (.if_icmp .gt 7, 3) := by decide +kernel
theorem dL_acts_278 : decode cL_acts 278 = .ok (.iconst 1, 1) := by decide +kernel
theorem dL_acts_279 : decode cL_acts 279 = .ok (.goto 4, 3) := by decide +kernel
theorem dL_acts_282 : decode cL_acts 282 = .ok (.iconst 0, 1) := by decide +kernel
theorem dL_acts_283 : decode cL_acts 283 = .ok (.istore 8, 2) := by decide +kernel
theorem dL_acts_285 : decode cL_acts 285 = .ok (.iinc 9 1, 3) := by decide +kernel
theorem dL_acts_288 : decode cL_acts 288 = .ok (.goto (-46), 3) := by decide +kernel
theorem dL_acts_291 : decode cL_acts 291 = .ok (.aload_n 1, 1) := by decide +kernel
theorem dL_acts_292 : decode cL_acts 292 = .ok (.iconst 0, 1) := by decide +kernel
theorem dL_acts_293 : decode cL_acts 293 = .ok (.iaload, 1) := by decide +kernel
theorem dL_acts_294 : decode cL_acts 294 = .ok (.istore 9, 2) := by decide +kernel
theorem dL_acts_296 : decode cL_acts 296 = .ok (.aload_n 1, 1) := by decide +kernel
theorem dL_acts_297 : decode cL_acts 297 = .ok (.iconst 0, 1) := by decide +kernel
theorem dL_acts_298 : decode cL_acts 298 = .ok (.iload 8, 2) := by decide +kernel
theorem dL_acts_300 : decode cL_acts 300 = .ok (.ifCond .eq 8, 3) := by decide +kernel
theorem dL_acts_303 : decode cL_acts 303 = .ok (.iload 7, 2) := by decide +kernel
theorem dL_acts_305 : decode cL_acts 305 = .ok (.goto 5, 3) := by decide +kernel
theorem dL_acts_308 : decode cL_acts 308 = .ok (.iload 9, 2) := by decide +kernel
theorem dL_acts_310 : decode cL_acts 310 = .ok (.iastore, 1) := by decide +kernel
theorem dL_acts_311 : decode cL_acts 311 = .ok (.aload_n 0, 1) := by decide +kernel
theorem dL_acts_312 : decode cL_acts 312 = .ok (.iload 7, 2) := by decide +kernel
theorem dL_acts_314 : decode cL_acts 314 = .ok (.invokevirtual 56, 3) := by decide +kernel
theorem dL_acts_317 : decode cL_acts 317 = .ok (.iload 8, 2) := by decide +kernel
theorem dL_acts_319 : decode cL_acts 319 = .ok (.ifCond .eq 8, 3) := by decide +kernel
theorem dL_acts_322 : decode cL_acts 322 = .ok (.iload 9, 2) := by decide +kernel
theorem dL_acts_324 : decode cL_acts 324 = .ok (.goto 5, 3) := by decide +kernel
theorem dL_acts_327 : decode cL_acts 327 = .ok (.ldc 60, 2) := by decide +kernel
theorem dL_acts_329 : decode cL_acts 329 = .ok (.if_icmp .ne 7, 3) := by decide +kernel
theorem dL_acts_332 : decode cL_acts 332 = .ok (.iconst 1, 1) := by decide +kernel
theorem dL_acts_333 : decode cL_acts 333 = .ok (.goto 4, 3) := by decide +kernel
theorem dL_acts_336 : decode cL_acts 336 = .ok (.iconst 0, 1) := by decide +kernel
theorem dL_acts_337 : decode cL_acts 337 = .ok (.ireturn, 1) := by decide +kernel
theorem dL_acts_338 : decode cL_acts 338 = .ok (.iload 6, 2) := by decide +kernel
theorem dL_acts_340 : decode cL_acts 340 = .ok (.ifCond .ne 53, 3) := by decide +kernel
theorem dL_acts_343 : decode cL_acts 343 = .ok (.aload_n 0, 1) := by decide +kernel
theorem dL_acts_344 : decode cL_acts 344 = .ok (.iconst 0, 1) := by decide +kernel
theorem dL_acts_345 : decode cL_acts 345 = .ok (.iconst 0, 1) := by decide +kernel
theorem dL_acts_346 : decode cL_acts 346 = .ok (.invokevirtual 61, 3) := by decide +kernel
theorem dL_acts_349 : decode cL_acts 349 = .ok (.ldc 64, 2) := by decide +kernel
theorem dL_acts_351 : decode cL_acts 351 = .ok (.if_icmp .ne 40, 3) := by decide +kernel
theorem dL_acts_354 : decode cL_acts 354 = .ok (.aload_n 0, 1) := by decide +kernel
theorem dL_acts_355 : decode cL_acts 355 = .ok (.iconst 0, 1) := by decide +kernel
theorem dL_acts_356 : decode cL_acts 356 = .ok (.iconst 0, 1) := by decide +kernel
theorem dL_acts_357 : decode cL_acts 357 = .ok (.iconst 0, 1) := by decide +kernel
theorem dL_acts_358 : decode cL_acts 358 = .ok (.invokevirtual 65, 3) := by decide +kernel
theorem dL_acts_361 : decode cL_acts 361 = .ok (.ldc 64, 2) := by decide +kernel
theorem dL_acts_363 : decode cL_acts 363 = .ok (.if_icmp .ne 28, 3) := by decide +kernel
theorem dL_acts_366 : decode cL_acts 366 = .ok (.aload_n 0, 1) := by decide +kernel
theorem dL_acts_367 : decode cL_acts 367 = .ok (.iconst 0, 1) := by decide +kernel
theorem dL_acts_368 : decode cL_acts 368 = .ok (.iconst 0, 1) := by decide +kernel
theorem dL_acts_369 : decode cL_acts 369 = .ok (.invokevirtual 68, 3) := by decide +kernel
theorem dL_acts_372 : decode cL_acts 372 = .ok (.ldc 64, 2) := by decide +kernel
theorem dL_acts_374 : decode cL_acts 374 = .ok (.if_icmp .ne 17, 3) := by decide +kernel
theorem dL_acts_377 : decode cL_acts 377 = .ok (.aload_n 0, 1) := by decide +kernel
theorem dL_acts_378 : decode cL_acts 378 = .ok (.iconst 0, 1) := by decide +kernel
theorem dL_acts_379 : decode cL_acts 379 = .ok (.invokevirtual 71, 3) := by decide +kernel
theorem dL_acts_382 : decode cL_acts 382 = .ok (.ldc 64, 2) := by decide +kernel
theorem dL_acts_384 : decode cL_acts 384 = .ok (.if_icmp .ne 7, 3) := by decide +kernel
theorem dL_acts_387 : decode cL_acts 387 = .ok (.iconst 1, 1) := by decide +kernel
theorem dL_acts_388 : decode cL_acts 388 = .ok (.goto 4, 3) := by decide +kernel
theorem dL_acts_391 : decode cL_acts 391 = .ok (.iconst 0, 1) := by decide +kernel
theorem dL_acts_392 : decode cL_acts 392 = .ok (.ireturn, 1) := by decide +kernel
theorem dL_acts_393 : decode cL_acts 393 = .ok (.iload 4, 2) := by decide +kernel
theorem dL_acts_395 : decode cL_acts 395 = .ok (.iload 6, 2) := by decide +kernel
theorem dL_acts_397 : decode cL_acts 397 = .ok (.irem, 1) := by decide +kernel
theorem dL_acts_398 : decode cL_acts 398 = .ok (.istore 7, 2) := by decide +kernel
theorem dL_acts_400 : decode cL_acts 400 = .ok (.iload 5, 2) := by decide +kernel
theorem dL_acts_402 : decode cL_acts 402 = .ok (.bipush 11, 2) := by decide +kernel
theorem dL_acts_404 : decode cL_acts 404 = .ok (.if_icmp .ge 91, 3) := by decide +kernel
theorem dL_acts_407 : decode cL_acts 407 = .ok (.aload_n 2, 1) := by decide +kernel
theorem dL_acts_408 : decode cL_acts 408 = .ok (.bipush 10, 2) := by decide +kernel
theorem dL_acts_410 : decode cL_acts 410 = .ok (.iload 7, 2) := by decide +kernel
theorem dL_acts_412 : decode cL_acts 412 = .ok (.iadd, 1) := by decide +kernel
theorem dL_acts_413 : decode cL_acts 413 = .ok (.iaload, 1) := by decide +kernel
theorem dL_acts_414 : decode cL_acts 414 = .ok (.istore 8, 2) := by decide +kernel
theorem dL_acts_416 : decode cL_acts 416 = .ok (.aload_n 2, 1) := by decide +kernel
theorem dL_acts_417 : decode cL_acts 417 = .ok (.bipush 10, 2) := by decide +kernel
theorem dL_acts_419 : decode cL_acts 419 = .ok (.iload 7, 2) := by decide +kernel
theorem dL_acts_421 : decode cL_acts 421 = .ok (.iadd, 1) := by decide +kernel
theorem dL_acts_422 : decode cL_acts 422 = .ok (.iload 4, 2) := by decide +kernel
theorem dL_acts_424 : decode cL_acts 424 = .ok (.iconst 4, 1) := by decide +kernel
theorem dL_acts_425 : decode cL_acts 425 = .ok (.idiv, 1) := by decide +kernel
theorem dL_acts_426 : decode cL_acts 426 = .ok (.sipush 199, 3) := by decide +kernel
theorem dL_acts_429 : decode cL_acts 429 = .ok (.irem, 1) := by decide +kernel
theorem dL_acts_430 : decode cL_acts 430 = .ok (.bipush 99, 2) := by decide +kernel
theorem dL_acts_432 : decode cL_acts 432 = .ok (.isub, 1) := by decide +kernel
theorem dL_acts_433 : decode cL_acts 433 = .ok (.iastore, 1) := by decide +kernel
theorem dL_acts_434 : decode cL_acts 434 = .ok (.aload_n 2, 1) := by decide +kernel
theorem dL_acts_435 : decode cL_acts 435 = .ok (.bipush 10, 2) := by decide +kernel
theorem dL_acts_437 : decode cL_acts 437 = .ok (.iload 7, 2) := by decide +kernel
theorem dL_acts_439 : decode cL_acts 439 = .ok (.iadd, 1) := by decide +kernel
theorem dL_acts_440 : decode cL_acts 440 = .ok (.iload 4, 2) := by decide +kernel
theorem dL_acts_442 : decode cL_acts 442 = .ok (.iconst 3, 1) := by decide +kernel
theorem dL_acts_443 : decode cL_acts 443 = .ok (.irem, 1) := by decide +kernel
theorem dL_acts_444 : decode cL_acts 444 = .ok (.ifCond .ne 13, 3) := by decide +kernel
theorem dL_acts_447 : decode cL_acts 447 = .ok (.aload_n 2, 1) := by decide +kernel
theorem dL_acts_448 : decode cL_acts 448 = .ok (.bipush 10, 2) := by decide +kernel
theorem dL_acts_450 : decode cL_acts 450 = .ok (.iload 7, 2) := by decide +kernel
theorem dL_acts_452 : decode cL_acts 452 = .ok (.iadd, 1) := by decide +kernel
theorem dL_acts_453 : decode cL_acts 453 = .ok (.iaload, 1) := by decide +kernel
theorem dL_acts_454 : decode cL_acts 454 = .ok (.goto 12, 3) := by decide +kernel
theorem dL_acts_457 : decode cL_acts 457 = .ok (.aload_n 2, 1) := by decide +kernel
theorem dL_acts_458 : decode cL_acts 458 = .ok (.bipush 10, 2) := by decide +kernel
theorem dL_acts_460 : decode cL_acts 460 = .ok (.iload 7, 2) := by decide +kernel
theorem dL_acts_462 : decode cL_acts 462 = .ok (.iadd, 1) := by decide +kernel
theorem dL_acts_463 : decode cL_acts 463 = .ok (.iaload, 1) := by decide +kernel
theorem dL_acts_464 : decode cL_acts 464 = .ok (.iconst 5, 1) := by decide +kernel
theorem dL_acts_465 : decode cL_acts 465 = .ok (.idiv, 1) := by decide +kernel
theorem dL_acts_466 : decode cL_acts 466 = .ok (.iastore, 1) := by decide +kernel
theorem dL_acts_467 : decode cL_acts 467 = .ok (.aload_n 0, 1) := by decide +kernel
theorem dL_acts_468 : decode cL_acts 468 = .ok (.iload 7, 2) := by decide +kernel
theorem dL_acts_470 : decode cL_acts 470 = .ok (.aload_n 2, 1) := by decide +kernel
theorem dL_acts_471 : decode cL_acts 471 = .ok (.bipush 10, 2) := by decide +kernel
theorem dL_acts_473 : decode cL_acts 473 = .ok (.iload 7, 2) := by decide +kernel
theorem dL_acts_475 : decode cL_acts 475 = .ok (.iadd, 1) := by decide +kernel
theorem dL_acts_476 : decode cL_acts 476 = .ok (.iaload, 1) := by decide +kernel
theorem dL_acts_477 : decode cL_acts 477 = .ok (.invokevirtual 61, 3) := by decide +kernel
theorem dL_acts_480 : decode cL_acts 480 = .ok (.sipush 1000, 3) := by decide +kernel
theorem dL_acts_483 : decode cL_acts 483 = .ok (.iload 8, 2) := by decide +kernel
theorem dL_acts_485 : decode cL_acts 485 = .ok (.iadd, 1) := by decide +kernel
theorem dL_acts_486 : decode cL_acts 486 = .ok (.if_icmp .ne 7, 3) := by decide +kernel
theorem dL_acts_489 : decode cL_acts 489 = .ok (.iconst 1, 1) := by decide +kernel
theorem dL_acts_490 : decode cL_acts 490 = .ok (.goto 4, 3) := by decide +kernel
theorem dL_acts_493 : decode cL_acts 493 = .ok (.iconst 0, 1) := by decide +kernel
theorem dL_acts_494 : decode cL_acts 494 = .ok (.ireturn, 1) := by decide +kernel
theorem dL_acts_495 : decode cL_acts 495 = .ok (.iload 4, 2) := by decide +kernel
theorem dL_acts_497 : decode cL_acts 497 = .ok (.iconst 4, 1) := by decide +kernel
theorem dL_acts_498 : decode cL_acts 498 = .ok (.idiv, 1) := by decide +kernel
theorem dL_acts_499 : decode cL_acts 499 = .ok (.iconst 2, 1) := by decide +kernel
theorem dL_acts_500 : decode cL_acts 500 = .ok (.irem, 1) := by decide +kernel
theorem dL_acts_501 : decode cL_acts 501 = .ok (.istore 8, 2) := by decide +kernel
theorem dL_acts_503 : decode cL_acts 503 = .ok (.bipush 14, 2) := by decide +kernel
theorem dL_acts_505 : decode cL_acts 505 = .ok (.iconst 4, 1) := by decide +kernel
theorem dL_acts_506 : decode cL_acts 506 = .ok (.iload 8, 2) := by decide +kernel
theorem dL_acts_508 : decode cL_acts 508 = .ok (.imul, 1) := by decide +kernel
theorem dL_acts_509 : decode cL_acts 509 = .ok (.iadd, 1) := by decide +kernel
theorem dL_acts_510 : decode cL_acts 510 = .ok (.iload 7, 2) := by decide +kernel
theorem dL_acts_512 : decode cL_acts 512 = .ok (.iadd, 1) := by decide +kernel
theorem dL_acts_513 : decode cL_acts 513 = .ok (.istore 9, 2) := by decide +kernel
theorem dL_acts_515 : decode cL_acts 515 = .ok (.iload 5, 2) := by decide +kernel
theorem dL_acts_517 : decode cL_acts 517 = .ok (.bipush 20, 2) := by decide +kernel
theorem dL_acts_519 : decode cL_acts 519 = .ok (.if_icmp .ge 84, 3) := by decide +kernel
theorem dL_acts_522 : decode cL_acts 522 = .ok (.aload_n 2, 1) := by decide +kernel
theorem dL_acts_523 : decode cL_acts 523 = .ok (.iload 9, 2) := by decide +kernel
theorem dL_acts_525 : decode cL_acts 525 = .ok (.iaload, 1) := by decide +kernel
theorem dL_acts_526 : decode cL_acts 526 = .ok (.istore 10, 2) := by decide +kernel
theorem dL_acts_528 : decode cL_acts 528 = .ok (.aload_n 2, 1) := by decide +kernel
theorem dL_acts_529 : decode cL_acts 529 = .ok (.iload 9, 2) := by decide +kernel
theorem dL_acts_531 : decode cL_acts 531 = .ok (.iload 4, 2) := by decide +kernel
theorem dL_acts_533 : decode cL_acts 533 = .ok (.bipush 8, 2) := by decide +kernel
theorem dL_acts_535 : decode cL_acts 535 = .ok (.idiv, 1) := by decide +kernel
theorem dL_acts_536 : decode cL_acts 536 = .ok (.aload_n 1, 1) := by decide +kernel
theorem dL_acts_537 : decode cL_acts 537 = .ok (.iconst 0, 1) := by decide +kernel
theorem dL_acts_538 : decode cL_acts 538 = .ok (.iaload, 1) := by decide +kernel
theorem dL_acts_539 : decode cL_acts 539 = .ok (.iconst 1, 1) := by decide +kernel
theorem dL_acts_540 : decode cL_acts 540 = .ok (.iadd, 1) := by decide +kernel
theorem dL_acts_541 : decode cL_acts 541 = .ok (.irem, 1) := by decide +kernel
theorem dL_acts_542 : decode cL_acts 542 = .ok (.iastore, 1) := by decide +kernel
theorem dL_acts_543 : decode cL_acts 543 = .ok (.aload_n 1, 1) := by decide +kernel
theorem dL_acts_544 : decode cL_acts 544 = .ok (.aload_n 2, 1) := by decide +kernel
theorem dL_acts_545 : decode cL_acts 545 = .ok (.invokestatic 74, 3) := by decide +kernel
theorem dL_acts_548 : decode cL_acts 548 = .ok (.istore 11, 2) := by decide +kernel
theorem dL_acts_550 : decode cL_acts 550 = .ok (.aload_n 2, 1) := by decide +kernel
theorem dL_acts_551 : decode cL_acts 551 = .ok (.iload 9, 2) := by decide +kernel
theorem dL_acts_553 : decode cL_acts 553 = .ok (.iaload, 1) := by decide +kernel
theorem dL_acts_554 : decode cL_acts 554 = .ok (.istore 12, 2) := by decide +kernel
theorem dL_acts_556 : decode cL_acts 556 = .ok (.aload_n 2, 1) := by decide +kernel
theorem dL_acts_557 : decode cL_acts 557 = .ok (.iload 9, 2) := by decide +kernel
theorem dL_acts_559 : decode cL_acts 559 = .ok (.iload 11, 2) := by decide +kernel
theorem dL_acts_561 : decode cL_acts 561 = .ok (.ifCond .eq 8, 3) := by decide +kernel
theorem dL_acts_564 : decode cL_acts 564 = .ok (.iload 12, 2) := by decide +kernel
theorem dL_acts_566 : decode cL_acts 566 = .ok (.goto 5, 3) := by decide +kernel
theorem dL_acts_569 : decode cL_acts 569 = .ok (.iload 10, 2) := by decide +kernel
theorem dL_acts_571 : decode cL_acts 571 = .ok (.iastore, 1) := by decide +kernel
theorem dL_acts_572 : decode cL_acts 572 = .ok (.aload_n 0, 1) := by decide +kernel
theorem dL_acts_573 : decode cL_acts 573 = .ok (.iload 7, 2) := by decide +kernel
theorem dL_acts_575 : decode cL_acts 575 = .ok (.iload 8, 2) := by decide +kernel
theorem dL_acts_577 : decode cL_acts 577 = .ok (.iload 12, 2) := by decide +kernel
theorem dL_acts_579 : decode cL_acts 579 = .ok (.invokevirtual 65, 3) := by decide +kernel
theorem dL_acts_582 : decode cL_acts 582 = .ok (.iload 11, 2) := by decide +kernel
theorem dL_acts_584 : decode cL_acts 584 = .ok (.ifCond .eq 8, 3) := by decide +kernel
theorem dL_acts_587 : decode cL_acts 587 = .ok (.iload 10, 2) := by decide +kernel
theorem dL_acts_589 : decode cL_acts 589 = .ok (.goto 5, 3) := by decide +kernel
theorem dL_acts_592 : decode cL_acts 592 = .ok (.ldc 60, 2) := by decide +kernel
theorem dL_acts_594 : decode cL_acts 594 = .ok (.if_icmp .ne 7, 3) := by decide +kernel
theorem dL_acts_597 : decode cL_acts 597 = .ok (.iconst 1, 1) := by decide +kernel
theorem dL_acts_598 : decode cL_acts 598 = .ok (.goto 4, 3) := by decide +kernel
theorem dL_acts_601 : decode cL_acts 601 = .ok (.iconst 0, 1) := by decide +kernel
theorem dL_acts_602 : decode cL_acts 602 = .ok (.ireturn, 1) := by decide +kernel
theorem dL_acts_603 : decode cL_acts 603 = .ok (.iload 5, 2) := by decide +kernel
theorem dL_acts_605 : decode cL_acts 605 = .ok (.bipush 23, 2) := by decide +kernel
theorem dL_acts_607 : decode cL_acts 607 = .ok (.if_icmp .ge 43, 3) := by decide +kernel
theorem dL_acts_610 : decode cL_acts 610 = .ok (.aload_n 2, 1) := by decide +kernel
theorem dL_acts_611 : decode cL_acts 611 = .ok (.iload 9, 2) := by decide +kernel
theorem dL_acts_613 : decode cL_acts 613 = .ok (.iaload, 1) := by decide +kernel
theorem dL_acts_614 : decode cL_acts 614 = .ok (.istore 10, 2) := by decide +kernel
theorem dL_acts_616 : decode cL_acts 616 = .ok (.aload_n 2, 1) := by decide +kernel
theorem dL_acts_617 : decode cL_acts 617 = .ok (.iload 9, 2) := by decide +kernel
theorem dL_acts_619 : decode cL_acts 619 = .ok (.iconst (-1), 1) := by decide +kernel
theorem dL_acts_620 : decode cL_acts 620 = .ok (.iastore, 1) := by decide +kernel
theorem dL_acts_621 : decode cL_acts 621 = .ok (.aload_n 0, 1) := by decide +kernel
theorem dL_acts_622 : decode cL_acts 622 = .ok (.iload 7, 2) := by decide +kernel
theorem dL_acts_624 : decode cL_acts 624 = .ok (.iload 8, 2) := by decide +kernel
theorem dL_acts_626 : decode cL_acts 626 = .ok (.invokevirtual 68, 3) := by decide +kernel
theorem dL_acts_629 : decode cL_acts 629 = .ok (.iload 10, 2) := by decide +kernel
theorem dL_acts_631 : decode cL_acts 631 = .ok (.ifCond .ge 8, 3) := by decide +kernel
theorem dL_acts_634 : decode cL_acts 634 = .ok (.ldc 60, 2) := by decide +kernel
theorem dL_acts_636 : decode cL_acts 636 = .ok (.goto 5, 3) := by decide +kernel
theorem dL_acts_639 : decode cL_acts 639 = .ok (.iload 10, 2) := by decide +kernel
theorem dL_acts_641 : decode cL_acts 641 = .ok (.if_icmp .ne 7, 3) := by decide +kernel
theorem dL_acts_644 : decode cL_acts 644 = .ok (.iconst 1, 1) := by decide +kernel
theorem dL_acts_645 : decode cL_acts 645 = .ok (.goto 4, 3) := by decide +kernel
theorem dL_acts_648 : decode cL_acts 648 = .ok (.iconst 0, 1) := by decide +kernel
theorem dL_acts_649 : decode cL_acts 649 = .ok (.ireturn, 1) := by decide +kernel
theorem dL_acts_650 : decode cL_acts 650 = .ok (.iload 4, 2) := by decide +kernel
theorem dL_acts_652 : decode cL_acts 652 = .ok (.bipush 8, 2) := by decide +kernel
theorem dL_acts_654 : decode cL_acts 654 = .ok (.idiv, 1) := by decide +kernel
theorem dL_acts_655 : decode cL_acts 655 = .ok (.iconst 3, 1) := by decide +kernel
theorem dL_acts_656 : decode cL_acts 656 = .ok (.irem, 1) := by decide +kernel
theorem dL_acts_657 : decode cL_acts 657 = .ok (.ifCond .le 35, 3) := by decide +kernel
theorem dL_acts_660 : decode cL_acts 660 = .ok (.aload_n 0, 1) := by decide +kernel
theorem dL_acts_661 : decode cL_acts 661 = .ok (.iconst 4, 1) := by decide +kernel
theorem dL_acts_662 : decode cL_acts 662 = .ok (.iconst 0, 1) := by decide +kernel
theorem dL_acts_663 : decode cL_acts 663 = .ok (.invokevirtual 61, 3) := by decide +kernel
theorem dL_acts_666 : decode cL_acts 666 = .ok (.ldc 64, 2) := by decide +kernel
theorem dL_acts_668 : decode cL_acts 668 = .ok (.if_icmp .ne 22, 3) := by decide +kernel
theorem dL_acts_671 : decode cL_acts 671 = .ok (.aload_n 0, 1) := by decide +kernel
theorem dL_acts_672 : decode cL_acts 672 = .ok (.iload 6, 2) := by decide +kernel
theorem dL_acts_674 : decode cL_acts 674 = .ok (.iconst 1, 1) := by decide +kernel
theorem dL_acts_675 : decode cL_acts 675 = .ok (.iadd, 1) := by decide +kernel
theorem dL_acts_676 : decode cL_acts 676 = .ok (.iconst 1, 1) := by decide +kernel
theorem dL_acts_677 : decode cL_acts 677 = .ok (.iconst 1, 1) := by decide +kernel
theorem dL_acts_678 : decode cL_acts 678 = .ok (.invokevirtual 52, 3) := by decide +kernel
theorem dL_acts_681 : decode cL_acts 681 = .ok (.ldc 64, 2) := by decide +kernel
theorem dL_acts_683 : decode cL_acts 683 = .ok (.if_icmp .ne 7, 3) := by decide +kernel
theorem dL_acts_686 : decode cL_acts 686 = .ok (.iconst 1, 1) := by decide +kernel
theorem dL_acts_687 : decode cL_acts 687 = .ok (.goto 4, 3) := by decide +kernel
theorem dL_acts_690 : decode cL_acts 690 = .ok (.iconst 0, 1) := by decide +kernel
theorem dL_acts_691 : decode cL_acts 691 = .ok (.ireturn, 1) := by decide +kernel
theorem dL_acts_692 : decode cL_acts 692 = .ok (.iload 7, 2) := by decide +kernel
theorem dL_acts_694 : decode cL_acts 694 = .ok (.istore 10, 2) := by decide +kernel
theorem dL_acts_696 : decode cL_acts 696 = .ok (.iload 10, 2) := by decide +kernel
theorem dL_acts_698 : decode cL_acts 698 = .ok (.iconst 3, 1) := by decide +kernel
theorem dL_acts_699 : decode cL_acts 699 = .ok (.if_icmp .ge 77, 3) := by decide +kernel
theorem dL_acts_702 : decode cL_acts 702 = .ok (.aload_n 2, 1) := by decide +kernel
theorem dL_acts_703 : decode cL_acts 703 = .ok (.iload 10, 2) := by decide +kernel
theorem dL_acts_705 : decode cL_acts 705 = .ok (.iconst 1, 1) := by decide +kernel
theorem dL_acts_706 : decode cL_acts 706 = .ok (.iadd, 1) := by decide +kernel
theorem dL_acts_707 : decode cL_acts 707 = .ok (.aload_n 2, 1) := by decide +kernel
theorem dL_acts_708 : decode cL_acts 708 = .ok (.iload 10, 2) := by decide +kernel
theorem dL_acts_710 : decode cL_acts 710 = .ok (.iconst 2, 1) := by decide +kernel
theorem dL_acts_711 : decode cL_acts 711 = .ok (.iadd, 1) := by decide +kernel
theorem dL_acts_712 : decode cL_acts 712 = .ok (.iaload, 1) := by decide +kernel
theorem dL_acts_713 : decode cL_acts 713 = .ok (.iastore, 1) := by decide +kernel
theorem dL_acts_714 : decode cL_acts 714 = .ok (.aload_n 2, 1) := by decide +kernel
theorem dL_acts_715 : decode cL_acts 715 = .ok (.bipush 6, 2) := by decide +kernel
theorem dL_acts_717 : decode cL_acts 717 = .ok (.iload 10, 2) := by decide +kernel
theorem dL_acts_719 : decode cL_acts 719 = .ok (.iadd, 1) := by decide +kernel
theorem dL_acts_720 : decode cL_acts 720 = .ok (.aload_n 2, 1) := by decide +kernel
theorem dL_acts_721 : decode cL_acts 721 = .ok (.bipush 7, 2) := by decide +kernel
theorem dL_acts_723 : decode cL_acts 723 = .ok (.iload 10, 2) := by decide +kernel
theorem dL_acts_725 : decode cL_acts 725 = .ok (.iadd, 1) := by decide +kernel
theorem dL_acts_726 : decode cL_acts 726 = .ok (.iaload, 1) := by decide +kernel
theorem dL_acts_727 : decode cL_acts 727 = .ok (.iastore, 1) := by decide +kernel
theorem dL_acts_728 : decode cL_acts 728 = .ok (.aload_n 2, 1) := by decide +kernel
theorem dL_acts_729 : decode cL_acts 729 = .ok (.bipush 10, 2) := by decide +kernel
theorem dL_acts_731 : decode cL_acts 731 = .ok (.iload 10, 2) := by decide +kernel
theorem dL_acts_733 : decode cL_acts 733 = .ok (.iadd, 1) := by decide +kernel
theorem dL_acts_734 : decode cL_acts 734 = .ok (.aload_n 2, 1) := by decide +kernel
theorem dL_acts_735 : decode cL_acts 735 = .ok (.bipush 11, 2) := by decide +kernel
theorem dL_acts_737 : decode cL_acts 737 = .ok (.iload 10, 2) := by decide +kernel
theorem dL_acts_739 : decode cL_acts 739 = .ok (.iadd, 1) := by decide +kernel
theorem dL_acts_740 : decode cL_acts 740 = .ok (.iaload, 1) := by decide +kernel
theorem dL_acts_741 : decode cL_acts 741 = .ok (.iastore, 1) := by decide +kernel
theorem dL_acts_742 : decode cL_acts 742 = .ok (.aload_n 2, 1) := by decide +kernel
theorem dL_acts_743 : decode cL_acts 743 = .ok (.bipush 14, 2) := by decide +kernel
theorem dL_acts_745 : decode cL_acts 745 = .ok (.iload 10, 2) := by decide +kernel
theorem dL_acts_747 : decode cL_acts 747 = .ok (.iadd, 1) := by decide +kernel
theorem dL_acts_748 : decode cL_acts 748 = .ok (.aload_n 2, 1) := by decide +kernel
theorem dL_acts_749 : decode cL_acts 749 = .ok (.bipush 15, 2) := by decide +kernel
theorem dL_acts_751 : decode cL_acts 751 = .ok (.iload 10, 2) := by decide +kernel
theorem dL_acts_753 : decode cL_acts 753 = .ok (.iadd, 1) := by decide +kernel
theorem dL_acts_754 : decode cL_acts 754 = .ok (.iaload, 1) := by decide +kernel
theorem dL_acts_755 : decode cL_acts 755 = .ok (.iastore, 1) := by decide +kernel
theorem dL_acts_756 : decode cL_acts 756 = .ok (.aload_n 2, 1) := by decide +kernel
theorem dL_acts_757 : decode cL_acts 757 = .ok (.bipush 18, 2) := by decide +kernel
theorem dL_acts_759 : decode cL_acts 759 = .ok (.iload 10, 2) := by decide +kernel
theorem dL_acts_761 : decode cL_acts 761 = .ok (.iadd, 1) := by decide +kernel
theorem dL_acts_762 : decode cL_acts 762 = .ok (.aload_n 2, 1) := by decide +kernel
theorem dL_acts_763 : decode cL_acts 763 = .ok (.bipush 19, 2) := by decide +kernel
theorem dL_acts_765 : decode cL_acts 765 = .ok (.iload 10, 2) := by decide +kernel
theorem dL_acts_767 : decode cL_acts 767 = .ok (.iadd, 1) := by decide +kernel
theorem dL_acts_768 : decode cL_acts 768 = .ok (.iaload, 1) := by decide +kernel
theorem dL_acts_769 : decode cL_acts 769 = .ok (.iastore, 1) := by decide +kernel
theorem dL_acts_770 : decode cL_acts 770 = .ok (.iinc 10 1, 3) := by decide +kernel
theorem dL_acts_773 : decode cL_acts 773 = .ok (.goto (-77), 3) := by decide +kernel
theorem dL_acts_776 : decode cL_acts 776 = .ok (.aload_n 1, 1) := by decide +kernel
theorem dL_acts_777 : decode cL_acts 777 = .ok (.iconst 1, 1) := by decide +kernel
theorem dL_acts_778 : decode cL_acts 778 = .ok (.dup2, 1) := by decide +kernel
theorem dL_acts_779 : decode cL_acts 779 = .ok (.iaload, 1) := by decide +kernel
theorem dL_acts_780 : decode cL_acts 780 = .ok (.iconst 1, 1) := by decide +kernel
theorem dL_acts_781 : decode cL_acts 781 = .ok (.isub, 1) := by decide +kernel
theorem dL_acts_782 : decode cL_acts 782 = .ok (.iastore, 1) := by decide +kernel
theorem dL_acts_783 : decode cL_acts 783 = .ok (.aload_n 0, 1) := by decide +kernel
theorem dL_acts_784 : decode cL_acts 784 = .ok (.iload 7, 2) := by decide +kernel
theorem dL_acts_786 : decode cL_acts 786 = .ok (.invokevirtual 71, 3) := by decide +kernel
theorem dL_acts_789 : decode cL_acts 789 = .ok (.aload_n 1, 1) := by decide +kernel
theorem dL_acts_790 : decode cL_acts 790 = .ok (.iconst 1, 1) := by decide +kernel
theorem dL_acts_791 : decode cL_acts 791 = .ok (.iaload, 1) := by decide +kernel
theorem dL_acts_792 : decode cL_acts 792 = .ok (.if_icmp .ne 7, 3) := by decide +kernel
theorem dL_acts_795 : decode cL_acts 795 = .ok (.iconst 1, 1) := by decide +kernel
theorem dL_acts_796 : decode cL_acts 796 = .ok (.goto 4, 3) := by decide +kernel
theorem dL_acts_799 : decode cL_acts 799 = .ok (.iconst 0, 1) := by decide +kernel
theorem dL_acts_800 : decode cL_acts 800 = .ok (.ireturn, 1) := by decide +kernel
set_option maxRecDepth 20000 in
theorem ggL_isFraction_L_divisor : GoodIn wsL_isFraction wsL_divisor := goodIn_r _ [5] (by decide +kernel) (by decide +kernel)
set_option maxRecDepth 20000 in
theorem gL_isFraction_L_divisor : GoodIn wsL_isFraction (va_wsS RL 30 yL_divisor wsL_divisor) := goodIn_app (goodIn_of _ (by decide +kernel)) ggL_isFraction_L_divisor
theorem dL_isFraction_0 : decode cL_isFraction 0 = .ok (.iload_n 0, 1) := by decide +kernel
theorem dL_isFraction_1 : decode cL_isFraction 1 = .ok (.i2l, 1) := by decide +kernel
theorem dL_isFraction_2 : decode cL_isFraction 2 = .ok (.ldc2_w 78, 3) := by decide +kernel
theorem dL_isFraction_5 : decode cL_isFraction 5 = .ok (.lsub, 1) := by decide +kernel
theorem dL_isFraction_6 : decode cL_isFraction 6 = .ok (.lstore 6, 2) := by decide +kernel
theorem dL_isFraction_8 : decode cL_isFraction 8 = .ok (.iload_n 1, 1) := by decide +kernel
theorem dL_isFraction_9 : decode cL_isFraction 9 = .ok (.ifCond .le 45, 3) := by decide +kernel
theorem dL_isFraction_12 : decode cL_isFraction 12 = .ok (.lload 6, 2) := by decide +kernel
theorem dL_isFraction_14 : decode cL_isFraction 14 = .ok (.lconst 0, 1) := by decide +kernel
theorem dL_isFraction_15 : decode cL_isFraction 15 = .ok (.lcmp, 1) := by decide +kernel
theorem dL_isFraction_16 : decode cL_isFraction 16 = .ok (.ifCond .ge 9, 3) := by decide +kernel
theorem dL_isFraction_19 : decode cL_isFraction 19 = .ok (.lload 6, 2) := by decide +kernel
theorem dL_isFraction_21 : decode cL_isFraction 21 = .ok (.lneg, 1) := by decide +kernel
theorem dL_isFraction_22 : decode cL_isFraction 22 = .ok (.goto 5, 3) := by decide +kernel
theorem dL_isFraction_25 : decode cL_isFraction 25 = .ok (.lload 6, 2) := by decide +kernel
theorem dL_isFraction_27 : decode cL_isFraction 27 = .ok (.iload_n 1, 1) := by decide +kernel
theorem dL_isFraction_28 : decode cL_isFraction 28 = .ok (.i2l, 1) := by decide +kernel
theorem dL_isFraction_29 : decode cL_isFraction 29 = .ok (.invokestatic 30, 3) := by decide +kernel
theorem dL_isFraction_32 : decode cL_isFraction 32 = .ok (.lconst 1, 1) := by decide +kernel
theorem dL_isFraction_33 : decode cL_isFraction 33 = .ok (.lcmp, 1) := by decide +kernel
theorem dL_isFraction_34 : decode cL_isFraction 34 = .ok (.ifCond .ne 20, 3) := by decide +kernel
theorem dL_isFraction_37 : decode cL_isFraction 37 = .ok (.lload 6, 2) := by decide +kernel
theorem dL_isFraction_39 : decode cL_isFraction 39 = .ok (.lload 4, 2) := by decide +kernel
theorem dL_isFraction_41 : decode cL_isFraction 41 = .ok (.lmul, 1) := by decide +kernel
theorem dL_isFraction_42 : decode cL_isFraction 42 = .ok (.lload_n 2, 1) := by decide +kernel
theorem dL_isFraction_43 : decode cL_isFraction 43 = .ok (.iload_n 1, 1) := by decide +kernel
theorem dL_isFraction_44 : decode cL_isFraction 44 = .ok (.i2l, 1) := by decide +kernel
theorem dL_isFraction_45 : decode cL_isFraction 45 = .ok (.lmul, 1) := by decide +kernel
theorem dL_isFraction_46 : decode cL_isFraction 46 = .ok (.lcmp, 1) := by decide +kernel
theorem dL_isFraction_47 : decode cL_isFraction 47 = .ok (.ifCond .ne 7, 3) := by decide +kernel
theorem dL_isFraction_50 : decode cL_isFraction 50 = .ok (.iconst 1, 1) := by decide +kernel
theorem dL_isFraction_51 : decode cL_isFraction 51 = .ok (.goto 4, 3) := by decide +kernel
theorem dL_isFraction_54 : decode cL_isFraction 54 = .ok (.iconst 0, 1) := by decide +kernel
theorem dL_isFraction_55 : decode cL_isFraction 55 = .ok (.ireturn, 1) := by decide +kernel
set_option maxRecDepth 20000 in
theorem ggL_isSo_L_rests : GoodIn wsL_isSo wsL_rests := goodIn_r _ [8, 1, 9, 10, 11, 12, 13, 14, 15, 16, 17, 18, 19, 20, 21, 22, 23, 24, 25, 26, 27, 28, 29, 30, 31, 32, 33, 34, 35, 36, 37, 38, 39, 40, 41, 42, 43, 44, 45, 46, 47, 48, 49, 50, 51, 52, 53, 54, 55, 56, 57, 58, 59, 60, 61, 62, 63, 64, 65, 66, 67, 68, 69, 70, 71, 72, 73, 74, 75, 76, 77, 78, 79, 80, 81, 82, 83, 84, 85, 86, 87, 88, 89, 90, 91, 92, 93, 94, 95, 96, 97, 98, 99, 100, 101, 102, 103, 104, 105, 106, 107, 108, 109, 110, 111, 112, 113, 114, 115, 116, 117, 118, 119, 120, 121, 122, 123, 124, 125, 126, 127, 128, 129, 130, 131, 132, 133, 134, 135, 136, 137, 138, 139, 140, 141, 142, 143, 144, 7, 145, 146, 147, 148, 232, 233, 234, 235, 236, 237, 238, 239, 240, 241, 242, 243, 244, 245, 246, 247, 248, 249, 250, 251, 252, 253, 254, 255] (by decide +kernel) (by decide +kernel)
set_option maxRecDepth 20000 in
theorem gL_isSo_L_rests : GoodIn wsL_isSo (va_wsS RL 80 yL_rests wsL_rests) := goodIn_app (goodIn_of _ (by decide +kernel)) ggL_isSo_L_rests
set_option maxRecDepth 20000 in
theorem ggL_isSo_L_rest : GoodIn wsL_isSo wsL_rest := goodIn_r _ [151, 152, 153, 7, 154, 155, 156, 157, 158, 159, 160, 161, 162, 163, 164, 165, 166] (by decide +kernel) (by decide +kernel)
set_option maxRecDepth 20000 in
theorem gL_isSo_L_rest : GoodIn wsL_isSo (va_wsS RL 84 yL_rest wsL_rest) := goodIn_app (goodIn_of _ (by decide +kernel)) ggL_isSo_L_rest
set_option maxRecDepth 20000 in
theorem ggL_isSo_X3_pull : GoodIn wsL_isSo wsX3_pull := goodIn_r _ [170, 14, 15, 16, 171, 172, 173, 20, 174, 22, 175, 176, 12, 177, 23, 24, 25, 26, 27, 28, 29, 30, 31, 32, 33, 34, 35, 36, 37, 38, 39, 40, 41, 42, 43, 44, 45, 46, 47, 48, 49, 50, 51, 52, 53, 54, 55, 56, 57, 58, 59, 60, 61, 62, 63, 64, 65, 66, 67, 68, 69, 70, 71, 72, 73, 74, 75, 76, 77, 78, 79, 80, 81, 82, 83, 84, 85, 86, 87, 88, 89, 90, 91, 92, 93, 94, 95, 96, 97, 98, 99, 100, 101, 102, 103, 104, 105, 106, 107, 108, 109, 110, 111, 112, 113, 114, 115, 116, 117, 118, 119, 120, 121, 122, 123, 124, 125, 126, 178, 179, 180, 181, 182, 139, 140, 141, 142, 232, 233, 234, 235, 236, 237, 238, 239, 240, 241, 242, 243, 244, 245, 246, 247, 248, 249, 250, 251, 252, 253, 254, 255] (by decide +kernel) (by decide +kernel)
set_option maxRecDepth 20000 in
theorem gL_isSo_X3_pull : GoodIn wsL_isSo (wsV RL 88 RX3 yX3_pull wsX3_pull) := goodIn_app (goodIn_of _ (by decide +kernel)) ggL_isSo_X3_pull
set_option maxRecDepth 20000 in
theorem ggL_isSo_L_pull : GoodIn wsL_isSo wsL_pull := goodIn_r _ [163, 164, 165, 7, 166] (by decide +kernel) (by decide +kernel)
set_option maxRecDepth 20000 in
theorem gL_isSo_L_pull : GoodIn wsL_isSo (va_wsS RL 15 yL_pull wsL_pull) := goodIn_app (goodIn_of _ (by decide +kernel)) ggL_isSo_L_pull
set_option maxRecDepth 20000 in
theorem ggL_isSo_L_isFraction : GoodIn wsL_isSo wsL_isFraction := goodIn_r _ [185, 186, 146, 147, 7, 148] (by decide +kernel) (by decide +kernel)
set_option maxRecDepth 20000 in
theorem gL_isSo_L_isFraction : GoodIn wsL_isSo (va_wsS RL 90 yL_isFraction wsL_isFraction) := goodIn_app (goodIn_of _ (by decide +kernel)) ggL_isSo_L_isFraction
set_option maxRecDepth 20000 in
theorem ggL_isSo_L_force : GoodIn wsL_isSo wsL_force := goodIn_r _ [160, 161, 162, 7, 163, 164, 165, 166] (by decide +kernel) (by decide +kernel)
set_option maxRecDepth 20000 in
theorem gL_isSo_L_force : GoodIn wsL_isSo (va_wsS RL 27 yL_force wsL_force) := goodIn_app (goodIn_of _ (by decide +kernel)) ggL_isSo_L_force
set_option maxRecDepth 20000 in
theorem ggL_isSo_X3_push : GoodIn wsL_isSo wsX3_push := goodIn_r _ [190, 14, 15, 16, 17, 18, 19, 20, 21, 22, 175, 176, 12, 177, 23, 24, 25, 26, 27, 28, 29, 30, 31, 32, 33, 34, 35, 36, 37, 38, 39, 40, 41, 42, 43, 44, 45, 46, 47, 48, 49, 50, 51, 52, 53, 54, 55, 56, 57, 58, 59, 60, 61, 62, 63, 64, 65, 66, 67, 68, 69, 70, 71, 72, 73, 74, 75, 76, 77, 78, 79, 80, 81, 82, 83, 84, 85, 86, 87, 88, 89, 90, 91, 92, 93, 94, 95, 96, 97, 98, 99, 100, 101, 102, 103, 104, 105, 106, 107, 108, 109, 110, 111, 112, 113, 114, 115, 116, 117, 118, 119, 120, 121, 122, 123, 124, 125, 126, 191, 179, 180, 181, 182, 139, 140, 141, 142, 232, 233, 234, 235, 236, 237, 238, 239, 240, 241, 242, 243, 244, 245, 246, 247, 248, 249, 250, 251, 252, 253, 254, 255] (by decide +kernel) (by decide +kernel)
set_option maxRecDepth 20000 in
theorem gL_isSo_X3_push : GoodIn wsL_isSo (wsV RL 94 RX3 yX3_push wsX3_push) := goodIn_app (goodIn_of _ (by decide +kernel)) ggL_isSo_X3_push
set_option maxRecDepth 20000 in
theorem ggL_isSo_X3_place : GoodIn wsL_isSo wsX3_place := goodIn_r _ [13, 14, 15, 16, 17, 18, 19, 20, 21, 22, 23, 24, 25, 12, 26, 27, 28, 29, 30, 31, 32, 33, 34, 35, 36, 37, 38, 39, 40, 41, 42, 43, 44, 45, 46, 47, 48, 49, 50, 51, 52, 53, 54, 55, 56, 57, 58, 59, 60, 61, 62, 63, 64, 65, 66, 67, 68, 69, 70, 71, 72, 73, 74, 75, 76, 77, 78, 79, 80, 81, 82, 83, 84, 85, 86, 87, 88, 89, 90, 91, 92, 93, 94, 95, 96, 97, 98, 99, 100, 101, 102, 103, 104, 105, 106, 107, 108, 109, 110, 111, 112, 113, 114, 115, 116, 117, 118, 119, 120, 121, 122, 123, 124, 125, 126, 127, 128, 129, 130, 131, 132, 133, 134, 135, 136, 137, 138, 139, 140, 141, 142, 232, 233, 234, 235, 236, 237, 238, 239, 240, 241, 242, 243, 244, 245, 246, 247, 248, 249, 250, 251, 252, 253, 254, 255] (by decide +kernel) (by decide +kernel)
set_option maxRecDepth 20000 in
theorem gL_isSo_X3_place : GoodIn wsL_isSo (wsV RL 34 RX3 yX3_place wsX3_place) := goodIn_app (goodIn_of _ (by decide +kernel)) ggL_isSo_X3_place
set_option maxRecDepth 20000 in
theorem ggL_isSo_X3_plateOf : GoodIn wsL_isSo wsX3_plateOf := goodIn_r _ [195, 14, 15, 196, 197, 198, 17, 18, 19, 20, 21, 22, 199, 54, 55, 56, 57, 200, 201, 12, 202, 203, 232, 233, 234, 235, 236, 237, 238, 239, 250, 251, 252, 253, 254, 255] (by decide +kernel) (by decide +kernel)
set_option maxRecDepth 20000 in
theorem gL_isSo_X3_plateOf : GoodIn wsL_isSo (wsV RL 97 RX3 yX3_plateOf wsX3_plateOf) := goodIn_app (goodIn_of _ (by decide +kernel)) ggL_isSo_X3_plateOf
set_option maxRecDepth 20000 in
theorem ggL_isSo_X3_plates : GoodIn wsL_isSo wsX3_plates := goodIn_r _ [207, 15, 14, 208, 23, 24, 25, 12, 26, 27, 28, 29, 30, 31, 32, 33, 34, 35, 36, 37, 38, 39, 40, 41, 42, 43, 44, 45, 46, 47, 48, 49, 50, 51, 20, 52, 53, 54, 55, 56, 57, 58, 59, 60, 61, 62, 63, 64, 65, 66, 67, 68, 69, 70, 71, 72, 73, 74, 75, 76, 77, 78, 79, 80, 81, 82, 83, 84, 85, 86, 87, 88, 89, 90, 91, 92, 93, 94, 95, 96, 97, 98, 99, 100, 101, 102, 103, 104, 105, 106, 107, 108, 109, 110, 111, 112, 113, 114, 115, 116, 117, 118, 119, 120, 121, 122, 123, 124, 125, 126, 209, 210, 211, 212, 213, 214, 215, 216, 217, 199, 218, 219, 191, 232, 233, 234, 235, 236, 237, 238, 239, 250, 251, 252, 253, 254, 255, 240, 241, 242, 243, 244, 245, 246, 247, 248, 249] (by decide +kernel) (by decide +kernel)
set_option maxRecDepth 20000 in
theorem gL_isSo_X3_plates : GoodIn wsL_isSo (wsV RL 101 RX3 yX3_plates wsX3_plates) := goodIn_app (goodIn_of _ (by decide +kernel)) ggL_isSo_X3_plates
set_option maxRecDepth 20000 in
theorem ggL_isSo_X3_count : GoodIn wsL_isSo wsX3_count := goodIn_r _ [223, 14, 208, 213, 224, 225, 226, 15, 227, 228, 229, 20, 230, 22, 57, 231, 82, 83, 84, 85, 232, 233, 234, 235, 236, 237, 238, 239, 250, 251, 252, 253, 254, 255, 256, 257, 258, 259, 260, 261, 262, 263, 264] (by decide +kernel) (by decide +kernel)
set_option maxRecDepth 20000 in
theorem gL_isSo_X3_count : GoodIn wsL_isSo (wsV RL 104 RX3 yX3_count wsX3_count) := goodIn_app (goodIn_of _ (by decide +kernel)) ggL_isSo_X3_count
theorem dL_isSo_0 : decode cL_isSo 0 = .ok (.iconst 4, 1) := by decide +kernel
theorem dL_isSo_1 : decode cL_isSo 1 = .ok (.newarray .long, 2) := by decide +kernel
theorem dL_isSo_3 : decode cL_isSo 3 = .ok (.astore_n 3, 1) := by decide +kernel
theorem dL_isSo_4 : decode cL_isSo 4 = .ok (.aload_n 1, 1) := by decide +kernel
theorem dL_isSo_5 : decode cL_isSo 5 = .ok (.iconst 1, 1) := by decide +kernel
theorem dL_isSo_6 : decode cL_isSo 6 = .ok (.iaload, 1) := by decide +kernel
theorem dL_isSo_7 : decode cL_isSo 7 = .ok (.istore 4, 2) := by decide +kernel
theorem dL_isSo_9 : decode cL_isSo 9 = .ok (.iconst 0, 1) := by decide +kernel
theorem dL_isSo_10 : decode cL_isSo 10 = .ok (.istore 5, 2) := by decide +kernel
theorem dL_isSo_12 : decode cL_isSo 12 = .ok (.sipush 1000, 3) := by decide +kernel
theorem dL_isSo_15 : decode cL_isSo 15 = .ok (.istore 6, 2) := by decide +kernel
theorem dL_isSo_17 : decode cL_isSo 17 = .ok (.iconst 5, 1) := by decide +kernel
theorem dL_isSo_18 : decode cL_isSo 18 = .ok (.newarray .int, 2) := by decide +kernel
theorem dL_isSo_20 : decode cL_isSo 20 = .ok (.astore 7, 2) := by decide +kernel
theorem dL_isSo_22 : decode cL_isSo 22 = .ok (.aload_n 0, 1) := by decide +kernel
theorem dL_isSo_23 : decode cL_isSo 23 = .ok (.iload 4, 2) := by decide +kernel
theorem dL_isSo_25 : decode cL_isSo 25 = .ok (.aload_n 3, 1) := by decide +kernel
theorem dL_isSo_26 : decode cL_isSo 26 = .ok (.invokestatic 80, 3) := by decide +kernel
theorem dL_isSo_29 : decode cL_isSo 29 = .ok (.lstore 8, 2) := by decide +kernel
theorem dL_isSo_31 : decode cL_isSo 31 = .ok (.aload_n 1, 1) := by decide +kernel
theorem dL_isSo_32 : decode cL_isSo 32 = .ok (.aload_n 2, 1) := by decide +kernel
theorem dL_isSo_33 : decode cL_isSo 33 = .ok (.aload_n 3, 1) := by decide +kernel
theorem dL_isSo_34 : decode cL_isSo 34 = .ok (.lload 8, 2) := by decide +kernel
theorem dL_isSo_36 : decode cL_isSo 36 = .ok (.invokestatic 84, 3) := by decide +kernel
theorem dL_isSo_39 : decode cL_isSo 39 = .ok (.istore 10, 2) := by decide +kernel
theorem dL_isSo_41 : decode cL_isSo 41 = .ok (.iconst 0, 1) := by decide +kernel
theorem dL_isSo_42 : decode cL_isSo 42 = .ok (.istore 11, 2) := by decide +kernel
theorem dL_isSo_44 : decode cL_isSo 44 = .ok (.iload 11, 2) := by decide +kernel
theorem dL_isSo_46 : decode cL_isSo 46 = .ok (.iload 4, 2) := by decide +kernel
theorem dL_isSo_48 : decode cL_isSo 48 = .ok (.if_icmp .gt 45, 3) := by decide +kernel
theorem dL_isSo_51 : decode cL_isSo 51 = .ok (.iload 10, 2) := by decide +kernel
theorem dL_isSo_53 : decode cL_isSo 53 = .ok (.ifCond .eq 40, 3) := by decide +kernel
theorem dL_isSo_56 : decode cL_isSo 56 = .ok (.aload_n 0, 1) := by decide +kernel
theorem dL_isSo_57 : decode cL_isSo 57 = .ok (.iload 11, 2) := by decide +kernel
theorem dL_isSo_59 : decode cL_isSo 59 = .ok (.iconst 0, 1) := by decide +kernel
theorem dL_isSo_60 : decode cL_isSo 60 = .ok (.invokevirtual 88, 3) := by decide +kernel
theorem dL_isSo_63 : decode cL_isSo 63 = .ok (.aload_n 0, 1) := by decide +kernel
theorem dL_isSo_64 : decode cL_isSo 64 = .ok (.iload 11, 2) := by decide +kernel
theorem dL_isSo_66 : decode cL_isSo 66 = .ok (.iconst 1, 1) := by decide +kernel
theorem dL_isSo_67 : decode cL_isSo 67 = .ok (.invokevirtual 88, 3) := by decide +kernel
theorem dL_isSo_70 : decode cL_isSo 70 = .ok (.aload_n 1, 1) := by decide +kernel
theorem dL_isSo_71 : decode cL_isSo 71 = .ok (.aload_n 2, 1) := by decide +kernel
theorem dL_isSo_72 : decode cL_isSo 72 = .ok (.aload_n 3, 1) := by decide +kernel
theorem dL_isSo_73 : decode cL_isSo 73 = .ok (.lload 8, 2) := by decide +kernel
theorem dL_isSo_75 : decode cL_isSo 75 = .ok (.iload 11, 2) := by decide +kernel
theorem dL_isSo_77 : decode cL_isSo 77 = .ok (.invokestatic 15, 3) := by decide +kernel
theorem dL_isSo_80 : decode cL_isSo 80 = .ok (.lload 8, 2) := by decide +kernel
theorem dL_isSo_82 : decode cL_isSo 82 = .ok (.invokestatic 90, 3) := by decide +kernel
theorem dL_isSo_85 : decode cL_isSo 85 = .ok (.istore 10, 2) := by decide +kernel
theorem dL_isSo_87 : decode cL_isSo 87 = .ok (.iinc 11 1, 3) := by decide +kernel
theorem dL_isSo_90 : decode cL_isSo 90 = .ok (.goto (-46), 3) := by decide +kernel
theorem dL_isSo_93 : decode cL_isSo 93 = .ok (.iconst 0, 1) := by decide +kernel
theorem dL_isSo_94 : decode cL_isSo 94 = .ok (.istore 11, 2) := by decide +kernel
theorem dL_isSo_96 : decode cL_isSo 96 = .ok (.iload 11, 2) := by decide +kernel
theorem dL_isSo_98 : decode cL_isSo 98 = .ok (.iload 4, 2) := by decide +kernel
theorem dL_isSo_100 : decode cL_isSo 100 = .ok (.if_icmp .ge 486, 3) := by decide +kernel
theorem dL_isSo_103 : decode cL_isSo 103 = .ok (.iload 10, 2) := by decide +kernel
theorem dL_isSo_105 : decode cL_isSo 105 = .ok (.ifCond .eq 481, 3) := by decide +kernel
theorem dL_isSo_108 : decode cL_isSo 108 = .ok (.aload_n 1, 1) := by decide +kernel
theorem dL_isSo_109 : decode cL_isSo 109 = .ok (.aload_n 2, 1) := by decide +kernel
theorem dL_isSo_110 : decode cL_isSo 110 = .ok (.aload_n 3, 1) := by decide +kernel
theorem dL_isSo_111 : decode cL_isSo 111 = .ok (.lload 8, 2) := by decide +kernel
theorem dL_isSo_113 : decode cL_isSo 113 = .ok (.iload 11, 2) := by decide +kernel
theorem dL_isSo_115 : decode cL_isSo 115 = .ok (.invokestatic 27, 3) := by decide +kernel
theorem dL_isSo_118 : decode cL_isSo 118 = .ok (.lstore 12, 2) := by decide +kernel
theorem dL_isSo_120 : decode cL_isSo 120 = .ok (.iload 5, 2) := by decide +kernel
theorem dL_isSo_122 : decode cL_isSo 122 = .ok (.aload_n 2, 1) := by decide +kernel
theorem dL_isSo_123 : decode cL_isSo 123 = .ok (.bipush 14, 2) := by decide +kernel
theorem dL_isSo_125 : decode cL_isSo 125 = .ok (.iload 11, 2) := by decide +kernel
theorem dL_isSo_127 : decode cL_isSo 127 = .ok (.iadd, 1) := by decide +kernel
theorem dL_isSo_128 : decode cL_isSo 128 = .ok (.iaload, 1) := by decide +kernel
theorem dL_isSo_129 : decode cL_isSo 129 = .ok (.ifCond .ge 7, 3) := by decide +kernel
theorem dL_isSo_132 : decode cL_isSo 132 = .ok (.iconst 0, 1) := by decide +kernel
theorem dL_isSo_133 : decode cL_isSo 133 = .ok (.goto 4, 3) := by decide +kernel
theorem dL_isSo_136 : decode cL_isSo 136 = .ok (.iconst 1, 1) := by decide +kernel
theorem dL_isSo_137 : decode cL_isSo 137 = .ok (.aload_n 2, 1) := by decide +kernel
theorem dL_isSo_138 : decode cL_isSo 138 = .ok (.bipush 18, 2) := by decide +kernel
theorem dL_isSo_140 : decode cL_isSo 140 = .ok (.iload 11, 2) := by decide +kernel
theorem dL_isSo_142 : decode cL_isSo 142 = .ok (.iadd, 1) := by decide +kernel
theorem dL_isSo_143 : decode cL_isSo 143 = .ok (.iaload, 1) := by decide +kernel
theorem dL_isSo_144 : decode cL_isSo 144 = .ok (.ifCond .ge 7, 3) := by decide +kernel
theorem dL_isSo_147 : decode cL_isSo 147 = .ok (.iconst 0, 1) := by decide +kernel
theorem dL_isSo_148 : decode cL_isSo 148 = .ok (.goto 4, 3) := by decide +kernel
theorem dL_isSo_151 : decode cL_isSo 151 = .ok (.iconst 1, 1) := by decide +kernel
theorem dL_isSo_152 : decode cL_isSo 152 = .ok (.iadd, 1) := by decide +kernel
theorem dL_isSo_153 : decode cL_isSo 153 = .ok (.iadd, 1) := by decide +kernel
theorem dL_isSo_154 : decode cL_isSo 154 = .ok (.istore 5, 2) := by decide +kernel
theorem dL_isSo_156 : decode cL_isSo 156 = .ok (.iload 6, 2) := by decide +kernel
theorem dL_isSo_158 : decode cL_isSo 158 = .ok (.aload_n 2, 1) := by decide +kernel
theorem dL_isSo_159 : decode cL_isSo 159 = .ok (.bipush 10, 2) := by decide +kernel
theorem dL_isSo_161 : decode cL_isSo 161 = .ok (.iload 11, 2) := by decide +kernel
theorem dL_isSo_163 : decode cL_isSo 163 = .ok (.iadd, 1) := by decide +kernel
theorem dL_isSo_164 : decode cL_isSo 164 = .ok (.iaload, 1) := by decide +kernel
theorem dL_isSo_165 : decode cL_isSo 165 = .ok (.iadd, 1) := by decide +kernel
theorem dL_isSo_166 : decode cL_isSo 166 = .ok (.istore 6, 2) := by decide +kernel
theorem dL_isSo_168 : decode cL_isSo 168 = .ok (.aload 7, 2) := by decide +kernel
theorem dL_isSo_170 : decode cL_isSo 170 = .ok (.iconst 0, 1) := by decide +kernel
theorem dL_isSo_171 : decode cL_isSo 171 = .ok (.dup2, 1) := by decide +kernel
theorem dL_isSo_172 : decode cL_isSo 172 = .ok (.iaload, 1) := by decide +kernel
theorem dL_isSo_173 : decode cL_isSo 173 = .ok (.aload_n 2, 1) := by decide +kernel
theorem dL_isSo_174 : decode cL_isSo 174 = .ok (.bipush 14, 2) := by decide +kernel
theorem dL_isSo_176 : decode cL_isSo 176 = .ok (.iload 11, 2) := by decide +kernel
theorem dL_isSo_178 : decode cL_isSo 178 = .ok (.iadd, 1) := by decide +kernel
theorem dL_isSo_179 : decode cL_isSo 179 = .ok (.iaload, 1) := by decide +kernel
theorem dL_isSo_180 : decode cL_isSo 180 = .ok (.ifCond .lt 29, 3) := by decide +kernel
theorem dL_isSo_183 : decode cL_isSo 183 = .ok (.aload_n 3, 1) := by decide +kernel
theorem dL_isSo_184 : decode cL_isSo 184 = .ok (.iload 11, 2) := by decide +kernel
theorem dL_isSo_186 : decode cL_isSo 186 = .ok (.laload, 1) := by decide +kernel
theorem dL_isSo_187 : decode cL_isSo 187 = .ok (.aload_n 2, 1) := by decide +kernel
theorem dL_isSo_188 : decode cL_isSo 188 = .ok (.bipush 14, 2) := by decide +kernel
theorem dL_isSo_190 : decode cL_isSo 190 = .ok (.iload 11, 2) := by decide +kernel
theorem dL_isSo_192 : decode cL_isSo 192 = .ok (.iadd, 1) := by decide +kernel
theorem dL_isSo_193 : decode cL_isSo 193 = .ok (.iaload, 1) := by decide +kernel
theorem dL_isSo_194 : decode cL_isSo 194 = .ok (.i2l, 1) := by decide +kernel
theorem dL_isSo_195 : decode cL_isSo 195 = .ok (.lload 8, 2) := by decide +kernel
theorem dL_isSo_197 : decode cL_isSo 197 = .ok (.lmul, 1) := by decide +kernel
theorem dL_isSo_198 : decode cL_isSo 198 = .ok (.lcmp, 1) := by decide +kernel
theorem dL_isSo_199 : decode cL_isSo 199 = .ok (.ifCond .ne 10, 3) := by decide +kernel
theorem dL_isSo_202 : decode cL_isSo 202 = .ok (.iconst 1, 1) := by decide +kernel
theorem dL_isSo_203 : decode cL_isSo 203 = .ok (.iload 11, 2) := by decide +kernel
theorem dL_isSo_205 : decode cL_isSo 205 = .ok (.ishl, 1) := by decide +kernel
theorem dL_isSo_206 : decode cL_isSo 206 = .ok (.goto 4, 3) := by decide +kernel
theorem dL_isSo_209 : decode cL_isSo 209 = .ok (.iconst 0, 1) := by decide +kernel
theorem dL_isSo_210 : decode cL_isSo 210 = .ok (.iadd, 1) := by decide +kernel
theorem dL_isSo_211 : decode cL_isSo 211 = .ok (.iastore, 1) := by decide +kernel
theorem dL_isSo_212 : decode cL_isSo 212 = .ok (.aload 7, 2) := by decide +kernel
theorem dL_isSo_214 : decode cL_isSo 214 = .ok (.iconst 1, 1) := by decide +kernel
theorem dL_isSo_215 : decode cL_isSo 215 = .ok (.dup2, 1) := by decide +kernel
theorem dL_isSo_216 : decode cL_isSo 216 = .ok (.iaload, 1) := by decide +kernel
theorem dL_isSo_217 : decode cL_isSo 217 = .ok (.aload_n 2, 1) := by decide +kernel
theorem dL_isSo_218 : decode cL_isSo 218 = .ok (.bipush 18, 2) := by decide +kernel
theorem dL_isSo_220 : decode cL_isSo 220 = .ok (.iload 11, 2) := by decide +kernel
theorem dL_isSo_222 : decode cL_isSo 222 = .ok (.iadd, 1) := by decide +kernel
theorem dL_isSo_223 : decode cL_isSo 223 = .ok (.iaload, 1) := by decide +kernel
theorem dL_isSo_224 : decode cL_isSo 224 = .ok (.ifCond .lt 29, 3) := by decide +kernel
theorem dL_isSo_227 : decode cL_isSo 227 = .ok (.aload_n 3, 1) := by decide +kernel
theorem dL_isSo_228 : decode cL_isSo 228 = .ok (.iload 11, 2) := by decide +kernel
theorem dL_isSo_230 : decode cL_isSo 230 = .ok (.laload, 1) := by decide +kernel
theorem dL_isSo_231 : decode cL_isSo 231 = .ok (.aload_n 2, 1) := by decide +kernel
theorem dL_isSo_232 : decode cL_isSo 232 = .ok (.bipush 18, 2) := by decide +kernel
theorem dL_isSo_234 : decode cL_isSo 234 = .ok (.iload 11, 2) := by decide +kernel
theorem dL_isSo_236 : decode cL_isSo 236 = .ok (.iadd, 1) := by decide +kernel
theorem dL_isSo_237 : decode cL_isSo 237 = .ok (.iaload, 1) := by decide +kernel
theorem dL_isSo_238 : decode cL_isSo 238 = .ok (.i2l, 1) := by decide +kernel
theorem dL_isSo_239 : decode cL_isSo 239 = .ok (.lload 8, 2) := by decide +kernel
theorem dL_isSo_241 : decode cL_isSo 241 = .ok (.lmul, 1) := by decide +kernel
theorem dL_isSo_242 : decode cL_isSo 242 = .ok (.lcmp, 1) := by decide +kernel
theorem dL_isSo_243 : decode cL_isSo 243 = .ok (.ifCond .ne 10, 3) := by decide +kernel
theorem dL_isSo_246 : decode cL_isSo 246 = .ok (.iconst 1, 1) := by decide +kernel
theorem dL_isSo_247 : decode cL_isSo 247 = .ok (.iload 11, 2) := by decide +kernel
theorem dL_isSo_249 : decode cL_isSo 249 = .ok (.ishl, 1) := by decide +kernel
theorem dL_isSo_250 : decode cL_isSo 250 = .ok (.goto 4, 3) := by decide +kernel
theorem dL_isSo_253 : decode cL_isSo 253 = .ok (.iconst 0, 1) := by decide +kernel
theorem dL_isSo_254 : decode cL_isSo 254 = .ok (.iadd, 1) := by decide +kernel
theorem dL_isSo_255 : decode cL_isSo 255 = .ok (.iastore, 1) := by decide +kernel
theorem dL_isSo_256 : decode cL_isSo 256 = .ok (.aload 7, 2) := by decide +kernel
theorem dL_isSo_258 : decode cL_isSo 258 = .ok (.iconst 2, 1) := by decide +kernel
theorem dL_isSo_259 : decode cL_isSo 259 = .ok (.dup2, 1) := by decide +kernel
theorem dL_isSo_260 : decode cL_isSo 260 = .ok (.iaload, 1) := by decide +kernel
theorem dL_isSo_261 : decode cL_isSo 261 = .ok (.iload 11, 2) := by decide +kernel
theorem dL_isSo_263 : decode cL_isSo 263 = .ok (.iload 4, 2) := by decide +kernel
theorem dL_isSo_265 : decode cL_isSo 265 = .ok (.iconst 1, 1) := by decide +kernel
theorem dL_isSo_266 : decode cL_isSo 266 = .ok (.isub, 1) := by decide +kernel
theorem dL_isSo_267 : decode cL_isSo 267 = .ok (.if_icmp .ge 24, 3) := by decide +kernel
theorem dL_isSo_270 : decode cL_isSo 270 = .ok (.aload_n 3, 1) := by decide +kernel
theorem dL_isSo_271 : decode cL_isSo 271 = .ok (.iload 11, 2) := by decide +kernel
theorem dL_isSo_273 : decode cL_isSo 273 = .ok (.laload, 1) := by decide +kernel
theorem dL_isSo_274 : decode cL_isSo 274 = .ok (.aload_n 3, 1) := by decide +kernel
theorem dL_isSo_275 : decode cL_isSo 275 = .ok (.iload 11, 2) := by decide +kernel
theorem dL_isSo_277 : decode cL_isSo 277 = .ok (.iconst 1, 1) := by decide +kernel
theorem dL_isSo_278 : decode cL_isSo 278 = .ok (.iadd, 1) := by decide +kernel
theorem dL_isSo_279 : decode cL_isSo 279 = .ok (.laload, 1) := by decide +kernel
theorem dL_isSo_280 : decode cL_isSo 280 = .ok (.lcmp, 1) := by decide +kernel
theorem dL_isSo_281 : decode cL_isSo 281 = .ok (.ifCond .ne 10, 3) := by decide +kernel
theorem dL_isSo_284 : decode cL_isSo 284 = .ok (.iconst 1, 1) := by decide +kernel
theorem dL_isSo_285 : decode cL_isSo 285 = .ok (.iload 11, 2) := by decide +kernel
theorem dL_isSo_287 : decode cL_isSo 287 = .ok (.ishl, 1) := by decide +kernel
theorem dL_isSo_288 : decode cL_isSo 288 = .ok (.goto 4, 3) := by decide +kernel
theorem dL_isSo_291 : decode cL_isSo 291 = .ok (.iconst 0, 1) := by decide +kernel
theorem dL_isSo_292 : decode cL_isSo 292 = .ok (.iadd, 1) := by decide +kernel
theorem dL_isSo_293 : decode cL_isSo 293 = .ok (.iastore, 1) := by decide +kernel
theorem dL_isSo_294 : decode cL_isSo 294 = .ok (.aload 7, 2) := by decide +kernel
theorem dL_isSo_296 : decode cL_isSo 296 = .ok (.iconst 3, 1) := by decide +kernel
theorem dL_isSo_297 : decode cL_isSo 297 = .ok (.dup2, 1) := by decide +kernel
theorem dL_isSo_298 : decode cL_isSo 298 = .ok (.iaload, 1) := by decide +kernel
theorem dL_isSo_299 : decode cL_isSo 299 = .ok (.aload_n 3, 1) := by decide +kernel
theorem dL_isSo_300 : decode cL_isSo 300 = .ok (.iload 11, 2) := by decide +kernel
theorem dL_isSo_302 : decode cL_isSo 302 = .ok (.laload, 1) := by decide +kernel
theorem dL_isSo_303 : decode cL_isSo 303 = .ok (.lconst 0, 1) := by decide +kernel
theorem dL_isSo_304 : decode cL_isSo 304 = .ok (.lcmp, 1) := by decide +kernel
theorem dL_isSo_305 : decode cL_isSo 305 = .ok (.ifCond .eq 18, 3) := by decide +kernel
theorem dL_isSo_308 : decode cL_isSo 308 = .ok (.aload_n 3, 1) := by decide +kernel
theorem dL_isSo_309 : decode cL_isSo 309 = .ok (.iload 11, 2) := by decide +kernel
theorem dL_isSo_311 : decode cL_isSo 311 = .ok (.laload, 1) := by decide +kernel
theorem dL_isSo_312 : decode cL_isSo 312 = .ok (.aload_n 1, 1) := by decide +kernel
theorem dL_isSo_313 : decode cL_isSo 313 = .ok (.iconst 0, 1) := by decide +kernel
theorem dL_isSo_314 : decode cL_isSo 314 = .ok (.iaload, 1) := by decide +kernel
theorem dL_isSo_315 : decode cL_isSo 315 = .ok (.i2l, 1) := by decide +kernel
theorem dL_isSo_316 : decode cL_isSo 316 = .ok (.lload 8, 2) := by decide +kernel
theorem dL_isSo_318 : decode cL_isSo 318 = .ok (.lmul, 1) := by decide +kernel
theorem dL_isSo_319 : decode cL_isSo 319 = .ok (.lcmp, 1) := by decide +kernel
theorem dL_isSo_320 : decode cL_isSo 320 = .ok (.ifCond .ne 10, 3) := by decide +kernel
theorem dL_isSo_323 : decode cL_isSo 323 = .ok (.iconst 1, 1) := by decide +kernel
theorem dL_isSo_324 : decode cL_isSo 324 = .ok (.iload 11, 2) := by decide +kernel
theorem dL_isSo_326 : decode cL_isSo 326 = .ok (.ishl, 1) := by decide +kernel
theorem dL_isSo_327 : decode cL_isSo 327 = .ok (.goto 4, 3) := by decide +kernel
theorem dL_isSo_330 : decode cL_isSo 330 = .ok (.iconst 0, 1) := by decide +kernel
theorem dL_isSo_331 : decode cL_isSo 331 = .ok (.iadd, 1) := by decide +kernel
theorem dL_isSo_332 : decode cL_isSo 332 = .ok (.iastore, 1) := by decide +kernel
theorem dL_isSo_333 : decode cL_isSo 333 = .ok (.aload 7, 2) := by decide +kernel
theorem dL_isSo_335 : decode cL_isSo 335 = .ok (.iconst 4, 1) := by decide +kernel
theorem dL_isSo_336 : decode cL_isSo 336 = .ok (.dup2, 1) := by decide +kernel
theorem dL_isSo_337 : decode cL_isSo 337 = .ok (.iaload, 1) := by decide +kernel
theorem dL_isSo_338 : decode cL_isSo 338 = .ok (.lload 12, 2) := by decide +kernel
theorem dL_isSo_340 : decode cL_isSo 340 = .ok (.lconst 0, 1) := by decide +kernel
theorem dL_isSo_341 : decode cL_isSo 341 = .ok (.lcmp, 1) := by decide +kernel
theorem dL_isSo_342 : decode cL_isSo 342 = .ok (.ifCond .ne 7, 3) := by decide +kernel
theorem dL_isSo_345 : decode cL_isSo 345 = .ok (.iconst 0, 1) := by decide +kernel
theorem dL_isSo_346 : decode cL_isSo 346 = .ok (.goto 7, 3) := by decide +kernel
theorem dL_isSo_349 : decode cL_isSo 349 = .ok (.iconst 1, 1) := by decide +kernel
theorem dL_isSo_350 : decode cL_isSo 350 = .ok (.iload 11, 2) := by decide +kernel
theorem dL_isSo_352 : decode cL_isSo 352 = .ok (.ishl, 1) := by decide +kernel
theorem dL_isSo_353 : decode cL_isSo 353 = .ok (.iadd, 1) := by decide +kernel
theorem dL_isSo_354 : decode cL_isSo 354 = .ok (.iastore, 1) := by decide +kernel
theorem dL_isSo_355 : decode cL_isSo 355 = .ok (.aload_n 0, 1) := by decide +kernel
theorem dL_isSo_356 : decode cL_isSo 356 = .ok (.iload 11, 2) := by decide +kernel
theorem dL_isSo_358 : decode cL_isSo 358 = .ok (.iconst 0, 1) := by decide +kernel
theorem dL_isSo_359 : decode cL_isSo 359 = .ok (.invokevirtual 94, 3) := by decide +kernel
theorem dL_isSo_362 : decode cL_isSo 362 = .ok (.aload_n 0, 1) := by decide +kernel
theorem dL_isSo_363 : decode cL_isSo 363 = .ok (.iload 11, 2) := by decide +kernel
theorem dL_isSo_365 : decode cL_isSo 365 = .ok (.iconst 1, 1) := by decide +kernel
theorem dL_isSo_366 : decode cL_isSo 366 = .ok (.invokevirtual 94, 3) := by decide +kernel
theorem dL_isSo_369 : decode cL_isSo 369 = .ok (.lload 12, 2) := by decide +kernel
theorem dL_isSo_371 : decode cL_isSo 371 = .ok (.lneg, 1) := by decide +kernel
theorem dL_isSo_372 : decode cL_isSo 372 = .ok (.lload 8, 2) := by decide +kernel
theorem dL_isSo_374 : decode cL_isSo 374 = .ok (.invokestatic 90, 3) := by decide +kernel
theorem dL_isSo_377 : decode cL_isSo 377 = .ok (.ifCond .eq 200, 3) := by decide +kernel
theorem dL_isSo_380 : decode cL_isSo 380 = .ok (.aload_n 0, 1) := by decide +kernel
theorem dL_isSo_381 : decode cL_isSo 381 = .ok (.iload 11, 2) := by decide +kernel
theorem dL_isSo_383 : decode cL_isSo 383 = .ok (.iconst 2, 1) := by decide +kernel
theorem dL_isSo_384 : decode cL_isSo 384 = .ok (.invokevirtual 34, 3) := by decide +kernel
theorem dL_isSo_387 : decode cL_isSo 387 = .ok (.i2l, 1) := by decide +kernel
theorem dL_isSo_388 : decode cL_isSo 388 = .ok (.aload_n 3, 1) := by decide +kernel
theorem dL_isSo_389 : decode cL_isSo 389 = .ok (.iload 11, 2) := by decide +kernel
theorem dL_isSo_391 : decode cL_isSo 391 = .ok (.laload, 1) := by decide +kernel
theorem dL_isSo_392 : decode cL_isSo 392 = .ok (.lload 8, 2) := by decide +kernel
theorem dL_isSo_394 : decode cL_isSo 394 = .ok (.ldiv, 1) := by decide +kernel
theorem dL_isSo_395 : decode cL_isSo 395 = .ok (.lcmp, 1) := by decide +kernel
theorem dL_isSo_396 : decode cL_isSo 396 = .ok (.ifCond .ne 181, 3) := by decide +kernel
theorem dL_isSo_399 : decode cL_isSo 399 = .ok (.aload_n 0, 1) := by decide +kernel
theorem dL_isSo_400 : decode cL_isSo 400 = .ok (.iload 11, 2) := by decide +kernel
theorem dL_isSo_402 : decode cL_isSo 402 = .ok (.iconst 3, 1) := by decide +kernel
theorem dL_isSo_403 : decode cL_isSo 403 = .ok (.invokevirtual 34, 3) := by decide +kernel
theorem dL_isSo_406 : decode cL_isSo 406 = .ok (.ldc 64, 2) := by decide +kernel
theorem dL_isSo_408 : decode cL_isSo 408 = .ok (.if_icmp .ne 169, 3) := by decide +kernel
theorem dL_isSo_411 : decode cL_isSo 411 = .ok (.aload_n 0, 1) := by decide +kernel
theorem dL_isSo_412 : decode cL_isSo 412 = .ok (.iload 11, 2) := by decide +kernel
theorem dL_isSo_414 : decode cL_isSo 414 = .ok (.iconst 0, 1) := by decide +kernel
theorem dL_isSo_415 : decode cL_isSo 415 = .ok (.invokevirtual 97, 3) := by decide +kernel
theorem dL_isSo_418 : decode cL_isSo 418 = .ok (.sipush 1000, 3) := by decide +kernel
theorem dL_isSo_421 : decode cL_isSo 421 = .ok (.aload_n 2, 1) := by decide +kernel
theorem dL_isSo_422 : decode cL_isSo 422 = .ok (.bipush 10, 2) := by decide +kernel
theorem dL_isSo_424 : decode cL_isSo 424 = .ok (.iload 11, 2) := by decide +kernel
theorem dL_isSo_426 : decode cL_isSo 426 = .ok (.iadd, 1) := by decide +kernel
theorem dL_isSo_427 : decode cL_isSo 427 = .ok (.iaload, 1) := by decide +kernel
theorem dL_isSo_428 : decode cL_isSo 428 = .ok (.iadd, 1) := by decide +kernel
theorem dL_isSo_429 : decode cL_isSo 429 = .ok (.if_icmp .ne 148, 3) := by decide +kernel
theorem dL_isSo_432 : decode cL_isSo 432 = .ok (.aload_n 0, 1) := by decide +kernel
theorem dL_isSo_433 : decode cL_isSo 433 = .ok (.iload 11, 2) := by decide +kernel
theorem dL_isSo_435 : decode cL_isSo 435 = .ok (.iconst 1, 1) := by decide +kernel
theorem dL_isSo_436 : decode cL_isSo 436 = .ok (.invokevirtual 97, 3) := by decide +kernel
theorem dL_isSo_439 : decode cL_isSo 439 = .ok (.aload_n 2, 1) := by decide +kernel
theorem dL_isSo_440 : decode cL_isSo 440 = .ok (.bipush 14, 2) := by decide +kernel
theorem dL_isSo_442 : decode cL_isSo 442 = .ok (.iload 11, 2) := by decide +kernel
theorem dL_isSo_444 : decode cL_isSo 444 = .ok (.iadd, 1) := by decide +kernel
theorem dL_isSo_445 : decode cL_isSo 445 = .ok (.iaload, 1) := by decide +kernel
theorem dL_isSo_446 : decode cL_isSo 446 = .ok (.ifCond .ge 8, 3) := by decide +kernel
theorem dL_isSo_449 : decode cL_isSo 449 = .ok (.ldc 100, 2) := by decide +kernel
theorem dL_isSo_451 : decode cL_isSo 451 = .ok (.goto 10, 3) := by decide +kernel
theorem dL_isSo_454 : decode cL_isSo 454 = .ok (.aload_n 2, 1) := by decide +kernel
theorem dL_isSo_455 : decode cL_isSo 455 = .ok (.bipush 14, 2) := by decide +kernel
theorem dL_isSo_457 : decode cL_isSo 457 = .ok (.iload 11, 2) := by decide +kernel
theorem dL_isSo_459 : decode cL_isSo 459 = .ok (.iadd, 1) := by decide +kernel
theorem dL_isSo_460 : decode cL_isSo 460 = .ok (.iaload, 1) := by decide +kernel
theorem dL_isSo_461 : decode cL_isSo 461 = .ok (.if_icmp .ne 116, 3) := by decide +kernel
theorem dL_isSo_464 : decode cL_isSo 464 = .ok (.aload_n 0, 1) := by decide +kernel
theorem dL_isSo_465 : decode cL_isSo 465 = .ok (.iload 11, 2) := by decide +kernel
theorem dL_isSo_467 : decode cL_isSo 467 = .ok (.iconst 2, 1) := by decide +kernel
theorem dL_isSo_468 : decode cL_isSo 468 = .ok (.invokevirtual 97, 3) := by decide +kernel
theorem dL_isSo_471 : decode cL_isSo 471 = .ok (.aload_n 2, 1) := by decide +kernel
theorem dL_isSo_472 : decode cL_isSo 472 = .ok (.bipush 18, 2) := by decide +kernel
theorem dL_isSo_474 : decode cL_isSo 474 = .ok (.iload 11, 2) := by decide +kernel
theorem dL_isSo_476 : decode cL_isSo 476 = .ok (.iadd, 1) := by decide +kernel
theorem dL_isSo_477 : decode cL_isSo 477 = .ok (.iaload, 1) := by decide +kernel
theorem dL_isSo_478 : decode cL_isSo 478 = .ok (.ifCond .ge 8, 3) := by decide +kernel
theorem dL_isSo_481 : decode cL_isSo 481 = .ok (.ldc 100, 2) := by decide +kernel
theorem dL_isSo_483 : decode cL_isSo 483 = .ok (.goto 10, 3) := by decide +kernel
theorem dL_isSo_486 : decode cL_isSo 486 = .ok (.aload_n 2, 1) := by decide +kernel
theorem dL_isSo_487 : decode cL_isSo 487 = .ok (.bipush 18, 2) := by decide +kernel
theorem dL_isSo_489 : decode cL_isSo 489 = .ok (.iload 11, 2) := by decide +kernel
theorem dL_isSo_491 : decode cL_isSo 491 = .ok (.iadd, 1) := by decide +kernel
theorem dL_isSo_492 : decode cL_isSo 492 = .ok (.iaload, 1) := by decide +kernel
theorem dL_isSo_493 : decode cL_isSo 493 = .ok (.if_icmp .ne 84, 3) := by decide +kernel
theorem dL_isSo_496 : decode cL_isSo 496 = .ok (.aload_n 0, 1) := by decide +kernel
theorem dL_isSo_497 : decode cL_isSo 497 = .ok (.iload 11, 2) := by decide +kernel
theorem dL_isSo_499 : decode cL_isSo 499 = .ok (.iconst 3, 1) := by decide +kernel
theorem dL_isSo_500 : decode cL_isSo 500 = .ok (.invokevirtual 97, 3) := by decide +kernel
theorem dL_isSo_503 : decode cL_isSo 503 = .ok (.aload_n 2, 1) := by decide +kernel
theorem dL_isSo_504 : decode cL_isSo 504 = .ok (.iload 11, 2) := by decide +kernel
theorem dL_isSo_506 : decode cL_isSo 506 = .ok (.iaload, 1) := by decide +kernel
theorem dL_isSo_507 : decode cL_isSo 507 = .ok (.if_icmp .ne 70, 3) := by decide +kernel
theorem dL_isSo_510 : decode cL_isSo 510 = .ok (.aload_n 0, 1) := by decide +kernel
theorem dL_isSo_511 : decode cL_isSo 511 = .ok (.iload 11, 2) := by decide +kernel
theorem dL_isSo_513 : decode cL_isSo 513 = .ok (.iconst 4, 1) := by decide +kernel
theorem dL_isSo_514 : decode cL_isSo 514 = .ok (.invokevirtual 97, 3) := by decide +kernel
theorem dL_isSo_517 : decode cL_isSo 517 = .ok (.aload_n 2, 1) := by decide +kernel
theorem dL_isSo_518 : decode cL_isSo 518 = .ok (.iconst 5, 1) := by decide +kernel
theorem dL_isSo_519 : decode cL_isSo 519 = .ok (.iload 11, 2) := by decide +kernel
theorem dL_isSo_521 : decode cL_isSo 521 = .ok (.iadd, 1) := by decide +kernel
theorem dL_isSo_522 : decode cL_isSo 522 = .ok (.iaload, 1) := by decide +kernel
theorem dL_isSo_523 : decode cL_isSo 523 = .ok (.if_icmp .ne 54, 3) := by decide +kernel
theorem dL_isSo_526 : decode cL_isSo 526 = .ok (.aload_n 0, 1) := by decide +kernel
theorem dL_isSo_527 : decode cL_isSo 527 = .ok (.iload 11, 2) := by decide +kernel
theorem dL_isSo_529 : decode cL_isSo 529 = .ok (.iconst 5, 1) := by decide +kernel
theorem dL_isSo_530 : decode cL_isSo 530 = .ok (.invokevirtual 97, 3) := by decide +kernel
theorem dL_isSo_533 : decode cL_isSo 533 = .ok (.aload_n 2, 1) := by decide +kernel
theorem dL_isSo_534 : decode cL_isSo 534 = .ok (.iload 11, 2) := by decide +kernel
theorem dL_isSo_536 : decode cL_isSo 536 = .ok (.iconst 1, 1) := by decide +kernel
theorem dL_isSo_537 : decode cL_isSo 537 = .ok (.iadd, 1) := by decide +kernel
theorem dL_isSo_538 : decode cL_isSo 538 = .ok (.iaload, 1) := by decide +kernel
theorem dL_isSo_539 : decode cL_isSo 539 = .ok (.if_icmp .ne 38, 3) := by decide +kernel
theorem dL_isSo_542 : decode cL_isSo 542 = .ok (.aload_n 0, 1) := by decide +kernel
theorem dL_isSo_543 : decode cL_isSo 543 = .ok (.iload 11, 2) := by decide +kernel
theorem dL_isSo_545 : decode cL_isSo 545 = .ok (.bipush 6, 2) := by decide +kernel
theorem dL_isSo_547 : decode cL_isSo 547 = .ok (.invokevirtual 97, 3) := by decide +kernel
theorem dL_isSo_550 : decode cL_isSo 550 = .ok (.aload_n 2, 1) := by decide +kernel
theorem dL_isSo_551 : decode cL_isSo 551 = .ok (.bipush 6, 2) := by decide +kernel
theorem dL_isSo_553 : decode cL_isSo 553 = .ok (.iload 11, 2) := by decide +kernel
theorem dL_isSo_555 : decode cL_isSo 555 = .ok (.iadd, 1) := by decide +kernel
theorem dL_isSo_556 : decode cL_isSo 556 = .ok (.iaload, 1) := by decide +kernel
theorem dL_isSo_557 : decode cL_isSo 557 = .ok (.if_icmp .ne 20, 3) := by decide +kernel
theorem dL_isSo_560 : decode cL_isSo 560 = .ok (.aload_n 0, 1) := by decide +kernel
theorem dL_isSo_561 : decode cL_isSo 561 = .ok (.iload 11, 2) := by decide +kernel
theorem dL_isSo_563 : decode cL_isSo 563 = .ok (.bipush 7, 2) := by decide +kernel
theorem dL_isSo_565 : decode cL_isSo 565 = .ok (.invokevirtual 97, 3) := by decide +kernel
theorem dL_isSo_568 : decode cL_isSo 568 = .ok (.ldc 64, 2) := by decide +kernel
theorem dL_isSo_570 : decode cL_isSo 570 = .ok (.if_icmp .ne 7, 3) := by decide +kernel
theorem dL_isSo_573 : decode cL_isSo 573 = .ok (.iconst 1, 1) := by decide +kernel
theorem dL_isSo_574 : decode cL_isSo 574 = .ok (.goto 4, 3) := by decide +kernel
theorem dL_isSo_577 : decode cL_isSo 577 = .ok (.iconst 0, 1) := by decide +kernel
theorem dL_isSo_578 : decode cL_isSo 578 = .ok (.istore 10, 2) := by decide +kernel
theorem dL_isSo_580 : decode cL_isSo 580 = .ok (.iinc 11 1, 3) := by decide +kernel
theorem dL_isSo_583 : decode cL_isSo 583 = .ok (.goto (-487), 3) := by decide +kernel
theorem dL_isSo_586 : decode cL_isSo 586 = .ok (.iconst 0, 1) := by decide +kernel
theorem dL_isSo_587 : decode cL_isSo 587 = .ok (.istore 11, 2) := by decide +kernel
theorem dL_isSo_589 : decode cL_isSo 589 = .ok (.iload 11, 2) := by decide +kernel
theorem dL_isSo_591 : decode cL_isSo 591 = .ok (.iconst 5, 1) := by decide +kernel
theorem dL_isSo_592 : decode cL_isSo 592 = .ok (.if_icmp .ge 35, 3) := by decide +kernel
theorem dL_isSo_595 : decode cL_isSo 595 = .ok (.iload 10, 2) := by decide +kernel
theorem dL_isSo_597 : decode cL_isSo 597 = .ok (.ifCond .eq 30, 3) := by decide +kernel
theorem dL_isSo_600 : decode cL_isSo 600 = .ok (.aload_n 0, 1) := by decide +kernel
theorem dL_isSo_601 : decode cL_isSo 601 = .ok (.iload 11, 2) := by decide +kernel
theorem dL_isSo_603 : decode cL_isSo 603 = .ok (.invokevirtual 101, 3) := by decide +kernel
theorem dL_isSo_606 : decode cL_isSo 606 = .ok (.aload 7, 2) := by decide +kernel
theorem dL_isSo_608 : decode cL_isSo 608 = .ok (.iload 11, 2) := by decide +kernel
theorem dL_isSo_610 : decode cL_isSo 610 = .ok (.iaload, 1) := by decide +kernel
theorem dL_isSo_611 : decode cL_isSo 611 = .ok (.if_icmp .ne 7, 3) := by decide +kernel
theorem dL_isSo_614 : decode cL_isSo 614 = .ok (.iconst 1, 1) := by decide +kernel
theorem dL_isSo_615 : decode cL_isSo 615 = .ok (.goto 4, 3) := by decide +kernel
theorem dL_isSo_618 : decode cL_isSo 618 = .ok (.iconst 0, 1) := by decide +kernel
theorem dL_isSo_619 : decode cL_isSo 619 = .ok (.istore 10, 2) := by decide +kernel
theorem dL_isSo_621 : decode cL_isSo 621 = .ok (.iinc 11 1, 3) := by decide +kernel
theorem dL_isSo_624 : decode cL_isSo 624 = .ok (.goto (-35), 3) := by decide +kernel
theorem dL_isSo_627 : decode cL_isSo 627 = .ok (.iload 10, 2) := by decide +kernel
theorem dL_isSo_629 : decode cL_isSo 629 = .ok (.ifCond .eq 115, 3) := by decide +kernel
theorem dL_isSo_632 : decode cL_isSo 632 = .ok (.aload_n 0, 1) := by decide +kernel
theorem dL_isSo_633 : decode cL_isSo 633 = .ok (.iconst 5, 1) := by decide +kernel
theorem dL_isSo_634 : decode cL_isSo 634 = .ok (.invokevirtual 101, 3) := by decide +kernel
theorem dL_isSo_637 : decode cL_isSo 637 = .ok (.ldc 64, 2) := by decide +kernel
theorem dL_isSo_639 : decode cL_isSo 639 = .ok (.if_icmp .ne 105, 3) := by decide +kernel
theorem dL_isSo_642 : decode cL_isSo 642 = .ok (.aload_n 0, 1) := by decide +kernel
theorem dL_isSo_643 : decode cL_isSo 643 = .ok (.iconst 0, 1) := by decide +kernel
theorem dL_isSo_644 : decode cL_isSo 644 = .ok (.invokevirtual 104, 3) := by decide +kernel
theorem dL_isSo_647 : decode cL_isSo 647 = .ok (.iload 4, 2) := by decide +kernel
theorem dL_isSo_649 : decode cL_isSo 649 = .ok (.if_icmp .ne 95, 3) := by decide +kernel
theorem dL_isSo_652 : decode cL_isSo 652 = .ok (.aload_n 0, 1) := by decide +kernel
theorem dL_isSo_653 : decode cL_isSo 653 = .ok (.iconst 1, 1) := by decide +kernel
theorem dL_isSo_654 : decode cL_isSo 654 = .ok (.invokevirtual 104, 3) := by decide +kernel
theorem dL_isSo_657 : decode cL_isSo 657 = .ok (.aload_n 1, 1) := by decide +kernel
theorem dL_isSo_658 : decode cL_isSo 658 = .ok (.iconst 0, 1) := by decide +kernel
theorem dL_isSo_659 : decode cL_isSo 659 = .ok (.iaload, 1) := by decide +kernel
theorem dL_isSo_660 : decode cL_isSo 660 = .ok (.if_icmp .ne 84, 3) := by decide +kernel
theorem dL_isSo_663 : decode cL_isSo 663 = .ok (.aload_n 0, 1) := by decide +kernel
theorem dL_isSo_664 : decode cL_isSo 664 = .ok (.iconst 2, 1) := by decide +kernel
theorem dL_isSo_665 : decode cL_isSo 665 = .ok (.invokevirtual 104, 3) := by decide +kernel
theorem dL_isSo_668 : decode cL_isSo 668 = .ok (.iload 5, 2) := by decide +kernel
theorem dL_isSo_670 : decode cL_isSo 670 = .ok (.if_icmp .ne 74, 3) := by decide +kernel
theorem dL_isSo_673 : decode cL_isSo 673 = .ok (.aload_n 0, 1) := by decide +kernel
theorem dL_isSo_674 : decode cL_isSo 674 = .ok (.iconst 3, 1) := by decide +kernel
theorem dL_isSo_675 : decode cL_isSo 675 = .ok (.invokevirtual 104, 3) := by decide +kernel
theorem dL_isSo_678 : decode cL_isSo 678 = .ok (.iload 6, 2) := by decide +kernel
theorem dL_isSo_680 : decode cL_isSo 680 = .ok (.if_icmp .ne 64, 3) := by decide +kernel
theorem dL_isSo_683 : decode cL_isSo 683 = .ok (.aload_n 0, 1) := by decide +kernel
theorem dL_isSo_684 : decode cL_isSo 684 = .ok (.iconst 5, 1) := by decide +kernel
theorem dL_isSo_685 : decode cL_isSo 685 = .ok (.invokevirtual 104, 3) := by decide +kernel
theorem dL_isSo_688 : decode cL_isSo 688 = .ok (.ifCond .ne 56, 3) := by decide +kernel
theorem dL_isSo_691 : decode cL_isSo 691 = .ok (.aload_n 0, 1) := by decide +kernel
theorem dL_isSo_692 : decode cL_isSo 692 = .ok (.iload 4, 2) := by decide +kernel
theorem dL_isSo_694 : decode cL_isSo 694 = .ok (.iconst 0, 1) := by decide +kernel
theorem dL_isSo_695 : decode cL_isSo 695 = .ok (.invokevirtual 34, 3) := by decide +kernel
theorem dL_isSo_698 : decode cL_isSo 698 = .ok (.ldc 64, 2) := by decide +kernel
theorem dL_isSo_700 : decode cL_isSo 700 = .ok (.if_icmp .ne 44, 3) := by decide +kernel
theorem dL_isSo_703 : decode cL_isSo 703 = .ok (.aload_n 0, 1) := by decide +kernel
theorem dL_isSo_704 : decode cL_isSo 704 = .ok (.iload 4, 2) := by decide +kernel
theorem dL_isSo_706 : decode cL_isSo 706 = .ok (.iconst 0, 1) := by decide +kernel
theorem dL_isSo_707 : decode cL_isSo 707 = .ok (.invokevirtual 94, 3) := by decide +kernel
theorem dL_isSo_710 : decode cL_isSo 710 = .ok (.ldc 64, 2) := by decide +kernel
theorem dL_isSo_712 : decode cL_isSo 712 = .ok (.if_icmp .ne 32, 3) := by decide +kernel
theorem dL_isSo_715 : decode cL_isSo 715 = .ok (.aload_n 0, 1) := by decide +kernel
theorem dL_isSo_716 : decode cL_isSo 716 = .ok (.iload 4, 2) := by decide +kernel
theorem dL_isSo_718 : decode cL_isSo 718 = .ok (.iconst 1, 1) := by decide +kernel
theorem dL_isSo_719 : decode cL_isSo 719 = .ok (.iadd, 1) := by decide +kernel
theorem dL_isSo_720 : decode cL_isSo 720 = .ok (.iconst 0, 1) := by decide +kernel
theorem dL_isSo_721 : decode cL_isSo 721 = .ok (.invokevirtual 88, 3) := by decide +kernel
theorem dL_isSo_724 : decode cL_isSo 724 = .ok (.ldc 64, 2) := by decide +kernel
theorem dL_isSo_726 : decode cL_isSo 726 = .ok (.if_icmp .ne 18, 3) := by decide +kernel
theorem dL_isSo_729 : decode cL_isSo 729 = .ok (.aload_n 0, 1) := by decide +kernel
theorem dL_isSo_730 : decode cL_isSo 730 = .ok (.iconst 0, 1) := by decide +kernel
theorem dL_isSo_731 : decode cL_isSo 731 = .ok (.iconst 2, 1) := by decide +kernel
theorem dL_isSo_732 : decode cL_isSo 732 = .ok (.invokevirtual 88, 3) := by decide +kernel
theorem dL_isSo_735 : decode cL_isSo 735 = .ok (.ldc 64, 2) := by decide +kernel
theorem dL_isSo_737 : decode cL_isSo 737 = .ok (.if_icmp .ne 7, 3) := by decide +kernel
theorem dL_isSo_740 : decode cL_isSo 740 = .ok (.iconst 1, 1) := by decide +kernel
theorem dL_isSo_741 : decode cL_isSo 741 = .ok (.goto 4, 3) := by decide +kernel
theorem dL_isSo_744 : decode cL_isSo 744 = .ok (.iconst 0, 1) := by decide +kernel
theorem dL_isSo_745 : decode cL_isSo 745 = .ok (.ireturn, 1) := by decide +kernel
