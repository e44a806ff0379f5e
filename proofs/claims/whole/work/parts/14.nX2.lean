theorem dX2_init_0 : decode cX2_init 0 = .ok (.aload_n 0, 1) := by decide +kernel
theorem dX2_init_1 : decode cX2_init 1 = .ok (.invokespecial 3, 3) := by decide +kernel
theorem dX2_init_4 : decode cX2_init 4 = .ok (.aload_n 0, 1) := by decide +kernel
theorem dX2_init_5 : decode cX2_init 5 = .ok (.bipush 60, 2) := by decide +kernel
theorem dX2_init_7 : decode cX2_init 7 = .ok (.newarray .int, 2) := by decide +kernel
theorem dX2_init_9 : decode cX2_init 9 = .ok (.putfield 9, 3) := by decide +kernel
theorem dX2_init_12 : decode cX2_init 12 = .ok (.aload_n 0, 1) := by decide +kernel
theorem dX2_init_13 : decode cX2_init 13 = .ok (.iconst 0, 1) := by decide +kernel
theorem dX2_init_14 : decode cX2_init 14 = .ok (.putfield 15, 3) := by decide +kernel
theorem dX2_init_17 : decode cX2_init 17 = .ok (.aload_n 0, 1) := by decide +kernel
theorem dX2_init_18 : decode cX2_init 18 = .ok (.iconst 0, 1) := by decide +kernel
theorem dX2_init_19 : decode cX2_init 19 = .ok (.putfield 19, 3) := by decide +kernel
theorem dX2_init_22 : decode cX2_init 22 = .ok (.aload_n 0, 1) := by decide +kernel
theorem dX2_init_23 : decode cX2_init 23 = .ok (.iconst 0, 1) := by decide +kernel
theorem dX2_init_24 : decode cX2_init 24 = .ok (.putfield 22, 3) := by decide +kernel
theorem dX2_init_27 : decode cX2_init 27 = .ok (.aload_n 0, 1) := by decide +kernel
theorem dX2_init_28 : decode cX2_init 28 = .ok (.iconst 0, 1) := by decide +kernel
theorem dX2_init_29 : decode cX2_init 29 = .ok (.putfield 25, 3) := by decide +kernel
theorem dX2_init_32 : decode cX2_init 32 = .ok (.aload_n 0, 1) := by decide +kernel
theorem dX2_init_33 : decode cX2_init 33 = .ok (.iconst 0, 1) := by decide +kernel
theorem dX2_init_34 : decode cX2_init 34 = .ok (.putfield 28, 3) := by decide +kernel
theorem dX2_init_37 : decode cX2_init 37 = .ok (.aload_n 0, 1) := by decide +kernel
theorem dX2_init_38 : decode cX2_init 38 = .ok (.iconst 0, 1) := by decide +kernel
theorem dX2_init_39 : decode cX2_init 39 = .ok (.putfield 31, 3) := by decide +kernel
theorem dX2_init_42 : decode cX2_init 42 = .ok (.aload_n 0, 1) := by decide +kernel
theorem dX2_init_43 : decode cX2_init 43 = .ok (.iconst 3, 1) := by decide +kernel
theorem dX2_init_44 : decode cX2_init 44 = .ok (.newarray .int, 2) := by decide +kernel
theorem dX2_init_46 : decode cX2_init 46 = .ok (.putfield 34, 3) := by decide +kernel
theorem dX2_init_49 : decode cX2_init 49 = .ok (.aload_n 0, 1) := by decide +kernel
theorem dX2_init_50 : decode cX2_init 50 = .ok (.iconst 0, 1) := by decide +kernel
theorem dX2_init_51 : decode cX2_init 51 = .ok (.putfield 37, 3) := by decide +kernel
theorem dX2_init_54 : decode cX2_init 54 = .ok (.return_, 1) := by decide +kernel
theorem dX2_append_0 : decode cX2_append 0 = .ok (.iload_n 1, 1) := by decide +kernel
theorem dX2_append_1 : decode cX2_append 1 = .ok (.bipush 32, 2) := by decide +kernel
theorem dX2_append_3 : decode cX2_append 3 = .ok (.if_icmp .lt 9, 3) := by decide +kernel
theorem dX2_append_6 : decode cX2_append 6 = .ok (.iload_n 1, 1) := by decide +kernel
theorem dX2_append_7 : decode cX2_append 7 = .ok (.bipush 126, 2) := by decide +kernel
theorem dX2_append_9 : decode cX2_append 9 = .ok (.if_icmp .le 6, 3) := by decide +kernel
theorem dX2_append_12 : decode cX2_append 12 = .ok (.ldc 40, 2) := by decide +kernel
theorem dX2_append_14 : decode cX2_append 14 = .ok (.ireturn, 1) := by decide +kernel
theorem dX2_append_15 : decode cX2_append 15 = .ok (.aload_n 0, 1) := by decide +kernel
theorem dX2_append_16 : decode cX2_append 16 = .ok (.getfield 15, 3) := by decide +kernel
theorem dX2_append_19 : decode cX2_append 19 = .ok (.bipush 60, 2) := by decide +kernel
theorem dX2_append_21 : decode cX2_append 21 = .ok (.if_icmp .lt 6, 3) := by decide +kernel
theorem dX2_append_24 : decode cX2_append 24 = .ok (.ldc 41, 2) := by decide +kernel
theorem dX2_append_26 : decode cX2_append 26 = .ok (.ireturn, 1) := by decide +kernel
theorem dX2_append_27 : decode cX2_append 27 = .ok (.aload_n 0, 1) := by decide +kernel
theorem dX2_append_28 : decode cX2_append 28 = .ok (.getfield 9, 3) := by decide +kernel
theorem dX2_append_31 : decode cX2_append 31 = .ok (.aload_n 0, 1) := by decide +kernel
theorem dX2_append_32 : decode cX2_append 32 = .ok (.getfield 15, 3) := by decide +kernel
theorem dX2_append_35 : decode cX2_append 35 = .ok (.iload_n 1, 1) := by decide +kernel
theorem dX2_append_36 : decode cX2_append 36 = .ok (.iastore, 1) := by decide +kernel
theorem dX2_append_37 : decode cX2_append 37 = .ok (.aload_n 0, 1) := by decide +kernel
theorem dX2_append_38 : decode cX2_append 38 = .ok (.dup, 1) := by decide +kernel
theorem dX2_append_39 : decode cX2_append 39 = .ok (.getfield 15, 3) := by decide +kernel
theorem dX2_append_42 : decode cX2_append 42 = .ok (.iconst 1, 1) := by decide +kernel
theorem dX2_append_43 : decode cX2_append 43 = .ok (.iadd, 1) := by decide +kernel
theorem dX2_append_44 : decode cX2_append 44 = .ok (.putfield 15, 3) := by decide +kernel
theorem dX2_append_47 : decode cX2_append 47 = .ok (.aload_n 0, 1) := by decide +kernel
theorem dX2_append_48 : decode cX2_append 48 = .ok (.getfield 15, 3) := by decide +kernel
theorem dX2_append_51 : decode cX2_append 51 = .ok (.ireturn, 1) := by decide +kernel
set_option maxRecDepth 20000 in
theorem ggX2_playOn_X2_isPossible : GoodIn wsX2_playOn wsX2_isPossible := goodIn_r _ [9, 10, 2, 4, 11, 12, 13, 14, 8, 15, 16, 17, 18, 19, 20, 3, 21, 22, 23, 24, 25, 26, 27, 28, 29, 30, 31, 32, 33, 34, 35, 36, 37, 38, 39, 40, 41, 42, 43, 44, 45, 46, 47, 48, 49, 50, 51, 52, 53, 54, 55, 56, 57, 58, 59, 60, 61, 62, 63, 64, 65, 66, 67, 68, 69, 70, 71, 72, 73, 74, 75, 76, 77, 78, 79, 80, 81, 82, 83, 84, 85, 86, 87, 88, 89, 90, 91, 92, 93, 94, 95, 96, 97, 98, 99, 100, 101, 102, 103, 104, 105, 106, 107, 108, 109, 110, 111, 112, 113, 114, 115, 116, 117, 118, 119, 120, 121, 122, 123, 124, 125, 126, 127, 128, 129, 130, 131, 132, 133, 134, 135, 136, 137, 138, 139, 140, 141, 142, 143, 144, 145, 146, 147, 148, 149, 150, 151, 152, 153, 154, 155, 156, 157, 158, 159, 160, 161, 162, 163, 164, 165, 166, 167, 168, 169, 170, 171, 172, 173, 174, 175, 176, 177, 178, 179, 180, 181, 182, 183, 184, 185, 186, 187, 188, 189, 190, 191, 192, 193, 194, 195] (by decide +kernel) (by decide +kernel)
set_option maxRecDepth 20000 in
theorem gX2_playOn_X2_isPossible : GoodIn wsX2_playOn (wsV RX2 42 RX2 yX2_isPossible wsX2_isPossible) := goodIn_app (goodIn_of _ (by decide +kernel)) ggX2_playOn_X2_isPossible
theorem dX2_playOn_0 : decode cX2_playOn 0 = .ok (.aload_n 0, 1) := by decide +kernel
theorem dX2_playOn_1 : decode cX2_playOn 1 = .ok (.iconst 0, 1) := by decide +kernel
theorem dX2_playOn_2 : decode cX2_playOn 2 = .ok (.putfield 19, 3) := by decide +kernel
theorem dX2_playOn_5 : decode cX2_playOn 5 = .ok (.aload_n 0, 1) := by decide +kernel
theorem dX2_playOn_6 : decode cX2_playOn 6 = .ok (.iconst 0, 1) := by decide +kernel
theorem dX2_playOn_7 : decode cX2_playOn 7 = .ok (.putfield 31, 3) := by decide +kernel
theorem dX2_playOn_10 : decode cX2_playOn 10 = .ok (.aload_n 0, 1) := by decide +kernel
theorem dX2_playOn_11 : decode cX2_playOn 11 = .ok (.getfield 19, 3) := by decide +kernel
theorem dX2_playOn_14 : decode cX2_playOn 14 = .ok (.bipush 60, 2) := by decide +kernel
theorem dX2_playOn_16 : decode cX2_playOn 16 = .ok (.if_icmp .ge 45, 3) := by decide +kernel
theorem dX2_playOn_19 : decode cX2_playOn 19 = .ok (.aload_n 0, 1) := by decide +kernel
theorem dX2_playOn_20 : decode cX2_playOn 20 = .ok (.getfield 31, 3) := by decide +kernel
theorem dX2_playOn_23 : decode cX2_playOn 23 = .ok (.aload_n 0, 1) := by decide +kernel
theorem dX2_playOn_24 : decode cX2_playOn 24 = .ok (.getfield 15, 3) := by decide +kernel
theorem dX2_playOn_27 : decode cX2_playOn 27 = .ok (.if_icmp .ge 34, 3) := by decide +kernel
theorem dX2_playOn_30 : decode cX2_playOn 30 = .ok (.aload_n 0, 1) := by decide +kernel
theorem dX2_playOn_31 : decode cX2_playOn 31 = .ok (.aload_n 0, 1) := by decide +kernel
theorem dX2_playOn_32 : decode cX2_playOn 32 = .ok (.getfield 31, 3) := by decide +kernel
theorem dX2_playOn_35 : decode cX2_playOn 35 = .ok (.putfield 28, 3) := by decide +kernel
theorem dX2_playOn_38 : decode cX2_playOn 38 = .ok (.aload_n 0, 1) := by decide +kernel
theorem dX2_playOn_39 : decode cX2_playOn 39 = .ok (.aload_n 1, 1) := by decide +kernel
theorem dX2_playOn_40 : decode cX2_playOn 40 = .ok (.invokevirtual 42, 3) := by decide +kernel
theorem dX2_playOn_43 : decode cX2_playOn 43 = .ok (.ifCond .ne 5, 3) := by decide +kernel
theorem dX2_playOn_46 : decode cX2_playOn 46 = .ok (.iconst 0, 1) := by decide +kernel
theorem dX2_playOn_47 : decode cX2_playOn 47 = .ok (.ireturn, 1) := by decide +kernel
theorem dX2_playOn_48 : decode cX2_playOn 48 = .ok (.aload_n 0, 1) := by decide +kernel
theorem dX2_playOn_49 : decode cX2_playOn 49 = .ok (.dup, 1) := by decide +kernel
theorem dX2_playOn_50 : decode cX2_playOn 50 = .ok (.getfield 19, 3) := by decide +kernel
theorem dX2_playOn_53 : decode cX2_playOn 53 = .ok (.iconst 1, 1) := by decide +kernel
theorem dX2_playOn_54 : decode cX2_playOn 54 = .ok (.iadd, 1) := by decide +kernel
theorem dX2_playOn_55 : decode cX2_playOn 55 = .ok (.putfield 19, 3) := by decide +kernel
theorem dX2_playOn_58 : decode cX2_playOn 58 = .ok (.goto (-48), 3) := by decide +kernel
theorem dX2_playOn_61 : decode cX2_playOn 61 = .ok (.iconst 1, 1) := by decide +kernel
theorem dX2_playOn_62 : decode cX2_playOn 62 = .ok (.ireturn, 1) := by decide +kernel
set_option maxRecDepth 20000 in
theorem ggX2_isPossible_X2_isOfForm : GoodIn wsX2_isPossible wsX2_isOfForm := goodIn_r _ [9, 10, 3, 2, 11, 12, 13, 8, 14, 15, 16, 17, 18, 19, 20, 21, 22, 23, 24, 25, 26, 27, 28, 29, 30, 31, 32, 33, 34, 35, 36, 37, 38, 39, 40, 41, 42, 43, 44, 45, 46, 47, 48, 49, 50, 51, 52, 53, 54, 55, 56, 57, 58, 59, 60, 61, 62, 63, 64, 65, 66, 67, 68, 69, 70, 71, 72, 73, 74, 75, 76, 77, 78, 79, 80, 81, 82, 83, 84, 85, 86, 87, 88, 176, 177, 178, 179, 180, 181, 182, 183, 184] (by decide +kernel) (by decide +kernel)
set_option maxRecDepth 20000 in
theorem gX2_isPossible_X2_isOfForm : GoodIn wsX2_isPossible (wsV RX2 46 RX2 yX2_isOfForm wsX2_isOfForm) := goodIn_app (goodIn_of _ (by decide +kernel)) ggX2_isPossible_X2_isOfForm
set_option maxRecDepth 20000 in
theorem ggX2_isPossible_X2_numberOutOfRange : GoodIn wsX2_isPossible wsX2_numberOutOfRange := goodIn_r _ [92, 3, 81, 93, 11, 12, 13, 8, 14, 15, 16, 94, 95, 96, 97, 98, 99, 100, 101, 102, 103, 176, 177, 178, 179, 180, 181, 182, 183, 184, 185, 186, 187, 188, 189, 190] (by decide +kernel) (by decide +kernel)
set_option maxRecDepth 20000 in
theorem gX2_isPossible_X2_numberOutOfRange : GoodIn wsX2_isPossible (wsV RX2 50 RX2 yX2_numberOutOfRange wsX2_numberOutOfRange) := goodIn_app (goodIn_of _ (by decide +kernel)) ggX2_isPossible_X2_numberOutOfRange
set_option maxRecDepth 20000 in
theorem ggX2_isPossible_X2_doSetting : GoodIn wsX2_isPossible wsX2_doSetting := goodIn_r _ [107, 3, 81, 11, 12, 13, 8, 14, 15, 16, 108, 109, 110, 97, 111, 112, 113, 114, 115, 116, 117, 118, 99, 119, 120, 121, 122, 123, 124, 125, 126, 127, 128, 129, 130, 131, 132, 133, 134, 135, 136, 95, 96, 98, 137, 138, 139, 140, 141, 101, 102, 103, 142, 143, 144, 145, 146, 147, 148, 149, 150, 151, 152, 153, 154, 155, 156, 157, 158, 159, 160, 161, 162, 163, 164, 165, 166, 167, 168, 169, 170, 171, 172, 176, 177, 178, 179, 180, 181, 182, 183, 184, 185, 186, 187, 188, 189, 190] (by decide +kernel) (by decide +kernel)
set_option maxRecDepth 20000 in
theorem gX2_isPossible_X2_doSetting : GoodIn wsX2_isPossible (wsV RX2 54 RX2 yX2_doSetting wsX2_doSetting) := goodIn_app (goodIn_of _ (by decide +kernel)) ggX2_isPossible_X2_doSetting
set_option maxRecDepth 20000 in
theorem ggX2_isPossible_X3_isError : GoodIn wsX2_isPossible wsX3_isError := goodIn_r _ [174, 175] (by decide +kernel) (by decide +kernel)
set_option maxRecDepth 20000 in
theorem gX2_isPossible_X3_isError_n57 : GoodIn wsX2_isPossible (wsX3_isError) := ggX2_isPossible_X3_isError
theorem dX2_isPossible_0 : decode cX2_isPossible 0 = .ok (.aload_n 0, 1) := by decide +kernel
theorem dX2_isPossible_1 : decode cX2_isPossible 1 = .ok (.invokevirtual 46, 3) := by decide +kernel
theorem dX2_isPossible_4 : decode cX2_isPossible 4 = .ok (.ifCond .ne 23, 3) := by decide +kernel
theorem dX2_isPossible_7 : decode cX2_isPossible 7 = .ok (.aload_n 0, 1) := by decide +kernel
theorem dX2_isPossible_8 : decode cX2_isPossible 8 = .ok (.iconst 1, 1) := by decide +kernel
theorem dX2_isPossible_9 : decode cX2_isPossible 9 = .ok (.putfield 22, 3) := by decide +kernel
theorem dX2_isPossible_12 : decode cX2_isPossible 12 = .ok (.aload_n 0, 1) := by decide +kernel
theorem dX2_isPossible_13 : decode cX2_isPossible 13 = .ok (.aload_n 0, 1) := by decide +kernel
theorem dX2_isPossible_14 : decode cX2_isPossible 14 = .ok (.getfield 31, 3) := by decide +kernel
theorem dX2_isPossible_17 : decode cX2_isPossible 17 = .ok (.aload_n 0, 1) := by decide +kernel
theorem dX2_isPossible_18 : decode cX2_isPossible 18 = .ok (.getfield 28, 3) := by decide +kernel
theorem dX2_isPossible_21 : decode cX2_isPossible 21 = .ok (.isub, 1) := by decide +kernel
theorem dX2_isPossible_22 : decode cX2_isPossible 22 = .ok (.putfield 25, 3) := by decide +kernel
theorem dX2_isPossible_25 : decode cX2_isPossible 25 = .ok (.iconst 0, 1) := by decide +kernel
theorem dX2_isPossible_26 : decode cX2_isPossible 26 = .ok (.ireturn, 1) := by decide +kernel
theorem dX2_isPossible_27 : decode cX2_isPossible 27 = .ok (.aload_n 0, 1) := by decide +kernel
theorem dX2_isPossible_28 : decode cX2_isPossible 28 = .ok (.aload_n 1, 1) := by decide +kernel
theorem dX2_isPossible_29 : decode cX2_isPossible 29 = .ok (.invokevirtual 50, 3) := by decide +kernel
theorem dX2_isPossible_32 : decode cX2_isPossible 32 = .ok (.istore_n 2, 1) := by decide +kernel
theorem dX2_isPossible_33 : decode cX2_isPossible 33 = .ok (.iload_n 2, 1) := by decide +kernel
theorem dX2_isPossible_34 : decode cX2_isPossible 34 = .ok (.iconst (-1), 1) := by decide +kernel
theorem dX2_isPossible_35 : decode cX2_isPossible 35 = .ok (.if_icmp .eq 15, 3) := by decide +kernel
theorem dX2_isPossible_38 : decode cX2_isPossible 38 = .ok (.aload_n 0, 1) := by decide +kernel
theorem dX2_isPossible_39 : decode cX2_isPossible 39 = .ok (.iconst 2, 1) := by decide +kernel
theorem dX2_isPossible_40 : decode cX2_isPossible 40 = .ok (.putfield 22, 3) := by decide +kernel
theorem dX2_isPossible_43 : decode cX2_isPossible 43 = .ok (.aload_n 0, 1) := by decide +kernel
theorem dX2_isPossible_44 : decode cX2_isPossible 44 = .ok (.iload_n 2, 1) := by decide +kernel
theorem dX2_isPossible_45 : decode cX2_isPossible 45 = .ok (.putfield 25, 3) := by decide +kernel
theorem dX2_isPossible_48 : decode cX2_isPossible 48 = .ok (.iconst 0, 1) := by decide +kernel
theorem dX2_isPossible_49 : decode cX2_isPossible 49 = .ok (.ireturn, 1) := by decide +kernel
theorem dX2_isPossible_50 : decode cX2_isPossible 50 = .ok (.aload_n 0, 1) := by decide +kernel
theorem dX2_isPossible_51 : decode cX2_isPossible 51 = .ok (.aload_n 1, 1) := by decide +kernel
theorem dX2_isPossible_52 : decode cX2_isPossible 52 = .ok (.invokevirtual 54, 3) := by decide +kernel
theorem dX2_isPossible_55 : decode cX2_isPossible 55 = .ok (.invokestatic 57, 3) := by decide +kernel
theorem dX2_isPossible_58 : decode cX2_isPossible 58 = .ok (.ifCond .eq 10, 3) := by decide +kernel
theorem dX2_isPossible_61 : decode cX2_isPossible 61 = .ok (.aload_n 0, 1) := by decide +kernel
theorem dX2_isPossible_62 : decode cX2_isPossible 62 = .ok (.iconst 3, 1) := by decide +kernel
theorem dX2_isPossible_63 : decode cX2_isPossible 63 = .ok (.putfield 22, 3) := by decide +kernel
theorem dX2_isPossible_66 : decode cX2_isPossible 66 = .ok (.iconst 0, 1) := by decide +kernel
theorem dX2_isPossible_67 : decode cX2_isPossible 67 = .ok (.ireturn, 1) := by decide +kernel
theorem dX2_isPossible_68 : decode cX2_isPossible 68 = .ok (.iconst 1, 1) := by decide +kernel
theorem dX2_isPossible_69 : decode cX2_isPossible 69 = .ok (.ireturn, 1) := by decide +kernel
theorem dX2_characterAt_0 : decode cX2_characterAt 0 = .ok (.iload_n 1, 1) := by decide +kernel
theorem dX2_characterAt_1 : decode cX2_characterAt 1 = .ok (.ifCond .lt 20, 3) := by decide +kernel
theorem dX2_characterAt_4 : decode cX2_characterAt 4 = .ok (.iload_n 1, 1) := by decide +kernel
theorem dX2_characterAt_5 : decode cX2_characterAt 5 = .ok (.aload_n 0, 1) := by decide +kernel
theorem dX2_characterAt_6 : decode cX2_characterAt 6 = .ok (.getfield 15, 3) := by decide +kernel
theorem dX2_characterAt_9 : decode cX2_characterAt 9 = .ok (.if_icmp .ge 12, 3) := by decide +kernel
theorem dX2_characterAt_12 : decode cX2_characterAt 12 = .ok (.aload_n 0, 1) := by decide +kernel
theorem dX2_characterAt_13 : decode cX2_characterAt 13 = .ok (.getfield 9, 3) := by decide +kernel
theorem dX2_characterAt_16 : decode cX2_characterAt 16 = .ok (.iload_n 1, 1) := by decide +kernel
theorem dX2_characterAt_17 : decode cX2_characterAt 17 = .ok (.iaload, 1) := by decide +kernel
theorem dX2_characterAt_18 : decode cX2_characterAt 18 = .ok (.goto 4, 3) := by decide +kernel
theorem dX2_characterAt_21 : decode cX2_characterAt 21 = .ok (.iconst (-1), 1) := by decide +kernel
theorem dX2_characterAt_22 : decode cX2_characterAt 22 = .ok (.ireturn, 1) := by decide +kernel
theorem dX2_formAfter_0 : decode cX2_formAfter 0 = .ok (.iload_n 0, 1) := by decide +kernel
theorem dX2_formAfter_1 : decode cX2_formAfter 1 = .ok (.tableswitch 106 102 120 #[100, 106, 106, 106, 106, 97, 103, 106, 106, 106, 94, 106, 103, 106, 106, 106, 106, 91, 91], 91) := by decide +kernel
theorem dX2_formAfter_92 : decode cX2_formAfter 92 = .ok (.ldc 61, 2) := by decide +kernel
theorem dX2_formAfter_94 : decode cX2_formAfter 94 = .ok (.areturn, 1) := by decide +kernel
theorem dX2_formAfter_95 : decode cX2_formAfter 95 = .ok (.ldc 63, 2) := by decide +kernel
theorem dX2_formAfter_97 : decode cX2_formAfter 97 = .ok (.areturn, 1) := by decide +kernel
theorem dX2_formAfter_98 : decode cX2_formAfter 98 = .ok (.ldc 65, 2) := by decide +kernel
theorem dX2_formAfter_100 : decode cX2_formAfter 100 = .ok (.areturn, 1) := by decide +kernel
theorem dX2_formAfter_101 : decode cX2_formAfter 101 = .ok (.ldc 67, 2) := by decide +kernel
theorem dX2_formAfter_103 : decode cX2_formAfter 103 = .ok (.areturn, 1) := by decide +kernel
theorem dX2_formAfter_104 : decode cX2_formAfter 104 = .ok (.ldc 69, 2) := by decide +kernel
theorem dX2_formAfter_106 : decode cX2_formAfter 106 = .ok (.areturn, 1) := by decide +kernel
theorem dX2_formAfter_107 : decode cX2_formAfter 107 = .ok (.ldc 71, 2) := by decide +kernel
theorem dX2_formAfter_109 : decode cX2_formAfter 109 = .ok (.areturn, 1) := by decide +kernel
set_option maxRecDepth 20000 in
theorem ggX2_isOfForm_X2_characterAt : GoodIn wsX2_isOfForm wsX2_characterAt := goodIn_r _ [8, 9, 10, 83, 84, 85, 86, 87, 88, 89, 90, 91] (by decide +kernel) (by decide +kernel)
set_option maxRecDepth 20000 in
theorem gX2_isOfForm_X2_characterAt : GoodIn wsX2_isOfForm (wsV RX2 73 RX2 yX2_characterAt wsX2_characterAt) := goodIn_app (goodIn_of _ (by decide +kernel)) ggX2_isOfForm_X2_characterAt
set_option maxRecDepth 20000 in
theorem ggX2_isOfForm_X2_formAfter : GoodIn wsX2_isOfForm wsX2_formAfter := goodIn_r _ [13] (by decide +kernel) (by decide +kernel)
set_option maxRecDepth 20000 in
theorem gX2_isOfForm_X2_formAfter : GoodIn wsX2_isOfForm (va_wsS RX2 77 yX2_formAfter wsX2_formAfter) := goodIn_app (goodIn_of _ (by decide +kernel)) ggX2_isOfForm_X2_formAfter
set_option maxRecDepth 20000 in
theorem ggX2_isOfForm_J0_isEmpty_aae02 : GoodIn wsX2_isOfForm wsJ0_isEmpty_aae02 := goodIn_r _ [18, 19] (by decide +kernel) (by decide +kernel)
set_option maxRecDepth 20000 in
theorem gX2_isOfForm_J0_isEmpty_aae02 : GoodIn wsX2_isOfForm (wsV RX2 81 RJ0 yJ0_isEmpty_aae02 wsJ0_isEmpty_aae02) := goodIn_app (goodIn_of _ (by decide +kernel)) ggX2_isOfForm_J0_isEmpty_aae02
set_option maxRecDepth 20000 in
theorem ggX2_isOfForm_J0_length_8abf5 : GoodIn wsX2_isOfForm wsJ0_length_8abf5 := goodIn_r _ [23, 19, 24, 25, 26, 17, 27, 28, 29] (by decide +kernel) (by decide +kernel)
set_option maxRecDepth 20000 in
theorem gX2_isOfForm_J0_length_8abf5 : GoodIn wsX2_isOfForm (wsV RX2 86 RJ0 yJ0_length_8abf5 wsJ0_length_8abf5) := goodIn_app (goodIn_of _ (by decide +kernel)) ggX2_isOfForm_J0_length_8abf5
set_option maxRecDepth 20000 in
theorem ggX2_isOfForm_J0_charAt_5068e : GoodIn wsX2_isOfForm wsJ0_charAt_5068e := goodIn_r _ [33, 19, 34, 35, 36, 17, 37, 28, 29, 38, 39, 40, 41, 42, 43, 44, 45, 46, 47, 48, 49, 50, 51, 52, 53, 54, 55, 56, 57, 58, 59, 60, 61, 62, 63, 64, 65, 66] (by decide +kernel) (by decide +kernel)
set_option maxRecDepth 20000 in
theorem gX2_isOfForm_J0_charAt_5068e : GoodIn wsX2_isOfForm (wsV RX2 90 RJ0 yJ0_charAt_5068e wsJ0_charAt_5068e) := goodIn_app (goodIn_of _ (by decide +kernel)) ggX2_isOfForm_J0_charAt_5068e
set_option maxRecDepth 20000 in
theorem ggX2_isOfForm_X2_readPart : GoodIn wsX2_isOfForm wsX2_readPart := goodIn_r _ [70, 71, 72, 73, 7, 74, 3, 1, 75, 4, 5, 6, 8, 9, 10, 76, 77, 78, 79, 80, 81, 82, 83, 84, 85, 86, 87, 88, 89, 90, 91] (by decide +kernel) (by decide +kernel)
set_option maxRecDepth 20000 in
theorem gX2_isOfForm_X2_readPart : GoodIn wsX2_isOfForm (wsV RX2 94 RX2 yX2_readPart wsX2_readPart) := goodIn_app (goodIn_of _ (by decide +kernel)) ggX2_isOfForm_X2_readPart
theorem dX2_isOfForm_0 : decode cX2_isOfForm 0 = .ok (.aload_n 0, 1) := by decide +kernel
theorem dX2_isOfForm_1 : decode cX2_isOfForm 1 = .ok (.iconst 0, 1) := by decide +kernel
theorem dX2_isOfForm_2 : decode cX2_isOfForm 2 = .ok (.putfield 37, 3) := by decide +kernel
theorem dX2_isOfForm_5 : decode cX2_isOfForm 5 = .ok (.aload_n 0, 1) := by decide +kernel
theorem dX2_isOfForm_6 : decode cX2_isOfForm 6 = .ok (.aload_n 0, 1) := by decide +kernel
theorem dX2_isOfForm_7 : decode cX2_isOfForm 7 = .ok (.getfield 28, 3) := by decide +kernel
theorem dX2_isOfForm_10 : decode cX2_isOfForm 10 = .ok (.invokevirtual 73, 3) := by decide +kernel
theorem dX2_isOfForm_13 : decode cX2_isOfForm 13 = .ok (.invokestatic 77, 3) := by decide +kernel
theorem dX2_isOfForm_16 : decode cX2_isOfForm 16 = .ok (.astore_n 1, 1) := by decide +kernel
theorem dX2_isOfForm_17 : decode cX2_isOfForm 17 = .ok (.aload_n 1, 1) := by decide +kernel
theorem dX2_isOfForm_18 : decode cX2_isOfForm 18 = .ok (.invokevirtual 81, 3) := by decide +kernel
theorem dX2_isOfForm_21 : decode cX2_isOfForm 21 = .ok (.ifCond .eq 5, 3) := by decide +kernel
theorem dX2_isOfForm_24 : decode cX2_isOfForm 24 = .ok (.iconst 0, 1) := by decide +kernel
theorem dX2_isOfForm_25 : decode cX2_isOfForm 25 = .ok (.ireturn, 1) := by decide +kernel
theorem dX2_isOfForm_26 : decode cX2_isOfForm 26 = .ok (.aload_n 0, 1) := by decide +kernel
theorem dX2_isOfForm_27 : decode cX2_isOfForm 27 = .ok (.aload_n 0, 1) := by decide +kernel
theorem dX2_isOfForm_28 : decode cX2_isOfForm 28 = .ok (.getfield 28, 3) := by decide +kernel
theorem dX2_isOfForm_31 : decode cX2_isOfForm 31 = .ok (.iconst 1, 1) := by decide +kernel
theorem dX2_isOfForm_32 : decode cX2_isOfForm 32 = .ok (.iadd, 1) := by decide +kernel
theorem dX2_isOfForm_33 : decode cX2_isOfForm 33 = .ok (.putfield 31, 3) := by decide +kernel
theorem dX2_isOfForm_36 : decode cX2_isOfForm 36 = .ok (.iconst 0, 1) := by decide +kernel
theorem dX2_isOfForm_37 : decode cX2_isOfForm 37 = .ok (.istore_n 2, 1) := by decide +kernel
theorem dX2_isOfForm_38 : decode cX2_isOfForm 38 = .ok (.iload_n 2, 1) := by decide +kernel
theorem dX2_isOfForm_39 : decode cX2_isOfForm 39 = .ok (.aload_n 1, 1) := by decide +kernel
theorem dX2_isOfForm_40 : decode cX2_isOfForm 40 = .ok (.invokevirtual 86, 3) := by decide +kernel
theorem dX2_isOfForm_43 : decode cX2_isOfForm 43 = .ok (.if_icmp .ge 23, 3) := by decide +kernel
theorem dX2_isOfForm_46 : decode cX2_isOfForm 46 = .ok (.aload_n 0, 1) := by decide +kernel
theorem dX2_isOfForm_47 : decode cX2_isOfForm 47 = .ok (.aload_n 1, 1) := by decide +kernel
theorem dX2_isOfForm_48 : decode cX2_isOfForm 48 = .ok (.iload_n 2, 1) := by decide +kernel
theorem dX2_isOfForm_49 : decode cX2_isOfForm 49 = .ok (.invokevirtual 90, 3) := by decide +kernel
theorem dX2_isOfForm_52 : decode cX2_isOfForm 52 = .ok (.invokevirtual 94, 3) := by decide +kernel
theorem dX2_isOfForm_55 : decode cX2_isOfForm 55 = .ok (.ifCond .ne 5, 3) := by decide +kernel
theorem dX2_isOfForm_58 : decode cX2_isOfForm 58 = .ok (.iconst 0, 1) := by decide +kernel
theorem dX2_isOfForm_59 : decode cX2_isOfForm 59 = .ok (.ireturn, 1) := by decide +kernel
theorem dX2_isOfForm_60 : decode cX2_isOfForm 60 = .ok (.iinc 2 1, 3) := by decide +kernel
theorem dX2_isOfForm_63 : decode cX2_isOfForm 63 = .ok (.goto (-25), 3) := by decide +kernel
theorem dX2_isOfForm_66 : decode cX2_isOfForm 66 = .ok (.iconst 1, 1) := by decide +kernel
theorem dX2_isOfForm_67 : decode cX2_isOfForm 67 = .ok (.ireturn, 1) := by decide +kernel
set_option maxRecDepth 20000 in
theorem ggX2_readPart_X2_readNumber : GoodIn wsX2_readPart wsX2_readNumber := goodIn_r _ [5, 6, 7, 8, 9, 10, 11, 4, 12, 13, 14, 15, 16, 17, 22, 23, 24, 25, 26, 27, 28, 29, 30] (by decide +kernel) (by decide +kernel)
set_option maxRecDepth 20000 in
theorem gX2_readPart_X2_readNumber : GoodIn wsX2_readPart (wsV RX2 98 RX2 yX2_readNumber wsX2_readNumber) := goodIn_app (goodIn_of _ (by decide +kernel)) ggX2_readPart_X2_readNumber
set_option maxRecDepth 20000 in
theorem ggX2_readPart_X2_readCharacter : GoodIn wsX2_readPart wsX2_readCharacter := goodIn_r _ [21, 6, 9, 10, 11, 4, 12, 13, 14, 22, 23, 24, 25, 26, 27, 28, 29, 30] (by decide +kernel) (by decide +kernel)
set_option maxRecDepth 20000 in
theorem gX2_readPart_X2_readCharacter : GoodIn wsX2_readPart (wsV RX2 101 RX2 yX2_readCharacter wsX2_readCharacter) := goodIn_app (goodIn_of _ (by decide +kernel)) ggX2_readPart_X2_readCharacter
theorem dX2_readPart_0 : decode cX2_readPart 0 = .ok (.iload_n 1, 1) := by decide +kernel
theorem dX2_readPart_1 : decode cX2_readPart 1 = .ok (.bipush 48, 2) := by decide +kernel
theorem dX2_readPart_3 : decode cX2_readPart 3 = .ok (.if_icmp .ne 9, 3) := by decide +kernel
theorem dX2_readPart_6 : decode cX2_readPart 6 = .ok (.aload_n 0, 1) := by decide +kernel
theorem dX2_readPart_7 : decode cX2_readPart 7 = .ok (.iconst 1, 1) := by decide +kernel
theorem dX2_readPart_8 : decode cX2_readPart 8 = .ok (.invokevirtual 98, 3) := by decide +kernel
theorem dX2_readPart_11 : decode cX2_readPart 11 = .ok (.ireturn, 1) := by decide +kernel
theorem dX2_readPart_12 : decode cX2_readPart 12 = .ok (.iload_n 1, 1) := by decide +kernel
theorem dX2_readPart_13 : decode cX2_readPart 13 = .ok (.bipush 45, 2) := by decide +kernel
theorem dX2_readPart_15 : decode cX2_readPart 15 = .ok (.if_icmp .ne 22, 3) := by decide +kernel
theorem dX2_readPart_18 : decode cX2_readPart 18 = .ok (.aload_n 0, 1) := by decide +kernel
theorem dX2_readPart_19 : decode cX2_readPart 19 = .ok (.aload_n 0, 1) := by decide +kernel
theorem dX2_readPart_20 : decode cX2_readPart 20 = .ok (.bipush 45, 2) := by decide +kernel
theorem dX2_readPart_22 : decode cX2_readPart 22 = .ok (.invokevirtual 101, 3) := by decide +kernel
theorem dX2_readPart_25 : decode cX2_readPart 25 = .ok (.ifCond .eq 7, 3) := by decide +kernel
theorem dX2_readPart_28 : decode cX2_readPart 28 = .ok (.iconst (-1), 1) := by decide +kernel
theorem dX2_readPart_29 : decode cX2_readPart 29 = .ok (.goto 4, 3) := by decide +kernel
theorem dX2_readPart_32 : decode cX2_readPart 32 = .ok (.iconst 1, 1) := by decide +kernel
theorem dX2_readPart_33 : decode cX2_readPart 33 = .ok (.invokevirtual 98, 3) := by decide +kernel
theorem dX2_readPart_36 : decode cX2_readPart 36 = .ok (.ireturn, 1) := by decide +kernel
theorem dX2_readPart_37 : decode cX2_readPart 37 = .ok (.aload_n 0, 1) := by decide +kernel
theorem dX2_readPart_38 : decode cX2_readPart 38 = .ok (.iload_n 1, 1) := by decide +kernel
theorem dX2_readPart_39 : decode cX2_readPart 39 = .ok (.invokevirtual 101, 3) := by decide +kernel
theorem dX2_readPart_42 : decode cX2_readPart 42 = .ok (.ireturn, 1) := by decide +kernel
set_option maxRecDepth 20000 in
theorem ggX2_readCharacter_X2_characterAt : GoodIn wsX2_readCharacter wsX2_characterAt := goodIn_r _ [6, 7, 8, 9, 10, 11, 12, 13, 14, 15, 16, 17] (by decide +kernel) (by decide +kernel)
set_option maxRecDepth 20000 in
theorem gX2_readCharacter_X2_characterAt : GoodIn wsX2_readCharacter (wsV RX2 73 RX2 yX2_characterAt wsX2_characterAt) := goodIn_app (goodIn_of _ (by decide +kernel)) ggX2_readCharacter_X2_characterAt
theorem dX2_readCharacter_0 : decode cX2_readCharacter 0 = .ok (.aload_n 0, 1) := by decide +kernel
theorem dX2_readCharacter_1 : decode cX2_readCharacter 1 = .ok (.aload_n 0, 1) := by decide +kernel
theorem dX2_readCharacter_2 : decode cX2_readCharacter 2 = .ok (.getfield 31, 3) := by decide +kernel
theorem dX2_readCharacter_5 : decode cX2_readCharacter 5 = .ok (.invokevirtual 73, 3) := by decide +kernel
theorem dX2_readCharacter_8 : decode cX2_readCharacter 8 = .ok (.iload_n 1, 1) := by decide +kernel
theorem dX2_readCharacter_9 : decode cX2_readCharacter 9 = .ok (.if_icmp .eq 5, 3) := by decide +kernel
theorem dX2_readCharacter_12 : decode cX2_readCharacter 12 = .ok (.iconst 0, 1) := by decide +kernel
theorem dX2_readCharacter_13 : decode cX2_readCharacter 13 = .ok (.ireturn, 1) := by decide +kernel
theorem dX2_readCharacter_14 : decode cX2_readCharacter 14 = .ok (.aload_n 0, 1) := by decide +kernel
theorem dX2_readCharacter_15 : decode cX2_readCharacter 15 = .ok (.dup, 1) := by decide +kernel
theorem dX2_readCharacter_16 : decode cX2_readCharacter 16 = .ok (.getfield 31, 3) := by decide +kernel
theorem dX2_readCharacter_19 : decode cX2_readCharacter 19 = .ok (.iconst 1, 1) := by decide +kernel
theorem dX2_readCharacter_20 : decode cX2_readCharacter 20 = .ok (.iadd, 1) := by decide +kernel
theorem dX2_readCharacter_21 : decode cX2_readCharacter 21 = .ok (.putfield 31, 3) := by decide +kernel
theorem dX2_readCharacter_24 : decode cX2_readCharacter 24 = .ok (.iconst 1, 1) := by decide +kernel
theorem dX2_readCharacter_25 : decode cX2_readCharacter 25 = .ok (.ireturn, 1) := by decide +kernel
set_option maxRecDepth 20000 in
theorem ggX2_readNumber_X2_characterAt : GoodIn wsX2_readNumber wsX2_characterAt := goodIn_r _ [8, 9, 10, 14, 15, 16, 17, 18, 19, 20, 21, 22] (by decide +kernel) (by decide +kernel)
set_option maxRecDepth 20000 in
theorem gX2_readNumber_X2_characterAt : GoodIn wsX2_readNumber (wsV RX2 73 RX2 yX2_characterAt wsX2_characterAt) := goodIn_app (goodIn_of _ (by decide +kernel)) ggX2_readNumber_X2_characterAt
set_option maxRecDepth 20000 in
theorem ggX2_readNumber_X2_isDigit : GoodIn wsX2_readNumber wsX2_isDigit := goodIn_r _ [13] (by decide +kernel) (by decide +kernel)
set_option maxRecDepth 20000 in
theorem gX2_readNumber_X2_isDigit : GoodIn wsX2_readNumber (va_wsS RX2 104 yX2_isDigit wsX2_isDigit) := goodIn_app (goodIn_of _ (by decide +kernel)) ggX2_readNumber_X2_isDigit
theorem dX2_readNumber_0 : decode cX2_readNumber 0 = .ok (.iconst 0, 1) := by decide +kernel
theorem dX2_readNumber_1 : decode cX2_readNumber 1 = .ok (.istore_n 2, 1) := by decide +kernel
theorem dX2_readNumber_2 : decode cX2_readNumber 2 = .ok (.iconst 0, 1) := by decide +kernel
theorem dX2_readNumber_3 : decode cX2_readNumber 3 = .ok (.istore_n 3, 1) := by decide +kernel
theorem dX2_readNumber_4 : decode cX2_readNumber 4 = .ok (.iload_n 3, 1) := by decide +kernel
theorem dX2_readNumber_5 : decode cX2_readNumber 5 = .ok (.iconst 2, 1) := by decide +kernel
theorem dX2_readNumber_6 : decode cX2_readNumber 6 = .ok (.if_icmp .ge 50, 3) := by decide +kernel
theorem dX2_readNumber_9 : decode cX2_readNumber 9 = .ok (.aload_n 0, 1) := by decide +kernel
theorem dX2_readNumber_10 : decode cX2_readNumber 10 = .ok (.aload_n 0, 1) := by decide +kernel
theorem dX2_readNumber_11 : decode cX2_readNumber 11 = .ok (.getfield 31, 3) := by decide +kernel
theorem dX2_readNumber_14 : decode cX2_readNumber 14 = .ok (.invokevirtual 73, 3) := by decide +kernel
theorem dX2_readNumber_17 : decode cX2_readNumber 17 = .ok (.invokestatic 104, 3) := by decide +kernel
theorem dX2_readNumber_20 : decode cX2_readNumber 20 = .ok (.ifCond .eq 36, 3) := by decide +kernel
theorem dX2_readNumber_23 : decode cX2_readNumber 23 = .ok (.bipush 10, 2) := by decide +kernel
theorem dX2_readNumber_25 : decode cX2_readNumber 25 = .ok (.iload_n 2, 1) := by decide +kernel
theorem dX2_readNumber_26 : decode cX2_readNumber 26 = .ok (.imul, 1) := by decide +kernel
theorem dX2_readNumber_27 : decode cX2_readNumber 27 = .ok (.aload_n 0, 1) := by decide +kernel
theorem dX2_readNumber_28 : decode cX2_readNumber 28 = .ok (.aload_n 0, 1) := by decide +kernel
theorem dX2_readNumber_29 : decode cX2_readNumber 29 = .ok (.getfield 31, 3) := by decide +kernel
theorem dX2_readNumber_32 : decode cX2_readNumber 32 = .ok (.invokevirtual 73, 3) := by decide +kernel
theorem dX2_readNumber_35 : decode cX2_readNumber 35 = .ok (.iadd, 1) := by decide +kernel
theorem dX2_readNumber_36 : decode cX2_readNumber 36 = .ok (.bipush 48, 2) := by decide +kernel
theorem dX2_readNumber_38 : decode cX2_readNumber 38 = .ok (.isub, 1) := by decide +kernel
theorem dX2_readNumber_39 : decode cX2_readNumber 39 = .ok (.istore_n 2, 1) := by decide +kernel
theorem dX2_readNumber_40 : decode cX2_readNumber 40 = .ok (.aload_n 0, 1) := by decide +kernel
theorem dX2_readNumber_41 : decode cX2_readNumber 41 = .ok (.dup, 1) := by decide +kernel
theorem dX2_readNumber_42 : decode cX2_readNumber 42 = .ok (.getfield 31, 3) := by decide +kernel
theorem dX2_readNumber_45 : decode cX2_readNumber 45 = .ok (.iconst 1, 1) := by decide +kernel
theorem dX2_readNumber_46 : decode cX2_readNumber 46 = .ok (.iadd, 1) := by decide +kernel
theorem dX2_readNumber_47 : decode cX2_readNumber 47 = .ok (.putfield 31, 3) := by decide +kernel
theorem dX2_readNumber_50 : decode cX2_readNumber 50 = .ok (.iinc 3 1, 3) := by decide +kernel
theorem dX2_readNumber_53 : decode cX2_readNumber 53 = .ok (.goto (-49), 3) := by decide +kernel
theorem dX2_readNumber_56 : decode cX2_readNumber 56 = .ok (.iload_n 3, 1) := by decide +kernel
theorem dX2_readNumber_57 : decode cX2_readNumber 57 = .ok (.ifCond .eq 11, 3) := by decide +kernel
theorem dX2_readNumber_60 : decode cX2_readNumber 60 = .ok (.aload_n 0, 1) := by decide +kernel
theorem dX2_readNumber_61 : decode cX2_readNumber 61 = .ok (.getfield 37, 3) := by decide +kernel
theorem dX2_readNumber_64 : decode cX2_readNumber 64 = .ok (.iconst 3, 1) := by decide +kernel
theorem dX2_readNumber_65 : decode cX2_readNumber 65 = .ok (.if_icmp .lt 5, 3) := by decide +kernel
theorem dX2_readNumber_68 : decode cX2_readNumber 68 = .ok (.iconst 0, 1) := by decide +kernel
theorem dX2_readNumber_69 : decode cX2_readNumber 69 = .ok (.ireturn, 1) := by decide +kernel
theorem dX2_readNumber_70 : decode cX2_readNumber 70 = .ok (.aload_n 0, 1) := by decide +kernel
theorem dX2_readNumber_71 : decode cX2_readNumber 71 = .ok (.getfield 34, 3) := by decide +kernel
theorem dX2_readNumber_74 : decode cX2_readNumber 74 = .ok (.aload_n 0, 1) := by decide +kernel
theorem dX2_readNumber_75 : decode cX2_readNumber 75 = .ok (.getfield 37, 3) := by decide +kernel
theorem dX2_readNumber_78 : decode cX2_readNumber 78 = .ok (.iload_n 1, 1) := by decide +kernel
theorem dX2_readNumber_79 : decode cX2_readNumber 79 = .ok (.iload_n 2, 1) := by decide +kernel
theorem dX2_readNumber_80 : decode cX2_readNumber 80 = .ok (.imul, 1) := by decide +kernel
theorem dX2_readNumber_81 : decode cX2_readNumber 81 = .ok (.iastore, 1) := by decide +kernel
theorem dX2_readNumber_82 : decode cX2_readNumber 82 = .ok (.aload_n 0, 1) := by decide +kernel
theorem dX2_readNumber_83 : decode cX2_readNumber 83 = .ok (.dup, 1) := by decide +kernel
theorem dX2_readNumber_84 : decode cX2_readNumber 84 = .ok (.getfield 37, 3) := by decide +kernel
theorem dX2_readNumber_87 : decode cX2_readNumber 87 = .ok (.iconst 1, 1) := by decide +kernel
theorem dX2_readNumber_88 : decode cX2_readNumber 88 = .ok (.iadd, 1) := by decide +kernel
theorem dX2_readNumber_89 : decode cX2_readNumber 89 = .ok (.putfield 37, 3) := by decide +kernel
theorem dX2_readNumber_92 : decode cX2_readNumber 92 = .ok (.iconst 1, 1) := by decide +kernel
theorem dX2_readNumber_93 : decode cX2_readNumber 93 = .ok (.ireturn, 1) := by decide +kernel
theorem dX2_isDigit_0 : decode cX2_isDigit 0 = .ok (.iload_n 0, 1) := by decide +kernel
theorem dX2_isDigit_1 : decode cX2_isDigit 1 = .ok (.bipush 48, 2) := by decide +kernel
theorem dX2_isDigit_3 : decode cX2_isDigit 3 = .ok (.if_icmp .lt 13, 3) := by decide +kernel
theorem dX2_isDigit_6 : decode cX2_isDigit 6 = .ok (.iload_n 0, 1) := by decide +kernel
theorem dX2_isDigit_7 : decode cX2_isDigit 7 = .ok (.bipush 57, 2) := by decide +kernel
theorem dX2_isDigit_9 : decode cX2_isDigit 9 = .ok (.if_icmp .gt 7, 3) := by decide +kernel
theorem dX2_isDigit_12 : decode cX2_isDigit 12 = .ok (.iconst 1, 1) := by decide +kernel
theorem dX2_isDigit_13 : decode cX2_isDigit 13 = .ok (.goto 4, 3) := by decide +kernel
theorem dX2_isDigit_16 : decode cX2_isDigit 16 = .ok (.iconst 0, 1) := by decide +kernel
theorem dX2_isDigit_17 : decode cX2_isDigit 17 = .ok (.ireturn, 1) := by decide +kernel
set_option maxRecDepth 20000 in
theorem ggX2_numberOutOfRange_X2_characterAt : GoodIn wsX2_numberOutOfRange wsX2_characterAt := goodIn_r _ [8, 9, 10, 21, 22, 23, 24, 25, 26, 27, 28, 29] (by decide +kernel) (by decide +kernel)
set_option maxRecDepth 20000 in
theorem gX2_numberOutOfRange_X2_characterAt : GoodIn wsX2_numberOutOfRange (wsV RX2 73 RX2 yX2_characterAt wsX2_characterAt) := goodIn_app (goodIn_of _ (by decide +kernel)) ggX2_numberOutOfRange_X2_characterAt
set_option maxRecDepth 20000 in
theorem ggX2_numberOutOfRange_X0_hasSpring : GoodIn wsX2_numberOutOfRange wsX0_hasSpring := goodIn_r _ [15, 16, 30, 31, 32, 33, 34, 35] (by decide +kernel) (by decide +kernel)
set_option maxRecDepth 20000 in
theorem gX2_numberOutOfRange_X0_hasSpring : GoodIn wsX2_numberOutOfRange (wsV RX2 107 RX0 yX0_hasSpring wsX0_hasSpring) := goodIn_app (goodIn_of _ (by decide +kernel)) ggX2_numberOutOfRange_X0_hasSpring
set_option maxRecDepth 20000 in
theorem ggX2_numberOutOfRange_X0_hasPlate : GoodIn wsX2_numberOutOfRange wsX0_hasPlate := goodIn_r _ [20, 16, 30, 31, 32, 33, 34, 35] (by decide +kernel) (by decide +kernel)
set_option maxRecDepth 20000 in
theorem gX2_numberOutOfRange_X0_hasPlate : GoodIn wsX2_numberOutOfRange (wsV RX2 112 RX0 yX0_hasPlate wsX0_hasPlate) := goodIn_app (goodIn_of _ (by decide +kernel)) ggX2_numberOutOfRange_X0_hasPlate
theorem dX2_numberOutOfRange_0 : decode cX2_numberOutOfRange 0 = .ok (.aload_n 0, 1) := by decide +kernel
theorem dX2_numberOutOfRange_1 : decode cX2_numberOutOfRange 1 = .ok (.aload_n 0, 1) := by decide +kernel
theorem dX2_numberOutOfRange_2 : decode cX2_numberOutOfRange 2 = .ok (.getfield 28, 3) := by decide +kernel
theorem dX2_numberOutOfRange_5 : decode cX2_numberOutOfRange 5 = .ok (.invokevirtual 73, 3) := by decide +kernel
theorem dX2_numberOutOfRange_8 : decode cX2_numberOutOfRange 8 = .ok (.tableswitch 217 102 120 #[164, 217, 217, 217, 217, 109, 183, 217, 217, 217, 217, 217, 183, 217, 217, 217, 217, 92, 164], 92) := by decide +kernel
theorem dX2_numberOutOfRange_100 : decode cX2_numberOutOfRange 100 = .ok (.aload_n 0, 1) := by decide +kernel
theorem dX2_numberOutOfRange_101 : decode cX2_numberOutOfRange 101 = .ok (.getfield 34, 3) := by decide +kernel
theorem dX2_numberOutOfRange_104 : decode cX2_numberOutOfRange 104 = .ok (.iconst 0, 1) := by decide +kernel
theorem dX2_numberOutOfRange_105 : decode cX2_numberOutOfRange 105 = .ok (.iaload, 1) := by decide +kernel
theorem dX2_numberOutOfRange_106 : decode cX2_numberOutOfRange 106 = .ok (.bipush 10, 2) := by decide +kernel
theorem dX2_numberOutOfRange_108 : decode cX2_numberOutOfRange 108 = .ok (.if_icmp .ge 7, 3) := by decide +kernel
theorem dX2_numberOutOfRange_111 : decode cX2_numberOutOfRange 111 = .ok (.iconst 0, 1) := by decide +kernel
theorem dX2_numberOutOfRange_112 : decode cX2_numberOutOfRange 112 = .ok (.goto 4, 3) := by decide +kernel
theorem dX2_numberOutOfRange_115 : decode cX2_numberOutOfRange 115 = .ok (.iconst (-1), 1) := by decide +kernel
theorem dX2_numberOutOfRange_116 : decode cX2_numberOutOfRange 116 = .ok (.ireturn, 1) := by decide +kernel
theorem dX2_numberOutOfRange_117 : decode cX2_numberOutOfRange 117 = .ok (.aload_n 1, 1) := by decide +kernel
theorem dX2_numberOutOfRange_118 : decode cX2_numberOutOfRange 118 = .ok (.aload_n 0, 1) := by decide +kernel
theorem dX2_numberOutOfRange_119 : decode cX2_numberOutOfRange 119 = .ok (.getfield 34, 3) := by decide +kernel
theorem dX2_numberOutOfRange_122 : decode cX2_numberOutOfRange 122 = .ok (.iconst 0, 1) := by decide +kernel
theorem dX2_numberOutOfRange_123 : decode cX2_numberOutOfRange 123 = .ok (.iaload, 1) := by decide +kernel
theorem dX2_numberOutOfRange_124 : decode cX2_numberOutOfRange 124 = .ok (.invokevirtual 107, 3) := by decide +kernel
theorem dX2_numberOutOfRange_127 : decode cX2_numberOutOfRange 127 = .ok (.ifCond .ne 5, 3) := by decide +kernel
theorem dX2_numberOutOfRange_130 : decode cX2_numberOutOfRange 130 = .ok (.iconst 0, 1) := by decide +kernel
theorem dX2_numberOutOfRange_131 : decode cX2_numberOutOfRange 131 = .ok (.ireturn, 1) := by decide +kernel
theorem dX2_numberOutOfRange_132 : decode cX2_numberOutOfRange 132 = .ok (.aload_n 0, 1) := by decide +kernel
theorem dX2_numberOutOfRange_133 : decode cX2_numberOutOfRange 133 = .ok (.getfield 34, 3) := by decide +kernel
theorem dX2_numberOutOfRange_136 : decode cX2_numberOutOfRange 136 = .ok (.iconst 1, 1) := by decide +kernel
theorem dX2_numberOutOfRange_137 : decode cX2_numberOutOfRange 137 = .ok (.iaload, 1) := by decide +kernel
theorem dX2_numberOutOfRange_138 : decode cX2_numberOutOfRange 138 = .ok (.iconst 1, 1) := by decide +kernel
theorem dX2_numberOutOfRange_139 : decode cX2_numberOutOfRange 139 = .ok (.if_icmp .lt 14, 3) := by decide +kernel
theorem dX2_numberOutOfRange_142 : decode cX2_numberOutOfRange 142 = .ok (.aload_n 0, 1) := by decide +kernel
theorem dX2_numberOutOfRange_143 : decode cX2_numberOutOfRange 143 = .ok (.getfield 34, 3) := by decide +kernel
theorem dX2_numberOutOfRange_146 : decode cX2_numberOutOfRange 146 = .ok (.iconst 1, 1) := by decide +kernel
theorem dX2_numberOutOfRange_147 : decode cX2_numberOutOfRange 147 = .ok (.iaload, 1) := by decide +kernel
theorem dX2_numberOutOfRange_148 : decode cX2_numberOutOfRange 148 = .ok (.bipush 9, 2) := by decide +kernel
theorem dX2_numberOutOfRange_150 : decode cX2_numberOutOfRange 150 = .ok (.if_icmp .le 5, 3) := by decide +kernel
theorem dX2_numberOutOfRange_153 : decode cX2_numberOutOfRange 153 = .ok (.iconst 1, 1) := by decide +kernel
theorem dX2_numberOutOfRange_154 : decode cX2_numberOutOfRange 154 = .ok (.ireturn, 1) := by decide +kernel
theorem dX2_numberOutOfRange_155 : decode cX2_numberOutOfRange 155 = .ok (.aload_n 0, 1) := by decide +kernel
theorem dX2_numberOutOfRange_156 : decode cX2_numberOutOfRange 156 = .ok (.getfield 34, 3) := by decide +kernel
theorem dX2_numberOutOfRange_159 : decode cX2_numberOutOfRange 159 = .ok (.iconst 2, 1) := by decide +kernel
theorem dX2_numberOutOfRange_160 : decode cX2_numberOutOfRange 160 = .ok (.iaload, 1) := by decide +kernel
theorem dX2_numberOutOfRange_161 : decode cX2_numberOutOfRange 161 = .ok (.bipush 50, 2) := by decide +kernel
theorem dX2_numberOutOfRange_163 : decode cX2_numberOutOfRange 163 = .ok (.if_icmp .le 7, 3) := by decide +kernel
theorem dX2_numberOutOfRange_166 : decode cX2_numberOutOfRange 166 = .ok (.iconst 2, 1) := by decide +kernel
theorem dX2_numberOutOfRange_167 : decode cX2_numberOutOfRange 167 = .ok (.goto 4, 3) := by decide +kernel
theorem dX2_numberOutOfRange_170 : decode cX2_numberOutOfRange 170 = .ok (.iconst (-1), 1) := by decide +kernel
theorem dX2_numberOutOfRange_171 : decode cX2_numberOutOfRange 171 = .ok (.ireturn, 1) := by decide +kernel
theorem dX2_numberOutOfRange_172 : decode cX2_numberOutOfRange 172 = .ok (.aload_n 1, 1) := by decide +kernel
theorem dX2_numberOutOfRange_173 : decode cX2_numberOutOfRange 173 = .ok (.aload_n 0, 1) := by decide +kernel
theorem dX2_numberOutOfRange_174 : decode cX2_numberOutOfRange 174 = .ok (.getfield 34, 3) := by decide +kernel
theorem dX2_numberOutOfRange_177 : decode cX2_numberOutOfRange 177 = .ok (.iconst 0, 1) := by decide +kernel
theorem dX2_numberOutOfRange_178 : decode cX2_numberOutOfRange 178 = .ok (.iaload, 1) := by decide +kernel
theorem dX2_numberOutOfRange_179 : decode cX2_numberOutOfRange 179 = .ok (.invokevirtual 112, 3) := by decide +kernel
theorem dX2_numberOutOfRange_182 : decode cX2_numberOutOfRange 182 = .ok (.ifCond .eq 7, 3) := by decide +kernel
theorem dX2_numberOutOfRange_185 : decode cX2_numberOutOfRange 185 = .ok (.iconst (-1), 1) := by decide +kernel
theorem dX2_numberOutOfRange_186 : decode cX2_numberOutOfRange 186 = .ok (.goto 4, 3) := by decide +kernel
theorem dX2_numberOutOfRange_189 : decode cX2_numberOutOfRange 189 = .ok (.iconst 0, 1) := by decide +kernel
theorem dX2_numberOutOfRange_190 : decode cX2_numberOutOfRange 190 = .ok (.ireturn, 1) := by decide +kernel
theorem dX2_numberOutOfRange_191 : decode cX2_numberOutOfRange 191 = .ok (.aload_n 1, 1) := by decide +kernel
theorem dX2_numberOutOfRange_192 : decode cX2_numberOutOfRange 192 = .ok (.aload_n 0, 1) := by decide +kernel
theorem dX2_numberOutOfRange_193 : decode cX2_numberOutOfRange 193 = .ok (.getfield 34, 3) := by decide +kernel
theorem dX2_numberOutOfRange_196 : decode cX2_numberOutOfRange 196 = .ok (.iconst 0, 1) := by decide +kernel
theorem dX2_numberOutOfRange_197 : decode cX2_numberOutOfRange 197 = .ok (.iaload, 1) := by decide +kernel
theorem dX2_numberOutOfRange_198 : decode cX2_numberOutOfRange 198 = .ok (.invokevirtual 112, 3) := by decide +kernel
theorem dX2_numberOutOfRange_201 : decode cX2_numberOutOfRange 201 = .ok (.ifCond .ne 5, 3) := by decide +kernel
theorem dX2_numberOutOfRange_204 : decode cX2_numberOutOfRange 204 = .ok (.iconst 0, 1) := by decide +kernel
theorem dX2_numberOutOfRange_205 : decode cX2_numberOutOfRange 205 = .ok (.ireturn, 1) := by decide +kernel
theorem dX2_numberOutOfRange_206 : decode cX2_numberOutOfRange 206 = .ok (.aload_n 0, 1) := by decide +kernel
theorem dX2_numberOutOfRange_207 : decode cX2_numberOutOfRange 207 = .ok (.getfield 34, 3) := by decide +kernel
theorem dX2_numberOutOfRange_210 : decode cX2_numberOutOfRange 210 = .ok (.iconst 1, 1) := by decide +kernel
theorem dX2_numberOutOfRange_211 : decode cX2_numberOutOfRange 211 = .ok (.iaload, 1) := by decide +kernel
theorem dX2_numberOutOfRange_212 : decode cX2_numberOutOfRange 212 = .ok (.aload_n 1, 1) := by decide +kernel
theorem dX2_numberOutOfRange_213 : decode cX2_numberOutOfRange 213 = .ok (.getfield 115, 3) := by decide +kernel
theorem dX2_numberOutOfRange_216 : decode cX2_numberOutOfRange 216 = .ok (.if_icmp .le 7, 3) := by decide +kernel
theorem dX2_numberOutOfRange_219 : decode cX2_numberOutOfRange 219 = .ok (.iconst 1, 1) := by decide +kernel
theorem dX2_numberOutOfRange_220 : decode cX2_numberOutOfRange 220 = .ok (.goto 4, 3) := by decide +kernel
theorem dX2_numberOutOfRange_223 : decode cX2_numberOutOfRange 223 = .ok (.iconst (-1), 1) := by decide +kernel
theorem dX2_numberOutOfRange_224 : decode cX2_numberOutOfRange 224 = .ok (.ireturn, 1) := by decide +kernel
theorem dX2_numberOutOfRange_225 : decode cX2_numberOutOfRange 225 = .ok (.iconst (-1), 1) := by decide +kernel
theorem dX2_numberOutOfRange_226 : decode cX2_numberOutOfRange 226 = .ok (.ireturn, 1) := by decide +kernel
set_option maxRecDepth 20000 in
theorem ggX2_doSetting_X2_characterAt : GoodIn wsX2_doSetting wsX2_characterAt := goodIn_r _ [7, 8, 9, 83, 84, 85, 86, 87, 88, 89, 90, 91] (by decide +kernel) (by decide +kernel)
set_option maxRecDepth 20000 in
theorem gX2_doSetting_X2_characterAt : GoodIn wsX2_doSetting (wsV RX2 73 RX2 yX2_characterAt wsX2_characterAt) := goodIn_app (goodIn_of _ (by decide +kernel)) ggX2_doSetting_X2_characterAt
set_option maxRecDepth 20000 in
theorem ggX2_doSetting_X0_setWidth : GoodIn wsX2_doSetting wsX0_setWidth := goodIn_r _ [14, 15, 16, 17, 18, 19, 20, 13, 21, 22, 23, 92, 93, 94, 95, 96, 97] (by decide +kernel) (by decide +kernel)
set_option maxRecDepth 20000 in
theorem gX2_doSetting_X0_setWidth : GoodIn wsX2_doSetting (wsV RX2 118 RX0 yX0_setWidth wsX0_setWidth) := goodIn_app (goodIn_of _ (by decide +kernel)) ggX2_doSetting_X0_setWidth
set_option maxRecDepth 20000 in
theorem ggX2_doSetting_X0_addPlate : GoodIn wsX2_doSetting wsX0_addPlate := goodIn_r _ [27, 22, 28, 29, 23, 30, 31, 32, 13, 33, 34, 35, 92, 93, 94, 95, 96, 97] (by decide +kernel) (by decide +kernel)
set_option maxRecDepth 20000 in
theorem gX2_doSetting_X0_addPlate : GoodIn wsX2_doSetting (wsV RX2 121 RX0 yX0_addPlate wsX0_addPlate) := goodIn_app (goodIn_of _ (by decide +kernel)) ggX2_doSetting_X0_addPlate
set_option maxRecDepth 20000 in
theorem ggX2_doSetting_X0_setSpring : GoodIn wsX2_doSetting wsX0_setSpring := goodIn_r _ [39, 15, 34, 35, 40, 41, 42, 13, 43, 22, 92, 93, 94, 95, 96, 97] (by decide +kernel) (by decide +kernel)
set_option maxRecDepth 20000 in
theorem gX2_doSetting_X0_setSpring : GoodIn wsX2_doSetting (wsV RX2 124 RX0 yX0_setSpring wsX0_setSpring) := goodIn_app (goodIn_of _ (by decide +kernel)) ggX2_doSetting_X0_setSpring
set_option maxRecDepth 20000 in
theorem ggX2_doSetting_X0_setLoad : GoodIn wsX2_doSetting wsX0_setLoad := goodIn_r _ [47, 15, 29, 48, 49, 50, 13, 51, 22, 92, 93, 94, 95, 96, 97] (by decide +kernel) (by decide +kernel)
set_option maxRecDepth 20000 in
theorem gX2_doSetting_X0_setLoad : GoodIn wsX2_doSetting (wsV RX2 128 RX0 yX0_setLoad wsX0_setLoad) := goodIn_app (goodIn_of _ (by decide +kernel)) ggX2_doSetting_X0_setLoad
set_option maxRecDepth 20000 in
theorem ggX2_doSetting_X0_setStop : GoodIn wsX2_doSetting wsX0_setStop := goodIn_r _ [55, 17, 15, 23, 16, 48, 49, 50, 13, 51, 22, 56, 57, 58, 59, 60, 61, 62, 63, 64, 65, 66, 67, 68, 69, 70, 71, 72, 73, 74, 75, 76, 77, 78, 92, 93, 94, 95, 96, 97] (by decide +kernel) (by decide +kernel)
set_option maxRecDepth 20000 in
theorem gX2_doSetting_X0_setStop : GoodIn wsX2_doSetting (wsV RX2 132 RX0 yX0_setStop wsX0_setStop) := goodIn_app (goodIn_of _ (by decide +kernel)) ggX2_doSetting_X0_setStop
set_option maxRecDepth 20000 in
theorem ggX2_doSetting_X0_removeStop : GoodIn wsX2_doSetting wsX0_removeStop := goodIn_r _ [82, 15, 16, 23, 48, 49, 50, 13, 51, 22, 56, 57, 58, 59, 60, 61, 62, 92, 93, 94, 95, 96, 97] (by decide +kernel) (by decide +kernel)
set_option maxRecDepth 20000 in
theorem gX2_doSetting_X0_removeStop : GoodIn wsX2_doSetting (wsV RX2 135 RX0 yX0_removeStop wsX0_removeStop) := goodIn_app (goodIn_of _ (by decide +kernel)) ggX2_doSetting_X0_removeStop
theorem dX2_doSetting_0 : decode cX2_doSetting 0 = .ok (.aload_n 0, 1) := by decide +kernel
theorem dX2_doSetting_1 : decode cX2_doSetting 1 = .ok (.aload_n 0, 1) := by decide +kernel
theorem dX2_doSetting_2 : decode cX2_doSetting 2 = .ok (.getfield 28, 3) := by decide +kernel
theorem dX2_doSetting_5 : decode cX2_doSetting 5 = .ok (.invokevirtual 73, 3) := by decide +kernel
theorem dX2_doSetting_8 : decode cX2_doSetting 8 = .ok (.tableswitch 180 102 119 #[127, 180, 180, 180, 180, 104, 144, 180, 180, 180, 99, 180, 162, 180, 180, 180, 180, 88], 88) := by decide +kernel
theorem dX2_doSetting_96 : decode cX2_doSetting 96 = .ok (.aload_n 1, 1) := by decide +kernel
theorem dX2_doSetting_97 : decode cX2_doSetting 97 = .ok (.aload_n 0, 1) := by decide +kernel
theorem dX2_doSetting_98 : decode cX2_doSetting 98 = .ok (.getfield 34, 3) := by decide +kernel
theorem dX2_doSetting_101 : decode cX2_doSetting 101 = .ok (.iconst 0, 1) := by decide +kernel
theorem dX2_doSetting_102 : decode cX2_doSetting 102 = .ok (.iaload, 1) := by decide +kernel
theorem dX2_doSetting_103 : decode cX2_doSetting 103 = .ok (.invokevirtual 118, 3) := by decide +kernel
theorem dX2_doSetting_106 : decode cX2_doSetting 106 = .ok (.ireturn, 1) := by decide +kernel
theorem dX2_doSetting_107 : decode cX2_doSetting 107 = .ok (.aload_n 1, 1) := by decide +kernel
theorem dX2_doSetting_108 : decode cX2_doSetting 108 = .ok (.invokevirtual 121, 3) := by decide +kernel
theorem dX2_doSetting_111 : decode cX2_doSetting 111 = .ok (.ireturn, 1) := by decide +kernel
theorem dX2_doSetting_112 : decode cX2_doSetting 112 = .ok (.aload_n 1, 1) := by decide +kernel
theorem dX2_doSetting_113 : decode cX2_doSetting 113 = .ok (.aload_n 0, 1) := by decide +kernel
theorem dX2_doSetting_114 : decode cX2_doSetting 114 = .ok (.getfield 34, 3) := by decide +kernel
theorem dX2_doSetting_117 : decode cX2_doSetting 117 = .ok (.iconst 0, 1) := by decide +kernel
theorem dX2_doSetting_118 : decode cX2_doSetting 118 = .ok (.iaload, 1) := by decide +kernel
theorem dX2_doSetting_119 : decode cX2_doSetting 119 = .ok (.aload_n 0, 1) := by decide +kernel
theorem dX2_doSetting_120 : decode cX2_doSetting 120 = .ok (.getfield 34, 3) := by decide +kernel
theorem dX2_doSetting_123 : decode cX2_doSetting 123 = .ok (.iconst 1, 1) := by decide +kernel
theorem dX2_doSetting_124 : decode cX2_doSetting 124 = .ok (.iaload, 1) := by decide +kernel
theorem dX2_doSetting_125 : decode cX2_doSetting 125 = .ok (.aload_n 0, 1) := by decide +kernel
theorem dX2_doSetting_126 : decode cX2_doSetting 126 = .ok (.getfield 34, 3) := by decide +kernel
theorem dX2_doSetting_129 : decode cX2_doSetting 129 = .ok (.iconst 2, 1) := by decide +kernel
theorem dX2_doSetting_130 : decode cX2_doSetting 130 = .ok (.iaload, 1) := by decide +kernel
theorem dX2_doSetting_131 : decode cX2_doSetting 131 = .ok (.invokevirtual 124, 3) := by decide +kernel
theorem dX2_doSetting_134 : decode cX2_doSetting 134 = .ok (.ireturn, 1) := by decide +kernel
theorem dX2_doSetting_135 : decode cX2_doSetting 135 = .ok (.aload_n 1, 1) := by decide +kernel
theorem dX2_doSetting_136 : decode cX2_doSetting 136 = .ok (.aload_n 0, 1) := by decide +kernel
theorem dX2_doSetting_137 : decode cX2_doSetting 137 = .ok (.getfield 34, 3) := by decide +kernel
theorem dX2_doSetting_140 : decode cX2_doSetting 140 = .ok (.iconst 0, 1) := by decide +kernel
theorem dX2_doSetting_141 : decode cX2_doSetting 141 = .ok (.iaload, 1) := by decide +kernel
theorem dX2_doSetting_142 : decode cX2_doSetting 142 = .ok (.aload_n 0, 1) := by decide +kernel
theorem dX2_doSetting_143 : decode cX2_doSetting 143 = .ok (.getfield 34, 3) := by decide +kernel
theorem dX2_doSetting_146 : decode cX2_doSetting 146 = .ok (.iconst 1, 1) := by decide +kernel
theorem dX2_doSetting_147 : decode cX2_doSetting 147 = .ok (.iaload, 1) := by decide +kernel
theorem dX2_doSetting_148 : decode cX2_doSetting 148 = .ok (.invokevirtual 128, 3) := by decide +kernel
theorem dX2_doSetting_151 : decode cX2_doSetting 151 = .ok (.ireturn, 1) := by decide +kernel
theorem dX2_doSetting_152 : decode cX2_doSetting 152 = .ok (.aload_n 1, 1) := by decide +kernel
theorem dX2_doSetting_153 : decode cX2_doSetting 153 = .ok (.aload_n 0, 1) := by decide +kernel
theorem dX2_doSetting_154 : decode cX2_doSetting 154 = .ok (.getfield 34, 3) := by decide +kernel
theorem dX2_doSetting_157 : decode cX2_doSetting 157 = .ok (.iconst 0, 1) := by decide +kernel
theorem dX2_doSetting_158 : decode cX2_doSetting 158 = .ok (.iaload, 1) := by decide +kernel
theorem dX2_doSetting_159 : decode cX2_doSetting 159 = .ok (.iconst 0, 1) := by decide +kernel
theorem dX2_doSetting_160 : decode cX2_doSetting 160 = .ok (.aload_n 0, 1) := by decide +kernel
theorem dX2_doSetting_161 : decode cX2_doSetting 161 = .ok (.getfield 34, 3) := by decide +kernel
theorem dX2_doSetting_164 : decode cX2_doSetting 164 = .ok (.iconst 1, 1) := by decide +kernel
theorem dX2_doSetting_165 : decode cX2_doSetting 165 = .ok (.iaload, 1) := by decide +kernel
theorem dX2_doSetting_166 : decode cX2_doSetting 166 = .ok (.invokevirtual 132, 3) := by decide +kernel
theorem dX2_doSetting_169 : decode cX2_doSetting 169 = .ok (.ireturn, 1) := by decide +kernel
theorem dX2_doSetting_170 : decode cX2_doSetting 170 = .ok (.aload_n 1, 1) := by decide +kernel
theorem dX2_doSetting_171 : decode cX2_doSetting 171 = .ok (.aload_n 0, 1) := by decide +kernel
theorem dX2_doSetting_172 : decode cX2_doSetting 172 = .ok (.getfield 34, 3) := by decide +kernel
theorem dX2_doSetting_175 : decode cX2_doSetting 175 = .ok (.iconst 0, 1) := by decide +kernel
theorem dX2_doSetting_176 : decode cX2_doSetting 176 = .ok (.iaload, 1) := by decide +kernel
theorem dX2_doSetting_177 : decode cX2_doSetting 177 = .ok (.iconst 1, 1) := by decide +kernel
theorem dX2_doSetting_178 : decode cX2_doSetting 178 = .ok (.aload_n 0, 1) := by decide +kernel
theorem dX2_doSetting_179 : decode cX2_doSetting 179 = .ok (.getfield 34, 3) := by decide +kernel
theorem dX2_doSetting_182 : decode cX2_doSetting 182 = .ok (.iconst 1, 1) := by decide +kernel
theorem dX2_doSetting_183 : decode cX2_doSetting 183 = .ok (.iaload, 1) := by decide +kernel
theorem dX2_doSetting_184 : decode cX2_doSetting 184 = .ok (.invokevirtual 132, 3) := by decide +kernel
theorem dX2_doSetting_187 : decode cX2_doSetting 187 = .ok (.ireturn, 1) := by decide +kernel
theorem dX2_doSetting_188 : decode cX2_doSetting 188 = .ok (.aload_n 1, 1) := by decide +kernel
theorem dX2_doSetting_189 : decode cX2_doSetting 189 = .ok (.aload_n 0, 1) := by decide +kernel
theorem dX2_doSetting_190 : decode cX2_doSetting 190 = .ok (.getfield 34, 3) := by decide +kernel
theorem dX2_doSetting_193 : decode cX2_doSetting 193 = .ok (.iconst 0, 1) := by decide +kernel
theorem dX2_doSetting_194 : decode cX2_doSetting 194 = .ok (.iaload, 1) := by decide +kernel
theorem dX2_doSetting_195 : decode cX2_doSetting 195 = .ok (.iconst 0, 1) := by decide +kernel
theorem dX2_doSetting_196 : decode cX2_doSetting 196 = .ok (.invokevirtual 135, 3) := by decide +kernel
theorem dX2_doSetting_199 : decode cX2_doSetting 199 = .ok (.pop, 1) := by decide +kernel
theorem dX2_doSetting_200 : decode cX2_doSetting 200 = .ok (.aload_n 1, 1) := by decide +kernel
theorem dX2_doSetting_201 : decode cX2_doSetting 201 = .ok (.aload_n 0, 1) := by decide +kernel
theorem dX2_doSetting_202 : decode cX2_doSetting 202 = .ok (.getfield 34, 3) := by decide +kernel
theorem dX2_doSetting_205 : decode cX2_doSetting 205 = .ok (.iconst 0, 1) := by decide +kernel
theorem dX2_doSetting_206 : decode cX2_doSetting 206 = .ok (.iaload, 1) := by decide +kernel
theorem dX2_doSetting_207 : decode cX2_doSetting 207 = .ok (.iconst 1, 1) := by decide +kernel
theorem dX2_doSetting_208 : decode cX2_doSetting 208 = .ok (.invokevirtual 135, 3) := by decide +kernel
theorem dX2_doSetting_211 : decode cX2_doSetting 211 = .ok (.pop, 1) := by decide +kernel
theorem dX2_doSetting_212 : decode cX2_doSetting 212 = .ok (.iconst 0, 1) := by decide +kernel
theorem dX2_doSetting_213 : decode cX2_doSetting 213 = .ok (.ireturn, 1) := by decide +kernel
