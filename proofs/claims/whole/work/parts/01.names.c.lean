theorem dX4_wouldBeSo_39 : decode cX4_wouldBeSo 39 = .ok (.iload_n 3, 1) := by decide +kernel
theorem dX4_wouldBeSo_40 : decode cX4_wouldBeSo 40 = .ok (.invokevirtual 32, 3) := by decide +kernel
theorem dX4_wouldBeSo_43 : decode cX4_wouldBeSo 43 = .ok (.if_icmp .le 7, 3) := by decide +kernel
theorem dX4_wouldBeSo_46 : decode cX4_wouldBeSo 46 = .ok (.iconst 1, 1) := by decide +kernel
theorem dX4_wouldBeSo_47 : decode cX4_wouldBeSo 47 = .ok (.goto 4, 3) := by decide +kernel
theorem dX4_wouldBeSo_50 : decode cX4_wouldBeSo 50 = .ok (.iconst 0, 1) := by decide +kernel
theorem dX4_wouldBeSo_51 : decode cX4_wouldBeSo 51 = .ok (.istore 5, 2) := by decide +kernel
theorem dX4_wouldBeSo_53 : decode cX4_wouldBeSo 53 = .ok (.aload_n 0, 1) := by decide +kernel
theorem dX4_wouldBeSo_54 : decode cX4_wouldBeSo 54 = .ok (.getfield 9, 3) := by decide +kernel
theorem dX4_wouldBeSo_57 : decode cX4_wouldBeSo 57 = .ok (.iload 4, 2) := by decide +kernel
theorem dX4_wouldBeSo_59 : decode cX4_wouldBeSo 59 = .ok (.iaload, 1) := by decide +kernel
theorem dX4_wouldBeSo_60 : decode cX4_wouldBeSo 60 = .ok (.iload_n 2, 1) := by decide +kernel
theorem dX4_wouldBeSo_61 : decode cX4_wouldBeSo 61 = .ok (.if_icmp .ne 17, 3) := by decide +kernel
theorem dX4_wouldBeSo_64 : decode cX4_wouldBeSo 64 = .ok (.aload_n 0, 1) := by decide +kernel
theorem dX4_wouldBeSo_65 : decode cX4_wouldBeSo 65 = .ok (.getfield 21, 3) := by decide +kernel
theorem dX4_wouldBeSo_68 : decode cX4_wouldBeSo 68 = .ok (.iload 4, 2) := by decide +kernel
theorem dX4_wouldBeSo_70 : decode cX4_wouldBeSo 70 = .ok (.iaload, 1) := by decide +kernel
theorem dX4_wouldBeSo_71 : decode cX4_wouldBeSo 71 = .ok (.iload 5, 2) := by decide +kernel
theorem dX4_wouldBeSo_73 : decode cX4_wouldBeSo 73 = .ok (.if_icmp .eq 5, 3) := by decide +kernel
theorem dX4_wouldBeSo_76 : decode cX4_wouldBeSo 76 = .ok (.iconst 0, 1) := by decide +kernel
theorem dX4_wouldBeSo_77 : decode cX4_wouldBeSo 77 = .ok (.ireturn, 1) := by decide +kernel
theorem dX4_wouldBeSo_78 : decode cX4_wouldBeSo 78 = .ok (.iinc 4 1, 3) := by decide +kernel
theorem dX4_wouldBeSo_81 : decode cX4_wouldBeSo 81 = .ok (.goto (-78), 3) := by decide +kernel
theorem dX4_wouldBeSo_84 : decode cX4_wouldBeSo 84 = .ok (.iconst 1, 1) := by decide +kernel
theorem dX4_wouldBeSo_85 : decode cX4_wouldBeSo 85 = .ok (.ireturn, 1) := by decide +kernel
theorem dX5_init_0 : decode cX5_init 0 = .ok (.aload_n 0, 1) := by decide +kernel
theorem dX5_init_1 : decode cX5_init 1 = .ok (.invokespecial 3, 3) := by decide +kernel
theorem dX5_init_4 : decode cX5_init 4 = .ok (.aload_n 0, 1) := by decide +kernel
theorem dX5_init_5 : decode cX5_init 5 = .ok (.bipush 32, 2) := by decide +kernel
theorem dX5_init_7 : decode cX5_init 7 = .ok (.newarray .int, 2) := by decide +kernel
theorem dX5_init_9 : decode cX5_init 9 = .ok (.putfield 9, 3) := by decide +kernel
theorem dX5_init_12 : decode cX5_init 12 = .ok (.return_, 1) := by decide +kernel
theorem dX5_write_0 : decode cX5_write 0 = .ok (.aload_n 0, 1) := by decide +kernel
theorem dX5_write_1 : decode cX5_write 1 = .ok (.getfield 15, 3) := by decide +kernel
theorem dX5_write_4 : decode cX5_write 4 = .ok (.ifCond .lt 15, 3) := by decide +kernel
theorem dX5_write_7 : decode cX5_write 7 = .ok (.aload_n 0, 1) := by decide +kernel
theorem dX5_write_8 : decode cX5_write 8 = .ok (.getfield 15, 3) := by decide +kernel
theorem dX5_write_11 : decode cX5_write 11 = .ok (.aload_n 0, 1) := by decide +kernel
theorem dX5_write_12 : decode cX5_write 12 = .ok (.getfield 9, 3) := by decide +kernel
theorem dX5_write_15 : decode cX5_write 15 = .ok (.arraylength, 1) := by decide +kernel
theorem dX5_write_16 : decode cX5_write 16 = .ok (.if_icmp .lt 5, 3) := by decide +kernel
theorem dX5_write_19 : decode cX5_write 19 = .ok (.iconst 0, 1) := by decide +kernel
theorem dX5_write_20 : decode cX5_write 20 = .ok (.ireturn, 1) := by decide +kernel
theorem dX5_write_21 : decode cX5_write 21 = .ok (.aload_n 0, 1) := by decide +kernel
theorem dX5_write_22 : decode cX5_write 22 = .ok (.getfield 9, 3) := by decide +kernel
theorem dX5_write_25 : decode cX5_write 25 = .ok (.aload_n 0, 1) := by decide +kernel
theorem dX5_write_26 : decode cX5_write 26 = .ok (.getfield 15, 3) := by decide +kernel
theorem dX5_write_29 : decode cX5_write 29 = .ok (.iload_n 1, 1) := by decide +kernel
theorem dX5_write_30 : decode cX5_write 30 = .ok (.iastore, 1) := by decide +kernel
theorem dX5_write_31 : decode cX5_write 31 = .ok (.aload_n 0, 1) := by decide +kernel
theorem dX5_write_32 : decode cX5_write 32 = .ok (.dup, 1) := by decide +kernel
theorem dX5_write_33 : decode cX5_write 33 = .ok (.getfield 15, 3) := by decide +kernel
theorem dX5_write_36 : decode cX5_write 36 = .ok (.iconst 1, 1) := by decide +kernel
theorem dX5_write_37 : decode cX5_write 37 = .ok (.iadd, 1) := by decide +kernel
theorem dX5_write_38 : decode cX5_write 38 = .ok (.putfield 15, 3) := by decide +kernel
theorem dX5_write_41 : decode cX5_write 41 = .ok (.iconst 1, 1) := by decide +kernel
theorem dX5_write_42 : decode cX5_write 42 = .ok (.ireturn, 1) := by decide +kernel
theorem dX5_wipe_0 : decode cX5_wipe 0 = .ok (.aload_n 0, 1) := by decide +kernel
theorem dX5_wipe_1 : decode cX5_wipe 1 = .ok (.getfield 15, 3) := by decide +kernel
theorem dX5_wipe_4 : decode cX5_wipe 4 = .ok (.istore_n 1, 1) := by decide +kernel
theorem dX5_wipe_5 : decode cX5_wipe 5 = .ok (.aload_n 0, 1) := by decide +kernel
theorem dX5_wipe_6 : decode cX5_wipe 6 = .ok (.iconst 0, 1) := by decide +kernel
theorem dX5_wipe_7 : decode cX5_wipe 7 = .ok (.putfield 15, 3) := by decide +kernel
theorem dX5_wipe_10 : decode cX5_wipe 10 = .ok (.iload_n 1, 1) := by decide +kernel
theorem dX5_wipe_11 : decode cX5_wipe 11 = .ok (.ireturn, 1) := by decide +kernel
theorem dX5_codeAt_0 : decode cX5_codeAt 0 = .ok (.iload_n 1, 1) := by decide +kernel
theorem dX5_codeAt_1 : decode cX5_codeAt 1 = .ok (.ifCond .lt 29, 3) := by decide +kernel
theorem dX5_codeAt_4 : decode cX5_codeAt 4 = .ok (.iload_n 1, 1) := by decide +kernel
theorem dX5_codeAt_5 : decode cX5_codeAt 5 = .ok (.aload_n 0, 1) := by decide +kernel
theorem dX5_codeAt_6 : decode cX5_codeAt 6 = .ok (.getfield 15, 3) := by decide +kernel
theorem dX5_codeAt_9 : decode cX5_codeAt 9 = .ok (.if_icmp .ge 21, 3) := by decide +kernel
theorem dX5_codeAt_12 : decode cX5_codeAt 12 = .ok (.iload_n 1, 1) := by decide +kernel
theorem dX5_codeAt_13 : decode cX5_codeAt 13 = .ok (.aload_n 0, 1) := by decide +kernel
theorem dX5_codeAt_14 : decode cX5_codeAt 14 = .ok (.getfield 9, 3) := by decide +kernel
theorem dX5_codeAt_17 : decode cX5_codeAt 17 = .ok (.arraylength, 1) := by decide +kernel
theorem dX5_codeAt_18 : decode cX5_codeAt 18 = .ok (.if_icmp .ge 12, 3) := by decide +kernel
theorem dX5_codeAt_21 : decode cX5_codeAt 21 = .ok (.aload_n 0, 1) := by decide +kernel
theorem dX5_codeAt_22 : decode cX5_codeAt 22 = .ok (.getfield 9, 3) := by decide +kernel
theorem dX5_codeAt_25 : decode cX5_codeAt 25 = .ok (.iload_n 1, 1) := by decide +kernel
theorem dX5_codeAt_26 : decode cX5_codeAt 26 = .ok (.iaload, 1) := by decide +kernel
theorem dX5_codeAt_27 : decode cX5_codeAt 27 = .ok (.goto 4, 3) := by decide +kernel
theorem dX5_codeAt_30 : decode cX5_codeAt 30 = .ok (.iconst 0, 1) := by decide +kernel
theorem dX5_codeAt_31 : decode cX5_codeAt 31 = .ok (.ireturn, 1) := by decide +kernel
set_option maxRecDepth 20000 in
theorem ggX5_digitAt_X5_codeAt : GoodIn wsX5_digitAt wsX5_codeAt := goodIn_r _ [5, 6, 7, 8, 9] (by decide +kernel) (by decide +kernel)
set_option maxRecDepth 20000 in
theorem gX5_digitAt_X5_codeAt : GoodIn wsX5_digitAt (wsV RX5 19 RX5 yX5_codeAt wsX5_codeAt) := goodIn_app (goodIn_of _ (by decide +kernel)) ggX5_digitAt_X5_codeAt
theorem dX5_digitAt_0 : decode cX5_digitAt 0 = .ok (.aload_n 0, 1) := by decide +kernel
theorem dX5_digitAt_1 : decode cX5_digitAt 1 = .ok (.iload_n 1, 1) := by decide +kernel
theorem dX5_digitAt_2 : decode cX5_digitAt 2 = .ok (.invokevirtual 19, 3) := by decide +kernel
theorem dX5_digitAt_5 : decode cX5_digitAt 5 = .ok (.bipush 48, 2) := by decide +kernel
theorem dX5_digitAt_7 : decode cX5_digitAt 7 = .ok (.isub, 1) := by decide +kernel
theorem dX5_digitAt_8 : decode cX5_digitAt 8 = .ok (.ireturn, 1) := by decide +kernel
set_option maxRecDepth 20000 in
theorem ggX5_kindAt_X5_codeAt : GoodIn wsX5_kindAt wsX5_codeAt := goodIn_r _ [5, 6, 7, 100, 101] (by decide +kernel) (by decide +kernel)
set_option maxRecDepth 20000 in
theorem gX5_kindAt_X5_codeAt : GoodIn wsX5_kindAt (wsV RX5 19 RX5 yX5_codeAt wsX5_codeAt) := goodIn_app (goodIn_of _ (by decide +kernel)) ggX5_kindAt_X5_codeAt
set_option maxRecDepth 20000 in
theorem ggX5_kindAt_X5_kindOf : GoodIn wsX5_kindAt wsX5_kindOf := goodIn_r _ [10, 11, 12, 13, 14, 15, 16, 17, 18, 19, 20, 21, 22, 23, 24, 25, 26, 27, 28, 29, 30, 31, 32, 33, 34, 35, 36, 37, 38, 39, 40, 41, 42, 43, 44, 45, 46, 47, 48, 49, 50, 51, 52, 53, 54, 55, 56, 57, 58, 59, 60, 61, 62, 63, 64, 65, 66, 67, 68, 69, 70, 71, 72, 73, 74, 75, 76, 77, 78, 79, 80, 81, 82, 83, 84, 85, 86, 87, 88, 89, 90, 91, 92, 93, 94, 95, 96, 97, 98, 99] (by decide +kernel) (by decide +kernel)
set_option maxRecDepth 20000 in
theorem gX5_kindAt_X5_kindOf : GoodIn wsX5_kindAt (va_wsS RX5 23 yX5_kindOf wsX5_kindOf) := goodIn_app (goodIn_of _ (by decide +kernel)) ggX5_kindAt_X5_kindOf
theorem dX5_kindAt_0 : decode cX5_kindAt 0 = .ok (.aload_n 0, 1) := by decide +kernel
theorem dX5_kindAt_1 : decode cX5_kindAt 1 = .ok (.iload_n 1, 1) := by decide +kernel
theorem dX5_kindAt_2 : decode cX5_kindAt 2 = .ok (.invokevirtual 19, 3) := by decide +kernel
theorem dX5_kindAt_5 : decode cX5_kindAt 5 = .ok (.invokestatic 23, 3) := by decide +kernel
theorem dX5_kindAt_8 : decode cX5_kindAt 8 = .ok (.ireturn, 1) := by decide +kernel
set_option maxRecDepth 20000 in
theorem ggX5_firstWrong_X5_codeAt : GoodIn wsX5_firstWrong wsX5_codeAt := goodIn_r _ [6, 1, 7, 106, 107] (by decide +kernel) (by decide +kernel)
set_option maxRecDepth 20000 in
theorem gX5_firstWrong_X5_codeAt : GoodIn wsX5_firstWrong (wsV RX5 19 RX5 yX5_codeAt wsX5_codeAt) := goodIn_app (goodIn_of _ (by decide +kernel)) ggX5_firstWrong_X5_codeAt
set_option maxRecDepth 20000 in
theorem ggX5_firstWrong_X5_fitsSingers : GoodIn wsX5_firstWrong wsX5_fitsSingers := goodIn_r _ [10, 11, 12, 5, 13, 14, 15, 16, 17, 18, 19, 20, 21, 22, 23, 24, 25, 26, 27, 28, 29, 30, 31, 32, 33, 34, 35, 36, 37, 38, 39, 40, 41, 42, 43, 44, 45, 46, 47, 48, 49, 50, 51, 52, 53, 54, 55, 56, 57, 58, 59, 60, 61, 62, 63, 64, 65, 66, 67, 68, 69, 70, 71, 72, 73, 74, 75, 76, 77, 78, 79, 80, 81, 82, 83, 84, 85, 86, 87, 88, 89, 90, 91, 92, 93, 94, 95, 96, 97, 98, 99, 100, 101, 102] (by decide +kernel) (by decide +kernel)
set_option maxRecDepth 20000 in
theorem gX5_firstWrong_X5_fitsSingers : GoodIn wsX5_firstWrong (va_wsS RX5 26 yX5_fitsSingers wsX5_fitsSingers) := goodIn_app (goodIn_of _ (by decide +kernel)) ggX5_firstWrong_X5_fitsSingers
set_option maxRecDepth 20000 in
theorem ggX5_firstWrong_X5_fitsWidows : GoodIn wsX5_firstWrong wsX5_fitsWidows := goodIn_r _ [105] (by decide +kernel) (by decide +kernel)
set_option maxRecDepth 20000 in
theorem gX5_firstWrong_X5_fitsWidows : GoodIn wsX5_firstWrong (va_wsS RX5 30 yX5_fitsWidows wsX5_fitsWidows) := goodIn_app (goodIn_of _ (by decide +kernel)) ggX5_firstWrong_X5_fitsWidows
theorem dX5_firstWrong_0 : decode cX5_firstWrong 0 = .ok (.iconst (-1), 1) := by decide +kernel
theorem dX5_firstWrong_1 : decode cX5_firstWrong 1 = .ok (.istore_n 1, 1) := by decide +kernel
theorem dX5_firstWrong_2 : decode cX5_firstWrong 2 = .ok (.iconst 0, 1) := by decide +kernel
theorem dX5_firstWrong_3 : decode cX5_firstWrong 3 = .ok (.istore_n 2, 1) := by decide +kernel
theorem dX5_firstWrong_4 : decode cX5_firstWrong 4 = .ok (.iload_n 2, 1) := by decide +kernel
theorem dX5_firstWrong_5 : decode cX5_firstWrong 5 = .ok (.aload_n 0, 1) := by decide +kernel
theorem dX5_firstWrong_6 : decode cX5_firstWrong 6 = .ok (.getfield 15, 3) := by decide +kernel
theorem dX5_firstWrong_9 : decode cX5_firstWrong 9 = .ok (.if_icmp .ge 52, 3) := by decide +kernel
theorem dX5_firstWrong_12 : decode cX5_firstWrong 12 = .ok (.aload_n 0, 1) := by decide +kernel
theorem dX5_firstWrong_13 : decode cX5_firstWrong 13 = .ok (.iload_n 2, 1) := by decide +kernel
theorem dX5_firstWrong_14 : decode cX5_firstWrong 14 = .ok (.invokevirtual 19, 3) := by decide +kernel
theorem dX5_firstWrong_17 : decode cX5_firstWrong 17 = .ok (.istore_n 3, 1) := by decide +kernel
theorem dX5_firstWrong_18 : decode cX5_firstWrong 18 = .ok (.iload_n 1, 1) := by decide +kernel
theorem dX5_firstWrong_19 : decode cX5_firstWrong 19 = .ok (.iconst (-1), 1) := by decide +kernel
theorem dX5_firstWrong_20 : decode cX5_firstWrong 20 = .ok (.if_icmp .ne 11, 3) := by decide +kernel
theorem dX5_firstWrong_23 : decode cX5_firstWrong 23 = .ok (.iload_n 3, 1) := by decide +kernel
theorem dX5_firstWrong_24 : decode cX5_firstWrong 24 = .ok (.iload_n 2, 1) := by decide +kernel
theorem dX5_firstWrong_25 : decode cX5_firstWrong 25 = .ok (.invokestatic 26, 3) := by decide +kernel
theorem dX5_firstWrong_28 : decode cX5_firstWrong 28 = .ok (.goto 10, 3) := by decide +kernel
theorem dX5_firstWrong_31 : decode cX5_firstWrong 31 = .ok (.iload_n 3, 1) := by decide +kernel
theorem dX5_firstWrong_32 : decode cX5_firstWrong 32 = .ok (.iload_n 2, 1) := by decide +kernel
theorem dX5_firstWrong_33 : decode cX5_firstWrong 33 = .ok (.iload_n 1, 1) := by decide +kernel
theorem dX5_firstWrong_34 : decode cX5_firstWrong 34 = .ok (.isub, 1) := by decide +kernel
theorem dX5_firstWrong_35 : decode cX5_firstWrong 35 = .ok (.invokestatic 30, 3) := by decide +kernel
theorem dX5_firstWrong_38 : decode cX5_firstWrong 38 = .ok (.istore 4, 2) := by decide +kernel
theorem dX5_firstWrong_40 : decode cX5_firstWrong 40 = .ok (.iload 4, 2) := by decide +kernel
theorem dX5_firstWrong_42 : decode cX5_firstWrong 42 = .ok (.ifCond .ne 5, 3) := by decide +kernel
theorem dX5_firstWrong_45 : decode cX5_firstWrong 45 = .ok (.iload_n 2, 1) := by decide +kernel
theorem dX5_firstWrong_46 : decode cX5_firstWrong 46 = .ok (.ireturn, 1) := by decide +kernel
theorem dX5_firstWrong_47 : decode cX5_firstWrong 47 = .ok (.iload_n 3, 1) := by decide +kernel
theorem dX5_firstWrong_48 : decode cX5_firstWrong 48 = .ok (.bipush 59, 2) := by decide +kernel
theorem dX5_firstWrong_50 : decode cX5_firstWrong 50 = .ok (.if_icmp .ne 5, 3) := by decide +kernel
theorem dX5_firstWrong_53 : decode cX5_firstWrong 53 = .ok (.iload_n 2, 1) := by decide +kernel
theorem dX5_firstWrong_54 : decode cX5_firstWrong 54 = .ok (.istore_n 1, 1) := by decide +kernel
theorem dX5_firstWrong_55 : decode cX5_firstWrong 55 = .ok (.iinc 2 1, 3) := by decide +kernel
theorem dX5_firstWrong_58 : decode cX5_firstWrong 58 = .ok (.goto (-54), 3) := by decide +kernel
theorem dX5_firstWrong_61 : decode cX5_firstWrong 61 = .ok (.aload_n 0, 1) := by decide +kernel
theorem dX5_firstWrong_62 : decode cX5_firstWrong 62 = .ok (.getfield 15, 3) := by decide +kernel
theorem dX5_firstWrong_65 : decode cX5_firstWrong 65 = .ok (.ireturn, 1) := by decide +kernel
set_option maxRecDepth 20000 in
theorem ggX5_isWhole_X5_firstWrong : GoodIn wsX5_isWhole wsX5_firstWrong := goodIn_r _ [6, 1, 7, 8, 9, 5, 10, 11, 12, 13, 14, 15, 16, 17, 18, 19, 20, 21, 22, 23, 24, 25, 26, 27, 28, 29, 30, 31, 32, 33, 34, 35, 36, 37, 38, 39, 40, 41, 42, 43, 44, 45, 46, 47, 48, 49, 50, 51, 52, 53, 54, 55, 56, 57, 58, 59, 60, 61, 62, 63, 64, 65, 66, 67, 68, 69, 70, 71, 72, 73, 74, 75, 76, 77, 78, 79, 80, 81, 82, 83, 84, 85, 86, 87, 88, 89, 90, 91, 92, 93, 94, 95, 96, 97, 98, 99, 100, 101, 102, 103, 104, 105, 106, 107, 108, 109, 114, 115] (by decide +kernel) (by decide +kernel)
set_option maxRecDepth 20000 in
theorem gX5_isWhole_X5_firstWrong : GoodIn wsX5_isWhole (wsV RX5 33 RX5 yX5_firstWrong wsX5_firstWrong) := goodIn_app (goodIn_of _ (by decide +kernel)) ggX5_isWhole_X5_firstWrong
set_option maxRecDepth 20000 in
theorem ggX5_isWhole_X5_singersEnd : GoodIn wsX5_isWhole wsX5_singersEnd := goodIn_r _ [113, 1, 7, 8, 9, 5, 10, 11, 114, 115] (by decide +kernel) (by decide +kernel)
set_option maxRecDepth 20000 in
theorem gX5_isWhole_X5_singersEnd : GoodIn wsX5_isWhole (wsV RX5 37 RX5 yX5_singersEnd wsX5_singersEnd) := goodIn_app (goodIn_of _ (by decide +kernel)) ggX5_isWhole_X5_singersEnd
theorem dX5_isWhole_0 : decode cX5_isWhole 0 = .ok (.aload_n 0, 1) := by decide +kernel
theorem dX5_isWhole_1 : decode cX5_isWhole 1 = .ok (.invokevirtual 33, 3) := by decide +kernel
theorem dX5_isWhole_4 : decode cX5_isWhole 4 = .ok (.aload_n 0, 1) := by decide +kernel
theorem dX5_isWhole_5 : decode cX5_isWhole 5 = .ok (.getfield 15, 3) := by decide +kernel
theorem dX5_isWhole_8 : decode cX5_isWhole 8 = .ok (.if_icmp .ne 20, 3) := by decide +kernel
theorem dX5_isWhole_11 : decode cX5_isWhole 11 = .ok (.aload_n 0, 1) := by decide +kernel
theorem dX5_isWhole_12 : decode cX5_isWhole 12 = .ok (.invokevirtual 37, 3) := by decide +kernel
theorem dX5_isWhole_15 : decode cX5_isWhole 15 = .ok (.aload_n 0, 1) := by decide +kernel
theorem dX5_isWhole_16 : decode cX5_isWhole 16 = .ok (.getfield 15, 3) := by decide +kernel
theorem dX5_isWhole_19 : decode cX5_isWhole 19 = .ok (.iconst 1, 1) := by decide +kernel
theorem dX5_isWhole_20 : decode cX5_isWhole 20 = .ok (.isub, 1) := by decide +kernel
theorem dX5_isWhole_21 : decode cX5_isWhole 21 = .ok (.if_icmp .ge 7, 3) := by decide +kernel
theorem dX5_isWhole_24 : decode cX5_isWhole 24 = .ok (.iconst 1, 1) := by decide +kernel
theorem dX5_isWhole_25 : decode cX5_isWhole 25 = .ok (.goto 4, 3) := by decide +kernel
theorem dX5_isWhole_28 : decode cX5_isWhole 28 = .ok (.iconst 0, 1) := by decide +kernel
theorem dX5_isWhole_29 : decode cX5_isWhole 29 = .ok (.ireturn, 1) := by decide +kernel
set_option maxRecDepth 20000 in
theorem ggX5_singersEnd_X5_codeAt : GoodIn wsX5_singersEnd wsX5_codeAt := goodIn_r _ [6, 1, 7, 8, 9] (by decide +kernel) (by decide +kernel)
set_option maxRecDepth 20000 in
theorem gX5_singersEnd_X5_codeAt : GoodIn wsX5_singersEnd (wsV RX5 19 RX5 yX5_codeAt wsX5_codeAt) := goodIn_app (goodIn_of _ (by decide +kernel)) ggX5_singersEnd_X5_codeAt
theorem dX5_singersEnd_0 : decode cX5_singersEnd 0 = .ok (.iconst 0, 1) := by decide +kernel
theorem dX5_singersEnd_1 : decode cX5_singersEnd 1 = .ok (.istore_n 1, 1) := by decide +kernel
theorem dX5_singersEnd_2 : decode cX5_singersEnd 2 = .ok (.iload_n 1, 1) := by decide +kernel
theorem dX5_singersEnd_3 : decode cX5_singersEnd 3 = .ok (.aload_n 0, 1) := by decide +kernel
theorem dX5_singersEnd_4 : decode cX5_singersEnd 4 = .ok (.getfield 15, 3) := by decide +kernel
theorem dX5_singersEnd_7 : decode cX5_singersEnd 7 = .ok (.if_icmp .ge 21, 3) := by decide +kernel
theorem dX5_singersEnd_10 : decode cX5_singersEnd 10 = .ok (.aload_n 0, 1) := by decide +kernel
theorem dX5_singersEnd_11 : decode cX5_singersEnd 11 = .ok (.iload_n 1, 1) := by decide +kernel
theorem dX5_singersEnd_12 : decode cX5_singersEnd 12 = .ok (.invokevirtual 19, 3) := by decide +kernel
theorem dX5_singersEnd_15 : decode cX5_singersEnd 15 = .ok (.bipush 59, 2) := by decide +kernel
theorem dX5_singersEnd_17 : decode cX5_singersEnd 17 = .ok (.if_icmp .ne 5, 3) := by decide +kernel
theorem dX5_singersEnd_20 : decode cX5_singersEnd 20 = .ok (.iload_n 1, 1) := by decide +kernel
theorem dX5_singersEnd_21 : decode cX5_singersEnd 21 = .ok (.ireturn, 1) := by decide +kernel
theorem dX5_singersEnd_22 : decode cX5_singersEnd 22 = .ok (.iinc 1 1, 3) := by decide +kernel
theorem dX5_singersEnd_25 : decode cX5_singersEnd 25 = .ok (.goto (-23), 3) := by decide +kernel
theorem dX5_singersEnd_28 : decode cX5_singersEnd 28 = .ok (.aload_n 0, 1) := by decide +kernel
theorem dX5_singersEnd_29 : decode cX5_singersEnd 29 = .ok (.getfield 15, 3) := by decide +kernel
theorem dX5_singersEnd_32 : decode cX5_singersEnd 32 = .ok (.ireturn, 1) := by decide +kernel
set_option maxRecDepth 20000 in
theorem ggX5_fitsSingers_X5_kindOf : GoodIn wsX5_fitsSingers wsX5_kindOf := goodIn_r _ [4, 5, 6, 7, 8, 9, 10, 11, 12, 13, 14, 15, 16, 17, 18, 19, 20, 21, 22, 23, 24, 25, 26, 27, 28, 29, 30, 31, 32, 33, 34, 35, 36, 37, 38, 39, 40, 41, 42, 43, 44, 45, 46, 47, 48, 49, 50, 51, 52, 53, 54, 55, 56, 57, 58, 59, 60, 61, 62, 63, 64, 65, 66, 67, 68, 69, 70, 71, 72, 73, 74, 75, 76, 77, 78, 79, 80, 81, 82, 83, 84, 85, 86, 87, 88, 89, 90, 91, 92, 93] (by decide +kernel) (by decide +kernel)
set_option maxRecDepth 20000 in
theorem gX5_fitsSingers_X5_kindOf : GoodIn wsX5_fitsSingers (va_wsS RX5 23 yX5_kindOf wsX5_kindOf) := goodIn_app (goodIn_of _ (by decide +kernel)) ggX5_fitsSingers_X5_kindOf
theorem dX5_fitsSingers_0 : decode cX5_fitsSingers 0 = .ok (.iload_n 1, 1) := by decide +kernel
theorem dX5_fitsSingers_1 : decode cX5_fitsSingers 1 = .ok (.bipush 6, 2) := by decide +kernel
theorem dX5_fitsSingers_3 : decode cX5_fitsSingers 3 = .ok (.idiv, 1) := by decide +kernel
theorem dX5_fitsSingers_4 : decode cX5_fitsSingers 4 = .ok (.istore_n 2, 1) := by decide +kernel
theorem dX5_fitsSingers_5 : decode cX5_fitsSingers 5 = .ok (.iload_n 1, 1) := by decide +kernel
theorem dX5_fitsSingers_6 : decode cX5_fitsSingers 6 = .ok (.bipush 6, 2) := by decide +kernel
theorem dX5_fitsSingers_8 : decode cX5_fitsSingers 8 = .ok (.irem, 1) := by decide +kernel
theorem dX5_fitsSingers_9 : decode cX5_fitsSingers 9 = .ok (.istore_n 3, 1) := by decide +kernel
theorem dX5_fitsSingers_10 : decode cX5_fitsSingers 10 = .ok (.iload_n 3, 1) := by decide +kernel
theorem dX5_fitsSingers_11 : decode cX5_fitsSingers 11 = .ok (.ifCond .ne 17, 3) := by decide +kernel
theorem dX5_fitsSingers_14 : decode cX5_fitsSingers 14 = .ok (.iload_n 0, 1) := by decide +kernel
theorem dX5_fitsSingers_15 : decode cX5_fitsSingers 15 = .ok (.invokestatic 23, 3) := by decide +kernel
theorem dX5_fitsSingers_18 : decode cX5_fitsSingers 18 = .ok (.iconst (-1), 1) := by decide +kernel
theorem dX5_fitsSingers_19 : decode cX5_fitsSingers 19 = .ok (.if_icmp .eq 7, 3) := by decide +kernel
theorem dX5_fitsSingers_22 : decode cX5_fitsSingers 22 = .ok (.iconst 1, 1) := by decide +kernel
theorem dX5_fitsSingers_23 : decode cX5_fitsSingers 23 = .ok (.goto 4, 3) := by decide +kernel
theorem dX5_fitsSingers_26 : decode cX5_fitsSingers 26 = .ok (.iconst 0, 1) := by decide +kernel
theorem dX5_fitsSingers_27 : decode cX5_fitsSingers 27 = .ok (.ireturn, 1) := by decide +kernel
theorem dX5_fitsSingers_28 : decode cX5_fitsSingers 28 = .ok (.iload_n 3, 1) := by decide +kernel
theorem dX5_fitsSingers_29 : decode cX5_fitsSingers 29 = .ok (.iconst 5, 1) := by decide +kernel
theorem dX5_fitsSingers_30 : decode cX5_fitsSingers 30 = .ok (.if_icmp .ge 21, 3) := by decide +kernel
theorem dX5_fitsSingers_33 : decode cX5_fitsSingers 33 = .ok (.iload_n 0, 1) := by decide +kernel
theorem dX5_fitsSingers_34 : decode cX5_fitsSingers 34 = .ok (.bipush 48, 2) := by decide +kernel
theorem dX5_fitsSingers_36 : decode cX5_fitsSingers 36 = .ok (.if_icmp .lt 13, 3) := by decide +kernel
theorem dX5_fitsSingers_39 : decode cX5_fitsSingers 39 = .ok (.iload_n 0, 1) := by decide +kernel
theorem dX5_fitsSingers_40 : decode cX5_fitsSingers 40 = .ok (.bipush 57, 2) := by decide +kernel
theorem dX5_fitsSingers_42 : decode cX5_fitsSingers 42 = .ok (.if_icmp .gt 7, 3) := by decide +kernel
theorem dX5_fitsSingers_45 : decode cX5_fitsSingers 45 = .ok (.iconst 1, 1) := by decide +kernel
theorem dX5_fitsSingers_46 : decode cX5_fitsSingers 46 = .ok (.goto 4, 3) := by decide +kernel
theorem dX5_fitsSingers_49 : decode cX5_fitsSingers 49 = .ok (.iconst 0, 1) := by decide +kernel
theorem dX5_fitsSingers_50 : decode cX5_fitsSingers 50 = .ok (.ireturn, 1) := by decide +kernel
theorem dX5_fitsSingers_51 : decode cX5_fitsSingers 51 = .ok (.iload_n 0, 1) := by decide +kernel
theorem dX5_fitsSingers_52 : decode cX5_fitsSingers 52 = .ok (.bipush 44, 2) := by decide +kernel
theorem dX5_fitsSingers_54 : decode cX5_fitsSingers 54 = .ok (.if_icmp .ne 10, 3) := by decide +kernel
theorem dX5_fitsSingers_57 : decode cX5_fitsSingers 57 = .ok (.iload_n 2, 1) := by decide +kernel
theorem dX5_fitsSingers_58 : decode cX5_fitsSingers 58 = .ok (.iconst 1, 1) := by decide +kernel
theorem dX5_fitsSingers_59 : decode cX5_fitsSingers 59 = .ok (.iadd, 1) := by decide +kernel
theorem dX5_fitsSingers_60 : decode cX5_fitsSingers 60 = .ok (.iconst 4, 1) := by decide +kernel
theorem dX5_fitsSingers_61 : decode cX5_fitsSingers 61 = .ok (.if_icmp .lt 16, 3) := by decide +kernel
theorem dX5_fitsSingers_64 : decode cX5_fitsSingers 64 = .ok (.iload_n 0, 1) := by decide +kernel
theorem dX5_fitsSingers_65 : decode cX5_fitsSingers 65 = .ok (.bipush 59, 2) := by decide +kernel
theorem dX5_fitsSingers_67 : decode cX5_fitsSingers 67 = .ok (.if_icmp .ne 14, 3) := by decide +kernel
theorem dX5_fitsSingers_70 : decode cX5_fitsSingers 70 = .ok (.iload_n 2, 1) := by decide +kernel
theorem dX5_fitsSingers_71 : decode cX5_fitsSingers 71 = .ok (.iconst 1, 1) := by decide +kernel
theorem dX5_fitsSingers_72 : decode cX5_fitsSingers 72 = .ok (.iadd, 1) := by decide +kernel
theorem dX5_fitsSingers_73 : decode cX5_fitsSingers 73 = .ok (.iconst 2, 1) := by decide +kernel
theorem dX5_fitsSingers_74 : decode cX5_fitsSingers 74 = .ok (.if_icmp .lt 7, 3) := by decide +kernel
theorem dX5_fitsSingers_77 : decode cX5_fitsSingers 77 = .ok (.iconst 1, 1) := by decide +kernel
theorem dX5_fitsSingers_78 : decode cX5_fitsSingers 78 = .ok (.goto 4, 3) := by decide +kernel
theorem dX5_fitsSingers_81 : decode cX5_fitsSingers 81 = .ok (.iconst 0, 1) := by decide +kernel
theorem dX5_fitsSingers_82 : decode cX5_fitsSingers 82 = .ok (.ireturn, 1) := by decide +kernel
theorem dX5_fitsWidows_0 : decode cX5_fitsWidows 0 = .ok (.iload_n 1, 1) := by decide +kernel
theorem dX5_fitsWidows_1 : decode cX5_fitsWidows 1 = .ok (.iconst 5, 1) := by decide +kernel
theorem dX5_fitsWidows_2 : decode cX5_fitsWidows 2 = .ok (.if_icmp .gt 19, 3) := by decide +kernel
theorem dX5_fitsWidows_5 : decode cX5_fitsWidows 5 = .ok (.iload_n 0, 1) := by decide +kernel
theorem dX5_fitsWidows_6 : decode cX5_fitsWidows 6 = .ok (.bipush 48, 2) := by decide +kernel
theorem dX5_fitsWidows_8 : decode cX5_fitsWidows 8 = .ok (.if_icmp .lt 13, 3) := by decide +kernel
theorem dX5_fitsWidows_11 : decode cX5_fitsWidows 11 = .ok (.iload_n 0, 1) := by decide +kernel
theorem dX5_fitsWidows_12 : decode cX5_fitsWidows 12 = .ok (.bipush 52, 2) := by decide +kernel
theorem dX5_fitsWidows_14 : decode cX5_fitsWidows 14 = .ok (.if_icmp .ge 7, 3) := by decide +kernel
theorem dX5_fitsWidows_17 : decode cX5_fitsWidows 17 = .ok (.iconst 1, 1) := by decide +kernel
theorem dX5_fitsWidows_18 : decode cX5_fitsWidows 18 = .ok (.goto 4, 3) := by decide +kernel
theorem dX5_fitsWidows_21 : decode cX5_fitsWidows 21 = .ok (.iconst 0, 1) := by decide +kernel
theorem dX5_fitsWidows_22 : decode cX5_fitsWidows 22 = .ok (.ireturn, 1) := by decide +kernel
set_option maxRecDepth 20000 in
theorem ggX5_kindOf_J0_indexOf_0f7a4 : GoodIn wsX5_kindOf wsJ0_indexOf_0f7a4 := goodIn_r _ [5, 6, 7, 8, 4, 9, 10, 11, 12, 13, 14, 15, 16, 17, 18, 19, 20, 21, 22, 23, 24, 25, 26, 27, 28, 29, 30, 31, 32, 33, 34, 35, 36, 37, 38, 39, 40, 41, 42, 43, 44, 45, 46, 47, 48, 49, 50, 51, 52, 53, 54, 55, 56, 57, 58, 59, 60, 61, 62, 63, 64, 65, 66, 67, 68, 69, 70, 71, 72, 73, 74, 75, 76, 77, 78, 79, 80, 81, 82, 83, 84, 85, 86, 87, 88, 89] (by decide +kernel) (by decide +kernel)
set_option maxRecDepth 20000 in
theorem gX5_kindOf_J0_indexOf_0f7a4 : GoodIn wsX5_kindOf (wsV RX5 42 RJ0 yJ0_indexOf_0f7a4 wsJ0_indexOf_0f7a4) := goodIn_app (goodIn_of _ (by decide +kernel)) ggX5_kindOf_J0_indexOf_0f7a4
theorem dX5_kindOf_0 : decode cX5_kindOf 0 = .ok (.ldc 40, 2) := by decide +kernel
theorem dX5_kindOf_2 : decode cX5_kindOf 2 = .ok (.iload_n 0, 1) := by decide +kernel
theorem dX5_kindOf_3 : decode cX5_kindOf 3 = .ok (.i2c, 1) := by decide +kernel
theorem dX5_kindOf_4 : decode cX5_kindOf 4 = .ok (.invokevirtual 42, 3) := by decide +kernel
theorem dX5_kindOf_7 : decode cX5_kindOf 7 = .ok (.ireturn, 1) := by decide +kernel
theorem dX6_init_0 : decode cX6_init 0 = .ok (.aload_n 0, 1) := by decide +kernel
theorem dX6_init_1 : decode cX6_init 1 = .ok (.invokespecial 3, 3) := by decide +kernel
theorem dX6_init_4 : decode cX6_init 4 = .ok (.return_, 1) := by decide +kernel
theorem dX6_number_0 : decode cX6_number 0 = .ok (.iconst 0, 1) := by decide +kernel
theorem dX6_number_1 : decode cX6_number 1 = .ok (.ireturn, 1) := by decide +kernel
theorem dX6_plainBad_0 : decode cX6_plainBad 0 = .ok (.iload_n 2, 1) := by decide +kernel
theorem dX6_plainBad_1 : decode cX6_plainBad 1 = .ok (.ireturn, 1) := by decide +kernel
theorem dX6_practised_0 : decode cX6_practised 0 = .ok (.iload_n 1, 1) := by decide +kernel
theorem dX6_practised_1 : decode cX6_practised 1 = .ok (.ifCond .le 9, 3) := by decide +kernel
theorem dX6_practised_4 : decode cX6_practised 4 = .ok (.iload_n 1, 1) := by decide +kernel
theorem dX6_practised_5 : decode cX6_practised 5 = .ok (.iconst 1, 1) := by decide +kernel
theorem dX6_practised_6 : decode cX6_practised 6 = .ok (.isub, 1) := by decide +kernel
theorem dX6_practised_7 : decode cX6_practised 7 = .ok (.goto 4, 3) := by decide +kernel
theorem dX6_practised_10 : decode cX6_practised 10 = .ok (.iconst 0, 1) := by decide +kernel
theorem dX6_practised_11 : decode cX6_practised 11 = .ok (.ireturn, 1) := by decide +kernel
set_option maxRecDepth 20000 in
theorem ggX7_init_X6_init : GoodIn wsX7_init wsX6_init := goodIn_r _ [3, 4, 5, 6] (by decide +kernel) (by decide +kernel)
set_option maxRecDepth 20000 in
theorem gX7_init_X6_init_n3 : GoodIn wsX7_init (wsX6_init) := ggX7_init_X6_init
theorem dX7_init_0 : decode cX7_init 0 = .ok (.aload_n 0, 1) := by decide +kernel
theorem dX7_init_1 : decode cX7_init 1 = .ok (.invokespecial 3, 3) := by decide +kernel
theorem dX7_init_4 : decode cX7_init 4 = .ok (.return_, 1) := by decide +kernel
theorem dX7_number_0 : decode cX7_number 0 = .ok (.iconst 1, 1) := by decide +kernel
theorem dX7_number_1 : decode cX7_number 1 = .ok (.ireturn, 1) := by decide +kernel
theorem dX7_plainBad_0 : decode cX7_plainBad 0 = .ok (.iload_n 1, 1) := by decide +kernel
theorem dX7_plainBad_1 : decode cX7_plainBad 1 = .ok (.ifCond .ne 9, 3) := by decide +kernel
theorem dX7_plainBad_4 : decode cX7_plainBad 4 = .ok (.iload_n 2, 1) := by decide +kernel
theorem dX7_plainBad_5 : decode cX7_plainBad 5 = .ok (.iconst 2, 1) := by decide +kernel
theorem dX7_plainBad_6 : decode cX7_plainBad 6 = .ok (.idiv, 1) := by decide +kernel
theorem dX7_plainBad_7 : decode cX7_plainBad 7 = .ok (.goto 4, 3) := by decide +kernel
theorem dX7_plainBad_10 : decode cX7_plainBad 10 = .ok (.iload_n 2, 1) := by decide +kernel
theorem dX7_plainBad_11 : decode cX7_plainBad 11 = .ok (.ireturn, 1) := by decide +kernel
set_option maxRecDepth 20000 in
theorem ggX8_init_X6_init : GoodIn wsX8_init wsX6_init := goodIn_r _ [25, 26, 2, 3] (by decide +kernel) (by decide +kernel)
set_option maxRecDepth 20000 in
theorem gX8_init_X6_init_n11 : GoodIn wsX8_init (wsX6_init) := ggX8_init_X6_init
set_option maxRecDepth 20000 in
theorem ggX8_init_X7_init : GoodIn wsX8_init wsX7_init := goodIn_r _ [28, 24, 6, 25, 26, 2, 3] (by decide +kernel) (by decide +kernel)
set_option maxRecDepth 20000 in
theorem gX8_init_X7_init_n20 : GoodIn wsX8_init (wsX7_init) := ggX8_init_X7_init
set_option maxRecDepth 20000 in
theorem ggX8_init_X0_init : GoodIn wsX8_init wsX0_init := goodIn_r _ [30, 24, 6, 25, 26, 2, 3] (by decide +kernel) (by decide +kernel)
set_option maxRecDepth 20000 in
theorem gX8_init_X0_init_n27 : GoodIn wsX8_init (wsX0_init) := ggX8_init_X0_init
set_option maxRecDepth 20000 in
theorem ggX8_init_X3_init : GoodIn wsX8_init wsX3_init := goodIn_r _ [32, 24, 6, 25, 26, 2, 3] (by decide +kernel) (by decide +kernel)
set_option maxRecDepth 20000 in
theorem gX8_init_X3_init_n34 : GoodIn wsX8_init (wsX3_init) := ggX8_init_X3_init
set_option maxRecDepth 20000 in
theorem ggX8_init_X2_init : GoodIn wsX8_init wsX2_init := goodIn_r _ [34, 27, 10, 28, 24, 6, 25, 26, 2, 3] (by decide +kernel) (by decide +kernel)
set_option maxRecDepth 20000 in
theorem gX8_init_X2_init_n41 : GoodIn wsX8_init (wsX2_init) := ggX8_init_X2_init
theorem dX8_init_0 : decode cX8_init 0 = .ok (.aload_n 0, 1) := by decide +kernel
theorem dX8_init_1 : decode cX8_init 1 = .ok (.invokespecial 3, 3) := by decide +kernel
theorem dX8_init_4 : decode cX8_init 4 = .ok (.aload_n 0, 1) := by decide +kernel
theorem dX8_init_5 : decode cX8_init 5 = .ok (.new 9, 3) := by decide +kernel
theorem dX8_init_8 : decode cX8_init 8 = .ok (.dup, 1) := by decide +kernel
theorem dX8_init_9 : decode cX8_init 9 = .ok (.invokespecial 11, 3) := by decide +kernel
theorem dX8_init_12 : decode cX8_init 12 = .ok (.putfield 12, 3) := by decide +kernel
theorem dX8_init_15 : decode cX8_init 15 = .ok (.aload_n 0, 1) := by decide +kernel
theorem dX8_init_16 : decode cX8_init 16 = .ok (.new 18, 3) := by decide +kernel
theorem dX8_init_19 : decode cX8_init 19 = .ok (.dup, 1) := by decide +kernel
theorem dX8_init_20 : decode cX8_init 20 = .ok (.invokespecial 20, 3) := by decide +kernel
theorem dX8_init_23 : decode cX8_init 23 = .ok (.putfield 21, 3) := by decide +kernel
theorem dX8_init_26 : decode cX8_init 26 = .ok (.aload_n 0, 1) := by decide +kernel
theorem dX8_init_27 : decode cX8_init 27 = .ok (.new 25, 3) := by decide +kernel
theorem dX8_init_30 : decode cX8_init 30 = .ok (.dup, 1) := by decide +kernel
theorem dX8_init_31 : decode cX8_init 31 = .ok (.invokespecial 27, 3) := by decide +kernel
theorem dX8_init_34 : decode cX8_init 34 = .ok (.putfield 28, 3) := by decide +kernel
theorem dX8_init_37 : decode cX8_init 37 = .ok (.aload_n 0, 1) := by decide +kernel
theorem dX8_init_38 : decode cX8_init 38 = .ok (.new 32, 3) := by decide +kernel
theorem dX8_init_41 : decode cX8_init 41 = .ok (.dup, 1) := by decide +kernel
theorem dX8_init_42 : decode cX8_init 42 = .ok (.invokespecial 34, 3) := by decide +kernel
theorem dX8_init_45 : decode cX8_init 45 = .ok (.putfield 35, 3) := by decide +kernel
theorem dX8_init_48 : decode cX8_init 48 = .ok (.aload_n 0, 1) := by decide +kernel
theorem dX8_init_49 : decode cX8_init 49 = .ok (.new 39, 3) := by decide +kernel
theorem dX8_init_52 : decode cX8_init 52 = .ok (.dup, 1) := by decide +kernel
theorem dX8_init_53 : decode cX8_init 53 = .ok (.invokespecial 41, 3) := by decide +kernel
theorem dX8_init_56 : decode cX8_init 56 = .ok (.putfield 42, 3) := by decide +kernel
theorem dX8_init_59 : decode cX8_init 59 = .ok (.return_, 1) := by decide +kernel
theorem dX8_ofKind_0 : decode cX8_ofKind 0 = .ok (.iload_n 1, 1) := by decide +kernel
theorem dX8_ofKind_1 : decode cX8_ofKind 1 = .ok (.tableswitch 51 1 4 #[31, 36, 41, 46], 31) := by decide +kernel
theorem dX8_ofKind_32 : decode cX8_ofKind 32 = .ok (.aload_n 0, 1) := by decide +kernel
theorem dX8_ofKind_33 : decode cX8_ofKind 33 = .ok (.getfield 21, 3) := by decide +kernel
theorem dX8_ofKind_36 : decode cX8_ofKind 36 = .ok (.areturn, 1) := by decide +kernel
theorem dX8_ofKind_37 : decode cX8_ofKind 37 = .ok (.aload_n 0, 1) := by decide +kernel
theorem dX8_ofKind_38 : decode cX8_ofKind 38 = .ok (.getfield 28, 3) := by decide +kernel
theorem dX8_ofKind_41 : decode cX8_ofKind 41 = .ok (.areturn, 1) := by decide +kernel
theorem dX8_ofKind_42 : decode cX8_ofKind 42 = .ok (.aload_n 0, 1) := by decide +kernel
theorem dX8_ofKind_43 : decode cX8_ofKind 43 = .ok (.getfield 35, 3) := by decide +kernel
theorem dX8_ofKind_46 : decode cX8_ofKind 46 = .ok (.areturn, 1) := by decide +kernel
theorem dX8_ofKind_47 : decode cX8_ofKind 47 = .ok (.aload_n 0, 1) := by decide +kernel
theorem dX8_ofKind_48 : decode cX8_ofKind 48 = .ok (.getfield 42, 3) := by decide +kernel
theorem dX8_ofKind_51 : decode cX8_ofKind 51 = .ok (.areturn, 1) := by decide +kernel
theorem dX8_ofKind_52 : decode cX8_ofKind 52 = .ok (.aload_n 0, 1) := by decide +kernel
theorem dX8_ofKind_53 : decode cX8_ofKind 53 = .ok (.getfield 12, 3) := by decide +kernel
theorem dX8_ofKind_56 : decode cX8_ofKind 56 = .ok (.areturn, 1) := by decide +kernel
set_option maxRecDepth 20000 in
theorem ggX9_init_X5_init : GoodIn wsX9_init wsX5_init := goodIn_r _ [26, 27, 2, 3, 13, 28, 81, 82] (by decide +kernel) (by decide +kernel)
set_option maxRecDepth 20000 in
theorem gX9_init_X5_init_n11 : GoodIn wsX9_init (wsX5_init) := ggX9_init_X5_init
set_option maxRecDepth 20000 in
theorem ggX9_init_X4_init : GoodIn wsX9_init wsX4_init := goodIn_r _ [30, 31, 2, 3, 13, 32, 33, 34, 35, 94, 95, 96, 97, 98] (by decide +kernel) (by decide +kernel)
set_option maxRecDepth 20000 in
theorem gX9_init_X4_init_n18 : GoodIn wsX9_init (wsX4_init) := ggX9_init_X4_init
set_option maxRecDepth 20000 in
theorem ggX9_init_X8_init : GoodIn wsX9_init wsX8_init := goodIn_r _ [37, 38, 2, 3, 39, 40, 41, 42, 43, 44, 45, 46, 47, 48, 49, 50, 51, 52, 53, 54, 55, 56, 57, 58, 59, 60, 61, 62, 63, 64, 65, 66, 67, 68, 69, 99, 100, 101, 102, 103] (by decide +kernel) (by decide +kernel)
set_option maxRecDepth 20000 in
theorem gX9_init_X8_init_n35 : GoodIn wsX9_init (wsX8_init) := ggX9_init_X8_init
set_option maxRecDepth 20000 in
theorem ggX9_init_X1_init : GoodIn wsX9_init wsX1_init := goodIn_r _ [72, 73, 2, 3, 13, 74, 75, 76, 77, 78, 79, 80, 104, 105, 106, 107, 108, 109, 110, 111, 112, 113] (by decide +kernel) (by decide +kernel)
set_option maxRecDepth 20000 in
theorem gX9_init_X1_init : GoodIn wsX9_init (wsX1_init) := ggX9_init_X1_init
theorem dX9_init_0 : decode cX9_init 0 = .ok (.aload_n 0, 1) := by decide +kernel
theorem dX9_init_1 : decode cX9_init 1 = .ok (.invokespecial 3, 3) := by decide +kernel
theorem dX9_init_4 : decode cX9_init 4 = .ok (.aload_n 0, 1) := by decide +kernel
theorem dX9_init_5 : decode cX9_init 5 = .ok (.new 9, 3) := by decide +kernel
theorem dX9_init_8 : decode cX9_init 8 = .ok (.dup, 1) := by decide +kernel
theorem dX9_init_9 : decode cX9_init 9 = .ok (.invokespecial 11, 3) := by decide +kernel
theorem dX9_init_12 : decode cX9_init 12 = .ok (.putfield 12, 3) := by decide +kernel
theorem dX9_init_15 : decode cX9_init 15 = .ok (.aload_n 0, 1) := by decide +kernel
theorem dX9_init_16 : decode cX9_init 16 = .ok (.new 16, 3) := by decide +kernel
theorem dX9_init_19 : decode cX9_init 19 = .ok (.dup, 1) := by decide +kernel
theorem dX9_init_20 : decode cX9_init 20 = .ok (.invokespecial 18, 3) := by decide +kernel
theorem dX9_init_23 : decode cX9_init 23 = .ok (.putfield 19, 3) := by decide +kernel
theorem dX9_init_26 : decode cX9_init 26 = .ok (.aload_n 0, 1) := by decide +kernel
theorem dX9_init_27 : decode cX9_init 27 = .ok (.new 16, 3) := by decide +kernel
theorem dX9_init_30 : decode cX9_init 30 = .ok (.dup, 1) := by decide +kernel
theorem dX9_init_31 : decode cX9_init 31 = .ok (.invokespecial 18, 3) := by decide +kernel
theorem dX9_init_34 : decode cX9_init 34 = .ok (.putfield 23, 3) := by decide +kernel
theorem dX9_init_37 : decode cX9_init 37 = .ok (.aload_n 0, 1) := by decide +kernel
theorem dX9_init_38 : decode cX9_init 38 = .ok (.iconst 4, 1) := by decide +kernel
theorem dX9_init_39 : decode cX9_init 39 = .ok (.newarray .int, 2) := by decide +kernel
theorem dX9_init_41 : decode cX9_init 41 = .ok (.putfield 26, 3) := by decide +kernel
theorem dX9_init_44 : decode cX9_init 44 = .ok (.aload_n 0, 1) := by decide +kernel
theorem dX9_init_45 : decode cX9_init 45 = .ok (.iconst 4, 1) := by decide +kernel
theorem dX9_init_46 : decode cX9_init 46 = .ok (.newarray .int, 2) := by decide +kernel
theorem dX9_init_48 : decode cX9_init 48 = .ok (.putfield 30, 3) := by decide +kernel
theorem dX9_init_51 : decode cX9_init 51 = .ok (.new 33, 3) := by decide +kernel
theorem dX9_init_54 : decode cX9_init 54 = .ok (.dup, 1) := by decide +kernel
theorem dX9_init_55 : decode cX9_init 55 = .ok (.invokespecial 35, 3) := by decide +kernel
theorem dX9_init_58 : decode cX9_init 58 = .ok (.astore_n 1, 1) := by decide +kernel
theorem dX9_init_59 : decode cX9_init 59 = .ok (.aload_n 0, 1) := by decide +kernel
theorem dX9_init_60 : decode cX9_init 60 = .ok (.new 36, 3) := by decide +kernel
theorem dX9_init_63 : decode cX9_init 63 = .ok (.dup, 1) := by decide +kernel
theorem dX9_init_64 : decode cX9_init 64 = .ok (.aload_n 1, 1) := by decide +kernel
theorem dX9_init_65 : decode cX9_init 65 = .ok (.invokespecial 38, 3) := by decide +kernel
theorem dX9_init_68 : decode cX9_init 68 = .ok (.putfield 41, 3) := by decide +kernel
theorem dX9_init_71 : decode cX9_init 71 = .ok (.aload_n 0, 1) := by decide +kernel
theorem dX9_init_72 : decode cX9_init 72 = .ok (.new 36, 3) := by decide +kernel
theorem dX9_init_75 : decode cX9_init 75 = .ok (.dup, 1) := by decide +kernel
theorem dX9_init_76 : decode cX9_init 76 = .ok (.aload_n 1, 1) := by decide +kernel
theorem dX9_init_77 : decode cX9_init 77 = .ok (.invokespecial 38, 3) := by decide +kernel
theorem dX9_init_80 : decode cX9_init 80 = .ok (.putfield 45, 3) := by decide +kernel
theorem dX9_init_83 : decode cX9_init 83 = .ok (.aload_n 0, 1) := by decide +kernel
theorem dX9_init_84 : decode cX9_init 84 = .ok (.new 36, 3) := by decide +kernel
theorem dX9_init_87 : decode cX9_init 87 = .ok (.dup, 1) := by decide +kernel
theorem dX9_init_88 : decode cX9_init 88 = .ok (.aload_n 1, 1) := by decide +kernel
theorem dX9_init_89 : decode cX9_init 89 = .ok (.invokespecial 38, 3) := by decide +kernel
theorem dX9_init_92 : decode cX9_init 92 = .ok (.putfield 48, 3) := by decide +kernel
theorem dX9_init_95 : decode cX9_init 95 = .ok (.return_, 1) := by decide +kernel
set_option maxRecDepth 20000 in
theorem ggX9_letter_X5_write : GoodIn wsX9_letter wsX5_write := goodIn_r _ [6, 7, 8, 20, 21] (by decide +kernel) (by decide +kernel)
set_option maxRecDepth 20000 in
theorem gX9_letter_X5_write : GoodIn wsX9_letter (wsV RX9 51 RX5 yX5_write wsX5_write) := goodIn_app (goodIn_of _ (by decide +kernel)) ggX9_letter_X5_write
theorem dX9_letter_0 : decode cX9_letter 0 = .ok (.iload_n 1, 1) := by decide +kernel
theorem dX9_letter_1 : decode cX9_letter 1 = .ok (.iconst 1, 1) := by decide +kernel
theorem dX9_letter_2 : decode cX9_letter 2 = .ok (.if_icmp .lt 9, 3) := by decide +kernel
theorem dX9_letter_5 : decode cX9_letter 5 = .ok (.iload_n 1, 1) := by decide +kernel
theorem dX9_letter_6 : decode cX9_letter 6 = .ok (.bipush 126, 2) := by decide +kernel
theorem dX9_letter_8 : decode cX9_letter 8 = .ok (.if_icmp .le 6, 3) := by decide +kernel
theorem dX9_letter_11 : decode cX9_letter 11 = .ok (.bipush (-102), 2) := by decide +kernel
theorem dX9_letter_13 : decode cX9_letter 13 = .ok (.ireturn, 1) := by decide +kernel
theorem dX9_letter_14 : decode cX9_letter 14 = .ok (.aload_n 0, 1) := by decide +kernel
theorem dX9_letter_15 : decode cX9_letter 15 = .ok (.getfield 12, 3) := by decide +kernel
theorem dX9_letter_18 : decode cX9_letter 18 = .ok (.iload_n 1, 1) := by decide +kernel
theorem dX9_letter_19 : decode cX9_letter 19 = .ok (.invokevirtual 51, 3) := by decide +kernel
theorem dX9_letter_22 : decode cX9_letter 22 = .ok (.ifCond .eq 13, 3) := by decide +kernel
theorem dX9_letter_25 : decode cX9_letter 25 = .ok (.aload_n 0, 1) := by decide +kernel
theorem dX9_letter_26 : decode cX9_letter 26 = .ok (.getfield 12, 3) := by decide +kernel
theorem dX9_letter_29 : decode cX9_letter 29 = .ok (.getfield 55, 3) := by decide +kernel
theorem dX9_letter_32 : decode cX9_letter 32 = .ok (.goto 5, 3) := by decide +kernel
theorem dX9_letter_35 : decode cX9_letter 35 = .ok (.bipush (-104), 2) := by decide +kernel
theorem dX9_letter_37 : decode cX9_letter 37 = .ok (.ireturn, 1) := by decide +kernel
set_option maxRecDepth 20000 in
theorem ggX9_blank_X5_wipe : GoodIn wsX9_blank wsX5_wipe := goodIn_r _ [6, 7, 19, 20] (by decide +kernel) (by decide +kernel)
set_option maxRecDepth 20000 in
theorem gX9_blank_X5_wipe : GoodIn wsX9_blank (wsV RX9 59 RX5 yX5_wipe wsX5_wipe) := goodIn_app (goodIn_of _ (by decide +kernel)) ggX9_blank_X5_wipe
theorem dX9_blank_0 : decode cX9_blank 0 = .ok (.aload_n 0, 1) := by decide +kernel
theorem dX9_blank_1 : decode cX9_blank 1 = .ok (.getfield 12, 3) := by decide +kernel
theorem dX9_blank_4 : decode cX9_blank 4 = .ok (.invokevirtual 59, 3) := by decide +kernel
theorem dX9_blank_7 : decode cX9_blank 7 = .ok (.ireturn, 1) := by decide +kernel
set_option maxRecDepth 20000 in
theorem ggX9_fault_X5_firstWrong : GoodIn wsX9_fault wsX5_firstWrong := goodIn_r _ [6, 7, 8, 9, 10, 5, 11, 12, 13, 14, 15, 16, 17, 18, 19, 20, 21, 22, 23, 24, 25, 26, 27, 28, 29, 30, 31, 32, 33, 34, 35, 36, 37, 38, 39, 40, 41, 42, 43, 44, 45, 46, 47, 48, 49, 50, 51, 52, 53, 54, 55, 56, 57, 58, 59, 60, 61, 62, 63, 64, 65, 66, 67, 68, 69, 70, 71, 72, 73, 74, 75, 76, 77, 78, 79, 80, 81, 82, 83, 84, 85, 86, 87, 88, 89, 90, 91, 92, 93, 94, 95, 96, 97, 98, 99, 100, 101, 102, 103, 104, 105, 106, 107, 108, 109, 110, 122, 123] (by decide +kernel) (by decide +kernel)
set_option maxRecDepth 20000 in
theorem gX9_fault_X5_firstWrong : GoodIn wsX9_fault (wsV RX9 63 RX5 yX5_firstWrong wsX5_firstWrong) := goodIn_app (goodIn_of _ (by decide +kernel)) ggX9_fault_X5_firstWrong
theorem dX9_fault_0 : decode cX9_fault 0 = .ok (.aload_n 0, 1) := by decide +kernel
theorem dX9_fault_1 : decode cX9_fault 1 = .ok (.getfield 12, 3) := by decide +kernel
theorem dX9_fault_4 : decode cX9_fault 4 = .ok (.invokevirtual 63, 3) := by decide +kernel
theorem dX9_fault_7 : decode cX9_fault 7 = .ok (.ireturn, 1) := by decide +kernel
set_option maxRecDepth 20000 in
theorem ggX9_town_X5_isWhole : GoodIn wsX9_town wsX5_isWhole := goodIn_r _ [10, 11, 12, 13, 14, 9, 15, 16, 17, 18, 19, 20, 21, 22, 23, 24, 25, 26, 27, 28, 29, 30, 31, 32, 33, 34, 35, 36, 37, 38, 39, 40, 41, 42, 43, 44, 45, 46, 47, 48, 49, 50, 51, 52, 53, 54, 55, 56, 57, 58, 59, 60, 61, 62, 63, 64, 65, 66, 67, 68, 69, 70, 71, 72, 73, 74, 75, 76, 77, 78, 79, 80, 81, 82, 83, 84, 85, 86, 87, 88, 89, 90, 91, 92, 93, 94, 95, 96, 97, 98, 99, 100, 101, 102, 103, 104, 105, 106, 107, 108, 109, 110, 111, 112, 113, 114, 115, 116, 117, 118, 119, 120, 121, 122, 187, 188] (by decide +kernel) (by decide +kernel)
set_option maxRecDepth 20000 in
theorem gX9_town_X5_isWhole : GoodIn wsX9_town (wsV RX9 66 RX5 yX5_isWhole wsX5_isWhole) := goodIn_app (goodIn_of _ (by decide +kernel)) ggX9_town_X5_isWhole
set_option maxRecDepth 20000 in
theorem ggX9_town_X1_readFrom : GoodIn wsX9_town wsX1_readFrom := goodIn_r _ [127, 128, 60, 57, 61, 129, 130, 56, 58, 131, 132, 133, 134, 120, 121, 9, 122, 11, 16, 17, 18, 19, 20, 135, 136, 137, 126, 138, 139, 140, 141, 142, 143, 144, 145, 146, 147, 148, 149, 150, 151, 24, 25, 26, 27, 28, 29, 30, 31, 32, 33, 34, 35, 36, 37, 38, 39, 40, 41, 42, 43, 44, 45, 46, 47, 48, 49, 50, 51, 52, 53, 54, 55, 59, 62, 63, 64, 65, 66, 67, 68, 69, 70, 71, 72, 73, 74, 75, 76, 77, 78, 79, 80, 81, 82, 83, 84, 85, 86, 87, 88, 89, 90, 91, 92, 93, 94, 95, 96, 97, 98, 99, 100, 101, 102, 103, 104, 105, 106, 107, 108, 109, 110, 111, 112, 113, 114, 115, 152, 153, 154, 155, 177, 178, 179, 180, 181, 182, 183, 184, 185, 186, 187, 188] (by decide +kernel) (by decide +kernel)
set_option maxRecDepth 20000 in
theorem gX9_town_X1_readFrom : GoodIn wsX9_town (wsV RX9 70 RX1 yX1_readFrom wsX1_readFrom) := goodIn_app (goodIn_of _ (by decide +kernel)) ggX9_town_X1_readFrom
set_option maxRecDepth 20000 in
theorem ggX9_town_X4_clear : GoodIn wsX9_town wsX4_clear := goodIn_r _ [160, 161, 189, 190, 191, 192, 193] (by decide +kernel) (by decide +kernel)
set_option maxRecDepth 20000 in
theorem gX9_town_X4_clear : GoodIn wsX9_town (wsV RX9 74 RX4 yX4_clear wsX4_clear) := goodIn_app (goodIn_of _ (by decide +kernel)) ggX9_town_X4_clear
set_option maxRecDepth 20000 in
theorem ggX9_town_X5_wipe : GoodIn wsX9_town wsX5_wipe := goodIn_r _ [165, 11, 187, 188] (by decide +kernel) (by decide +kernel)
set_option maxRecDepth 20000 in
theorem gX9_town_X5_wipe : GoodIn wsX9_town (wsV RX9 59 RX5 yX5_wipe wsX5_wipe) := goodIn_app (goodIn_of _ (by decide +kernel)) ggX9_town_X5_wipe
theorem dX9_town_0 : decode cX9_town 0 = .ok (.aload_n 0, 1) := by decide +kernel
theorem dX9_town_1 : decode cX9_town 1 = .ok (.getfield 12, 3) := by decide +kernel
theorem dX9_town_4 : decode cX9_town 4 = .ok (.invokevirtual 66, 3) := by decide +kernel
theorem dX9_town_7 : decode cX9_town 7 = .ok (.ifCond .ne 6, 3) := by decide +kernel
theorem dX9_town_10 : decode cX9_town 10 = .ok (.bipush (-103), 2) := by decide +kernel
theorem dX9_town_12 : decode cX9_town 12 = .ok (.ireturn, 1) := by decide +kernel
theorem dX9_town_13 : decode cX9_town 13 = .ok (.aload_n 0, 1) := by decide +kernel
theorem dX9_town_14 : decode cX9_town 14 = .ok (.getfield 41, 3) := by decide +kernel
theorem dX9_town_17 : decode cX9_town 17 = .ok (.aload_n 0, 1) := by decide +kernel
theorem dX9_town_18 : decode cX9_town 18 = .ok (.getfield 12, 3) := by decide +kernel
theorem dX9_town_21 : decode cX9_town 21 = .ok (.invokevirtual 70, 3) := by decide +kernel
theorem dX9_town_24 : decode cX9_town 24 = .ok (.aload_n 0, 1) := by decide +kernel
theorem dX9_town_25 : decode cX9_town 25 = .ok (.getfield 19, 3) := by decide +kernel
theorem dX9_town_28 : decode cX9_town 28 = .ok (.invokevirtual 74, 3) := by decide +kernel
theorem dX9_town_31 : decode cX9_town 31 = .ok (.pop, 1) := by decide +kernel
theorem dX9_town_32 : decode cX9_town 32 = .ok (.aload_n 0, 1) := by decide +kernel
theorem dX9_town_33 : decode cX9_town 33 = .ok (.iconst 0, 1) := by decide +kernel
theorem dX9_town_34 : decode cX9_town 34 = .ok (.putfield 77, 3) := by decide +kernel
theorem dX9_town_37 : decode cX9_town 37 = .ok (.aload_n 0, 1) := by decide +kernel
theorem dX9_town_38 : decode cX9_town 38 = .ok (.dup, 1) := by decide +kernel
theorem dX9_town_39 : decode cX9_town 39 = .ok (.getfield 81, 3) := by decide +kernel
theorem dX9_town_42 : decode cX9_town 42 = .ok (.iconst 1, 1) := by decide +kernel
theorem dX9_town_43 : decode cX9_town 43 = .ok (.iadd, 1) := by decide +kernel
theorem dX9_town_44 : decode cX9_town 44 = .ok (.putfield 81, 3) := by decide +kernel
theorem dX9_town_47 : decode cX9_town 47 = .ok (.aload_n 0, 1) := by decide +kernel
theorem dX9_town_48 : decode cX9_town 48 = .ok (.getfield 12, 3) := by decide +kernel
theorem dX9_town_51 : decode cX9_town 51 = .ok (.invokevirtual 59, 3) := by decide +kernel
theorem dX9_town_54 : decode cX9_town 54 = .ok (.pop, 1) := by decide +kernel
theorem dX9_town_55 : decode cX9_town 55 = .ok (.aload_n 0, 1) := by decide +kernel
theorem dX9_town_56 : decode cX9_town 56 = .ok (.getfield 41, 3) := by decide +kernel
theorem dX9_town_59 : decode cX9_town 59 = .ok (.getfield 84, 3) := by decide +kernel
theorem dX9_town_62 : decode cX9_town 62 = .ok (.ireturn, 1) := by decide +kernel
set_option maxRecDepth 20000 in
theorem ggX9_singer_X1_hasSinger : GoodIn wsX9_singer wsX1_hasSinger := goodIn_r _ [6, 7, 161, 162, 163, 164, 165, 166, 167, 168, 169, 170] (by decide +kernel) (by decide +kernel)
set_option maxRecDepth 20000 in
theorem gX9_singer_X1_hasSinger : GoodIn wsX9_singer (wsV RX9 87 RX1 yX1_hasSinger wsX1_hasSinger) := goodIn_app (goodIn_of _ (by decide +kernel)) ggX9_singer_X1_hasSinger
set_option maxRecDepth 20000 in
theorem ggX9_singer_X1_voice : GoodIn wsX9_singer wsX1_voice := goodIn_r _ [11, 12, 13, 14, 3, 4, 5, 6, 7, 15, 16, 17, 18, 19, 20, 21, 22, 23, 24, 161, 162, 163, 164, 165, 166, 167, 168, 169, 170, 171, 172, 173, 174, 175] (by decide +kernel) (by decide +kernel)
set_option maxRecDepth 20000 in
theorem gX9_singer_X1_voice : GoodIn wsX9_singer (wsV RX9 90 RX1 yX1_voice wsX1_voice) := goodIn_app (goodIn_of _ (by decide +kernel)) ggX9_singer_X1_voice
set_option maxRecDepth 20000 in
theorem ggX9_singer_X0_number : GoodIn wsX9_singer wsX0_number := goodIn_r _ [31] (by decide +kernel) (by decide +kernel)
set_option maxRecDepth 20000 in
theorem gX9_singer_X0_number_u94X0 : GoodIn wsX9_singer (va_wsO RX9 94 RX0 "WorstVoice$Singer" ⟨"WorstVoice$Singer", "number", "()I"⟩ yX0_number wsX0_number) := goodIn_app (goodIn_of _ (by decide +kernel)) ggX9_singer_X0_number
set_option maxRecDepth 20000 in
theorem ggX9_singer_X2_number : GoodIn wsX9_singer wsX2_number := goodIn_r _ [36] (by decide +kernel) (by decide +kernel)
set_option maxRecDepth 20000 in
theorem gX9_singer_X2_number_u94X2 : GoodIn wsX9_singer (va_wsO RX9 94 RX2 "WorstVoice$Singer" ⟨"WorstVoice$Singer", "number", "()I"⟩ yX2_number wsX2_number) := goodIn_app (goodIn_of _ (by decide +kernel)) ggX9_singer_X2_number
set_option maxRecDepth 20000 in
theorem ggX9_singer_X3_number : GoodIn wsX9_singer wsX3_number := goodIn_r _ [40] (by decide +kernel) (by decide +kernel)
set_option maxRecDepth 20000 in
theorem gX9_singer_X3_number_u94X3 : GoodIn wsX9_singer (va_wsO RX9 94 RX3 "WorstVoice$Singer" ⟨"WorstVoice$Singer", "number", "()I"⟩ yX3_number wsX3_number) := goodIn_app (goodIn_of _ (by decide +kernel)) ggX9_singer_X3_number
set_option maxRecDepth 20000 in
theorem ggX9_singer_X6_number : GoodIn wsX9_singer wsX6_number := goodIn_r _ [32] (by decide +kernel) (by decide +kernel)
set_option maxRecDepth 20000 in
theorem gX9_singer_X6_number : GoodIn wsX9_singer (wsV RX9 94 RX6 yX6_number wsX6_number) := goodIn_app (goodIn_of _ (by decide +kernel)) ggX9_singer_X6_number
set_option maxRecDepth 20000 in
theorem ggX9_singer_X7_number : GoodIn wsX9_singer wsX7_number := goodIn_r _ [48] (by decide +kernel) (by decide +kernel)
set_option maxRecDepth 20000 in
theorem gX9_singer_X7_number_u94X7 : GoodIn wsX9_singer (va_wsO RX9 94 RX7 "WorstVoice$Singer" ⟨"WorstVoice$Singer", "number", "()I"⟩ yX7_number wsX7_number) := goodIn_app (goodIn_of _ (by decide +kernel)) ggX9_singer_X7_number
set_option maxRecDepth 20000 in
theorem ggX9_singer_X1_votes : GoodIn wsX9_singer wsX1_votes := goodIn_r _ [52, 53, 54, 55, 56, 5, 57, 7, 58, 59, 60, 61, 62, 63, 64, 65, 66, 67, 68, 69, 70, 12, 13, 71, 72, 73, 74, 75, 76, 77, 78, 14, 3, 4, 6, 79, 80, 81, 15, 16, 17, 18, 19, 20, 21, 22, 23, 24, 82, 83, 84, 85, 86, 30, 87, 88, 89, 90, 35, 91, 92, 93, 39, 94, 95, 96, 97, 44, 98, 99, 47, 100, 161, 162, 163, 164, 165, 166, 167, 168, 169, 170, 171, 172, 173, 174, 175] (by decide +kernel) (by decide +kernel)
set_option maxRecDepth 20000 in
theorem gX9_singer_X1_votes : GoodIn wsX9_singer (wsV RX9 99 RX1 yX1_votes wsX1_votes) := goodIn_app (goodIn_of _ (by decide +kernel)) ggX9_singer_X1_votes
set_option maxRecDepth 20000 in
theorem ggX9_singer_X1_coldOf : GoodIn wsX9_singer wsX1_coldOf := goodIn_r _ [104, 72, 14, 3, 4, 5, 6, 7, 161, 162, 163, 164, 165, 166, 167, 168, 169, 170] (by decide +kernel) (by decide +kernel)
set_option maxRecDepth 20000 in
theorem gX9_singer_X1_coldOf : GoodIn wsX9_singer (wsV RX9 103 RX1 yX1_coldOf wsX1_coldOf) := goodIn_app (goodIn_of _ (by decide +kernel)) ggX9_singer_X1_coldOf
set_option maxRecDepth 20000 in
theorem ggX9_singer_X1_leftOf : GoodIn wsX9_singer wsX1_leftOf := goodIn_r _ [108, 73, 14, 3, 4, 5, 6, 7, 161, 162, 163, 164, 165, 166, 167, 168, 169, 170] (by decide +kernel) (by decide +kernel)
set_option maxRecDepth 20000 in
theorem gX9_singer_X1_leftOf : GoodIn wsX9_singer (wsV RX9 106 RX1 yX1_leftOf wsX1_leftOf) := goodIn_app (goodIn_of _ (by decide +kernel)) ggX9_singer_X1_leftOf
set_option maxRecDepth 20000 in
theorem ggX9_singer_X1_honeyOf : GoodIn wsX9_singer wsX1_honeyOf := goodIn_r _ [112, 74, 14, 3, 4, 5, 6, 7, 161, 162, 163, 164, 165, 166, 167, 168, 169, 170] (by decide +kernel) (by decide +kernel)
set_option maxRecDepth 20000 in
theorem gX9_singer_X1_honeyOf : GoodIn wsX9_singer (wsV RX9 109 RX1 yX1_honeyOf wsX1_honeyOf) := goodIn_app (goodIn_of _ (by decide +kernel)) ggX9_singer_X1_honeyOf
set_option maxRecDepth 20000 in
theorem ggX9_singer_X9_worstAndVotes : GoodIn wsX9_singer wsX9_worstAndVotes := goodIn_r _ [117, 118, 1, 119, 120, 121, 5, 122, 13, 71, 72, 73, 74, 62, 7, 53, 123, 124, 116, 125, 126, 127, 77, 128, 129, 130, 131, 132, 133, 134, 135, 136, 14, 3, 4, 6, 137, 138, 139, 140, 49, 50, 51, 52, 54, 55, 56, 57, 58, 59, 60, 61, 63, 64, 65, 66, 67, 68, 69, 70, 12, 75, 76, 78, 79, 80, 81, 15, 16, 17, 18, 19, 20, 21, 22, 23, 24, 82, 83, 84, 85, 86, 30, 87, 88, 89, 90, 35, 91, 92, 93, 39, 94, 95, 96, 97, 44, 98, 99, 47, 100, 150, 151, 152, 153, 154, 155, 156, 157, 158, 159, 160, 161, 162, 163, 164, 165, 166, 167, 168, 169, 170, 171, 172, 173, 174, 175] (by decide +kernel) (by decide +kernel)
set_option maxRecDepth 20000 in
theorem gX9_singer_X9_worstAndVotes : GoodIn wsX9_singer (wsV RX9 112 RX9 yX9_worstAndVotes wsX9_worstAndVotes) := goodIn_app (goodIn_of _ (by decide +kernel)) ggX9_singer_X9_worstAndVotes
set_option maxRecDepth 20000 in
theorem ggX9_singer_X9_singersFault : GoodIn wsX9_singer wsX9_singersFault := goodIn_r _ [144, 1, 145, 146, 147, 5, 148, 71, 14, 3, 4, 6, 7, 79, 80, 81, 149, 68, 69, 70, 12, 13, 72, 73, 74, 75, 76, 77, 78, 15, 16, 17, 18, 19, 20, 21, 22, 23, 24, 82, 83, 84, 85, 86, 30, 87, 88, 89, 90, 35, 91, 92, 93, 39, 94, 95, 96, 97, 44, 98, 99, 47, 100, 150, 151, 152, 153, 154, 155, 156, 157, 158, 159, 160, 161, 162, 163, 164, 165, 166, 167, 168, 169, 170, 171, 172, 173, 174, 175] (by decide +kernel) (by decide +kernel)
set_option maxRecDepth 20000 in
theorem gX9_singer_X9_singersFault : GoodIn wsX9_singer (wsV RX9 115 RX9 yX9_singersFault wsX9_singersFault) := goodIn_app (goodIn_of _ (by decide +kernel)) ggX9_singer_X9_singersFault
theorem dX9_singer_0 : decode cX9_singer 0 = .ok (.aload_n 0, 1) := by decide +kernel
theorem dX9_singer_1 : decode cX9_singer 1 = .ok (.getfield 41, 3) := by decide +kernel
theorem dX9_singer_4 : decode cX9_singer 4 = .ok (.iload_n 1, 1) := by decide +kernel
theorem dX9_singer_5 : decode cX9_singer 5 = .ok (.invokevirtual 87, 3) := by decide +kernel
theorem dX9_singer_8 : decode cX9_singer 8 = .ok (.ifCond .ne 6, 3) := by decide +kernel
theorem dX9_singer_11 : decode cX9_singer 11 = .ok (.bipush (-101), 2) := by decide +kernel
theorem dX9_singer_13 : decode cX9_singer 13 = .ok (.ireturn, 1) := by decide +kernel
theorem dX9_singer_14 : decode cX9_singer 14 = .ok (.iload_n 2, 1) := by decide +kernel
theorem dX9_singer_15 : decode cX9_singer 15 = .ok (.tableswitch 105 0 6 #[41, 53, 62, 71, 80, 89, 97], 41) := by decide +kernel
theorem dX9_singer_56 : decode cX9_singer 56 = .ok (.aload_n 0, 1) := by decide +kernel
theorem dX9_singer_57 : decode cX9_singer 57 = .ok (.getfield 41, 3) := by decide +kernel
theorem dX9_singer_60 : decode cX9_singer 60 = .ok (.iload_n 1, 1) := by decide +kernel
theorem dX9_singer_61 : decode cX9_singer 61 = .ok (.invokevirtual 90, 3) := by decide +kernel
theorem dX9_singer_64 : decode cX9_singer 64 = .ok (.invokevirtual 94, 3) := by decide +kernel
theorem dX9_singer_67 : decode cX9_singer 67 = .ok (.ireturn, 1) := by decide +kernel
theorem dX9_singer_68 : decode cX9_singer 68 = .ok (.aload_n 0, 1) := by decide +kernel
theorem dX9_singer_69 : decode cX9_singer 69 = .ok (.getfield 41, 3) := by decide +kernel
theorem dX9_singer_72 : decode cX9_singer 72 = .ok (.iload_n 1, 1) := by decide +kernel
theorem dX9_singer_73 : decode cX9_singer 73 = .ok (.invokevirtual 99, 3) := by decide +kernel
theorem dX9_singer_76 : decode cX9_singer 76 = .ok (.ireturn, 1) := by decide +kernel
theorem dX9_singer_77 : decode cX9_singer 77 = .ok (.aload_n 0, 1) := by decide +kernel
theorem dX9_singer_78 : decode cX9_singer 78 = .ok (.getfield 41, 3) := by decide +kernel
theorem dX9_singer_81 : decode cX9_singer 81 = .ok (.iload_n 1, 1) := by decide +kernel
theorem dX9_singer_82 : decode cX9_singer 82 = .ok (.invokevirtual 103, 3) := by decide +kernel
theorem dX9_singer_85 : decode cX9_singer 85 = .ok (.ireturn, 1) := by decide +kernel
theorem dX9_singer_86 : decode cX9_singer 86 = .ok (.aload_n 0, 1) := by decide +kernel
theorem dX9_singer_87 : decode cX9_singer 87 = .ok (.getfield 41, 3) := by decide +kernel
theorem dX9_singer_90 : decode cX9_singer 90 = .ok (.iload_n 1, 1) := by decide +kernel
theorem dX9_singer_91 : decode cX9_singer 91 = .ok (.invokevirtual 106, 3) := by decide +kernel
theorem dX9_singer_94 : decode cX9_singer 94 = .ok (.ireturn, 1) := by decide +kernel
theorem dX9_singer_95 : decode cX9_singer 95 = .ok (.aload_n 0, 1) := by decide +kernel
theorem dX9_singer_96 : decode cX9_singer 96 = .ok (.getfield 41, 3) := by decide +kernel
theorem dX9_singer_99 : decode cX9_singer 99 = .ok (.iload_n 1, 1) := by decide +kernel
theorem dX9_singer_100 : decode cX9_singer 100 = .ok (.invokevirtual 109, 3) := by decide +kernel
theorem dX9_singer_103 : decode cX9_singer 103 = .ok (.ireturn, 1) := by decide +kernel
theorem dX9_singer_104 : decode cX9_singer 104 = .ok (.aload_n 0, 1) := by decide +kernel
theorem dX9_singer_105 : decode cX9_singer 105 = .ok (.iload_n 1, 1) := by decide +kernel
theorem dX9_singer_106 : decode cX9_singer 106 = .ok (.invokevirtual 112, 3) := by decide +kernel
theorem dX9_singer_109 : decode cX9_singer 109 = .ok (.iconst 4, 1) := by decide +kernel
theorem dX9_singer_110 : decode cX9_singer 110 = .ok (.irem, 1) := by decide +kernel
theorem dX9_singer_111 : decode cX9_singer 111 = .ok (.ireturn, 1) := by decide +kernel
theorem dX9_singer_112 : decode cX9_singer 112 = .ok (.aload_n 0, 1) := by decide +kernel
theorem dX9_singer_113 : decode cX9_singer 113 = .ok (.iload_n 1, 1) := by decide +kernel
theorem dX9_singer_114 : decode cX9_singer 114 = .ok (.invokevirtual 112, 3) := by decide +kernel
theorem dX9_singer_117 : decode cX9_singer 117 = .ok (.iconst 4, 1) := by decide +kernel
theorem dX9_singer_118 : decode cX9_singer 118 = .ok (.idiv, 1) := by decide +kernel
theorem dX9_singer_119 : decode cX9_singer 119 = .ok (.ireturn, 1) := by decide +kernel
theorem dX9_singer_120 : decode cX9_singer 120 = .ok (.aload_n 0, 1) := by decide +kernel
theorem dX9_singer_121 : decode cX9_singer 121 = .ok (.iload_n 1, 1) := by decide +kernel
theorem dX9_singer_122 : decode cX9_singer 122 = .ok (.iload_n 2, 1) := by decide +kernel
theorem dX9_singer_123 : decode cX9_singer 123 = .ok (.invokevirtual 115, 3) := by decide +kernel
theorem dX9_singer_126 : decode cX9_singer 126 = .ok (.ireturn, 1) := by decide +kernel
set_option maxRecDepth 20000 in
theorem ggX9_as_X1_hasSinger : GoodIn wsX9_as wsX1_hasSinger := goodIn_r _ [6, 7, 44, 45, 46, 47, 48, 49, 50, 51, 52, 53] (by decide +kernel) (by decide +kernel)
set_option maxRecDepth 20000 in
theorem gX9_as_X1_hasSinger : GoodIn wsX9_as (wsV RX9 87 RX1 yX1_hasSinger wsX1_hasSinger) := goodIn_app (goodIn_of _ (by decide +kernel)) ggX9_as_X1_hasSinger
set_option maxRecDepth 20000 in
theorem ggX9_as_X1_voice : GoodIn wsX9_as wsX1_voice := goodIn_r _ [11, 12, 13, 14, 3, 4, 5, 6, 7, 15, 16, 17, 18, 19, 20, 21, 22, 23, 24, 44, 45, 46, 47, 48, 49, 50, 51, 52, 53, 54, 55, 56, 57, 58] (by decide +kernel) (by decide +kernel)
set_option maxRecDepth 20000 in
theorem gX9_as_X1_voice : GoodIn wsX9_as (wsV RX9 90 RX1 yX1_voice wsX1_voice) := goodIn_app (goodIn_of _ (by decide +kernel)) ggX9_as_X1_voice
set_option maxRecDepth 20000 in
theorem ggX9_as_X9_isOfKind : GoodIn wsX9_as wsX9_isOfKind := goodIn_r _ [28, 29, 30, 31, 32] (by decide +kernel) (by decide +kernel)
set_option maxRecDepth 20000 in
theorem gX9_as_X9_isOfKind : GoodIn wsX9_as (va_wsS RX9 119 yX9_isOfKind wsX9_isOfKind) := goodIn_app (goodIn_of _ (by decide +kernel)) ggX9_as_X9_isOfKind
theorem dX9_as_0 : decode cX9_as 0 = .ok (.aload_n 0, 1) := by decide +kernel
theorem dX9_as_1 : decode cX9_as 1 = .ok (.getfield 41, 3) := by decide +kernel
theorem dX9_as_4 : decode cX9_as 4 = .ok (.iload_n 1, 1) := by decide +kernel
theorem dX9_as_5 : decode cX9_as 5 = .ok (.invokevirtual 87, 3) := by decide +kernel
theorem dX9_as_8 : decode cX9_as 8 = .ok (.ifCond .ne 6, 3) := by decide +kernel
theorem dX9_as_11 : decode cX9_as 11 = .ok (.bipush (-101), 2) := by decide +kernel
theorem dX9_as_13 : decode cX9_as 13 = .ok (.ireturn, 1) := by decide +kernel
theorem dX9_as_14 : decode cX9_as 14 = .ok (.iload_n 2, 1) := by decide +kernel
theorem dX9_as_15 : decode cX9_as 15 = .ok (.ifCond .lt 8, 3) := by decide +kernel
theorem dX9_as_18 : decode cX9_as 18 = .ok (.iload_n 2, 1) := by decide +kernel
theorem dX9_as_19 : decode cX9_as 19 = .ok (.iconst 5, 1) := by decide +kernel
theorem dX9_as_20 : decode cX9_as 20 = .ok (.if_icmp .lt 6, 3) := by decide +kernel
theorem dX9_as_23 : decode cX9_as 23 = .ok (.bipush (-102), 2) := by decide +kernel
theorem dX9_as_25 : decode cX9_as 25 = .ok (.ireturn, 1) := by decide +kernel
theorem dX9_as_26 : decode cX9_as 26 = .ok (.aload_n 0, 1) := by decide +kernel
theorem dX9_as_27 : decode cX9_as 27 = .ok (.getfield 41, 3) := by decide +kernel
theorem dX9_as_30 : decode cX9_as 30 = .ok (.iload_n 1, 1) := by decide +kernel
theorem dX9_as_31 : decode cX9_as 31 = .ok (.invokevirtual 90, 3) := by decide +kernel
theorem dX9_as_34 : decode cX9_as 34 = .ok (.iload_n 2, 1) := by decide +kernel
theorem dX9_as_35 : decode cX9_as 35 = .ok (.invokestatic 119, 3) := by decide +kernel
theorem dX9_as_38 : decode cX9_as 38 = .ok (.ifCond .eq 7, 3) := by decide +kernel
theorem dX9_as_41 : decode cX9_as 41 = .ok (.iload_n 1, 1) := by decide +kernel
theorem dX9_as_42 : decode cX9_as 42 = .ok (.goto 4, 3) := by decide +kernel
theorem dX9_as_45 : decode cX9_as 45 = .ok (.iconst (-1), 1) := by decide +kernel
theorem dX9_as_46 : decode cX9_as 46 = .ok (.ireturn, 1) := by decide +kernel
set_option maxRecDepth 20000 in
theorem ggX9_widow_X1_hasWidow : GoodIn wsX9_widow wsX1_hasWidow := goodIn_r _ [6, 7, 120, 121, 122, 123, 124, 125, 126, 127, 128, 129] (by decide +kernel) (by decide +kernel)
set_option maxRecDepth 20000 in
theorem gX9_widow_X1_hasWidow : GoodIn wsX9_widow (wsV RX9 123 RX1 yX1_hasWidow wsX1_hasWidow) := goodIn_app (goodIn_of _ (by decide +kernel)) ggX9_widow_X1_hasWidow
set_option maxRecDepth 20000 in
theorem ggX9_widow_X1_minds : GoodIn wsX9_widow wsX1_minds := goodIn_r _ [11, 12, 13, 3, 4, 5, 6, 7, 120, 121, 122, 123, 124, 125, 126, 127, 128, 129] (by decide +kernel) (by decide +kernel)
set_option maxRecDepth 20000 in
theorem gX9_widow_X1_minds : GoodIn wsX9_widow (wsV RX9 126 RX1 yX1_minds wsX1_minds) := goodIn_app (goodIn_of _ (by decide +kernel)) ggX9_widow_X1_minds
set_option maxRecDepth 20000 in
theorem ggX9_widow_X1_favourite : GoodIn wsX9_widow wsX1_favourite := goodIn_r _ [17, 18, 19, 9, 10, 5, 11, 12, 13, 3, 4, 6, 7, 20, 21, 22, 23, 24, 25, 26, 27, 28, 29, 30, 31, 32, 33, 34, 35, 36, 37, 38, 39, 40, 41, 42, 43, 44, 45, 46, 47, 48, 49, 50, 51, 52, 53, 54, 55, 56, 57, 58, 59, 60, 61, 62, 63, 64, 65, 66, 67, 68, 69, 70, 71, 72, 73, 74, 120, 121, 122, 123, 124, 125, 126, 127, 128, 129, 130, 131, 132, 133, 134] (by decide +kernel) (by decide +kernel)
set_option maxRecDepth 20000 in
theorem gX9_widow_X1_favourite : GoodIn wsX9_widow (wsV RX9 129 RX1 yX1_favourite wsX1_favourite) := goodIn_app (goodIn_of _ (by decide +kernel)) ggX9_widow_X1_favourite
set_option maxRecDepth 20000 in
theorem ggX9_widow_X1_bad : GoodIn wsX9_widow wsX1_bad := goodIn_r _ [23, 24, 25, 26, 27, 28, 29, 30, 31, 32, 33, 34, 35, 36, 5, 37, 18, 38, 39, 40, 41, 42, 43, 44, 45, 46, 47, 48, 49, 50, 51, 52, 53, 54, 55, 56, 57, 58, 59, 60, 61, 62, 63, 64, 65, 66, 67, 68, 69, 70, 71, 72, 73, 74, 120, 121, 122, 123, 124, 125, 126, 127, 128, 129, 130, 131, 132, 133, 134] (by decide +kernel) (by decide +kernel)
set_option maxRecDepth 20000 in
theorem gX9_widow_X1_bad : GoodIn wsX9_widow (wsV RX9 132 RX1 yX1_bad wsX1_bad) := goodIn_app (goodIn_of _ (by decide +kernel)) ggX9_widow_X1_bad
set_option maxRecDepth 20000 in
theorem ggX9_widow_X9_canMind : GoodIn wsX9_widow wsX9_canMind := goodIn_r _ [80, 81, 1, 82, 83, 84, 85, 86, 87, 88, 89, 90, 91, 92, 21, 22, 5, 23, 24, 25, 26, 27, 28, 29, 30, 31, 32, 33, 34, 35, 36, 37, 18, 38, 39, 40, 41, 42, 43, 44, 45, 46, 47, 48, 49, 50, 51, 52, 53, 54, 55, 56, 57, 58, 59, 60, 61, 62, 63, 64, 65, 66, 67, 68, 69, 70, 71, 72, 73, 74, 109, 110, 111, 112, 113, 114, 115, 116, 117, 118, 119, 135, 136, 137, 138, 139, 120, 121, 122, 123, 124, 125, 126, 127, 128, 129, 130, 131, 132, 133, 134] (by decide +kernel) (by decide +kernel)
set_option maxRecDepth 20000 in
theorem gX9_widow_X9_canMind : GoodIn wsX9_widow (wsV RX9 135 RX9 yX9_canMind wsX9_canMind) := goodIn_app (goodIn_of _ (by decide +kernel)) ggX9_widow_X9_canMind
set_option maxRecDepth 20000 in
theorem ggX9_widow_X9_bestAsk : GoodIn wsX9_widow wsX9_bestAsk := goodIn_r _ [96, 1, 76, 77, 78, 79, 80, 81, 82, 83, 84, 85, 86, 87, 88, 89, 90, 91, 92, 21, 22, 5, 23, 24, 25, 26, 27, 28, 29, 30, 31, 32, 33, 34, 35, 36, 37, 18, 38, 39, 40, 41, 42, 43, 44, 45, 46, 47, 48, 49, 50, 51, 52, 53, 54, 55, 56, 57, 58, 59, 60, 61, 62, 63, 64, 65, 66, 67, 68, 69, 70, 71, 72, 73, 74, 97, 98, 99, 100, 101, 75, 102, 103, 104, 105, 106, 107, 108, 109, 110, 111, 112, 113, 114, 115, 116, 117, 118, 119, 120, 121, 122, 123, 124, 125, 126, 127, 128, 129, 135, 136, 137, 138, 139, 130, 131, 132, 133, 134] (by decide +kernel) (by decide +kernel)
set_option maxRecDepth 20000 in
theorem gX9_widow_X9_bestAsk : GoodIn wsX9_widow (wsV RX9 138 RX9 yX9_bestAsk wsX9_bestAsk) := goodIn_app (goodIn_of _ (by decide +kernel)) ggX9_widow_X9_bestAsk
theorem dX9_widow_0 : decode cX9_widow 0 = .ok (.aload_n 0, 1) := by decide +kernel
theorem dX9_widow_1 : decode cX9_widow 1 = .ok (.getfield 41, 3) := by decide +kernel
theorem dX9_widow_4 : decode cX9_widow 4 = .ok (.iload_n 1, 1) := by decide +kernel
theorem dX9_widow_5 : decode cX9_widow 5 = .ok (.invokevirtual 123, 3) := by decide +kernel
theorem dX9_widow_8 : decode cX9_widow 8 = .ok (.ifCond .ne 6, 3) := by decide +kernel
theorem dX9_widow_11 : decode cX9_widow 11 = .ok (.bipush (-101), 2) := by decide +kernel
theorem dX9_widow_13 : decode cX9_widow 13 = .ok (.ireturn, 1) := by decide +kernel
theorem dX9_widow_14 : decode cX9_widow 14 = .ok (.iload_n 2, 1) := by decide +kernel
theorem dX9_widow_15 : decode cX9_widow 15 = .ok (.tableswitch 87 0 4 #[33, 42, 51, 75, 81], 33) := by decide +kernel
theorem dX9_widow_48 : decode cX9_widow 48 = .ok (.aload_n 0, 1) := by decide +kernel
theorem dX9_widow_49 : decode cX9_widow 49 = .ok (.getfield 41, 3) := by decide +kernel
theorem dX9_widow_52 : decode cX9_widow 52 = .ok (.iload_n 1, 1) := by decide +kernel
theorem dX9_widow_53 : decode cX9_widow 53 = .ok (.invokevirtual 126, 3) := by decide +kernel
theorem dX9_widow_56 : decode cX9_widow 56 = .ok (.ireturn, 1) := by decide +kernel
theorem dX9_widow_57 : decode cX9_widow 57 = .ok (.aload_n 0, 1) := by decide +kernel
theorem dX9_widow_58 : decode cX9_widow 58 = .ok (.getfield 41, 3) := by decide +kernel
theorem dX9_widow_61 : decode cX9_widow 61 = .ok (.iload_n 1, 1) := by decide +kernel
theorem dX9_widow_62 : decode cX9_widow 62 = .ok (.invokevirtual 129, 3) := by decide +kernel
theorem dX9_widow_65 : decode cX9_widow 65 = .ok (.ireturn, 1) := by decide +kernel
theorem dX9_widow_66 : decode cX9_widow 66 = .ok (.aload_n 0, 1) := by decide +kernel
theorem dX9_widow_67 : decode cX9_widow 67 = .ok (.getfield 41, 3) := by decide +kernel
theorem dX9_widow_70 : decode cX9_widow 70 = .ok (.aload_n 0, 1) := by decide +kernel
theorem dX9_widow_71 : decode cX9_widow 71 = .ok (.getfield 41, 3) := by decide +kernel
theorem dX9_widow_74 : decode cX9_widow 74 = .ok (.iload_n 1, 1) := by decide +kernel
theorem dX9_widow_75 : decode cX9_widow 75 = .ok (.invokevirtual 129, 3) := by decide +kernel
theorem dX9_widow_78 : decode cX9_widow 78 = .ok (.aload_n 0, 1) := by decide +kernel
theorem dX9_widow_79 : decode cX9_widow 79 = .ok (.getfield 41, 3) := by decide +kernel
theorem dX9_widow_82 : decode cX9_widow 82 = .ok (.iload_n 1, 1) := by decide +kernel
theorem dX9_widow_83 : decode cX9_widow 83 = .ok (.invokevirtual 126, 3) := by decide +kernel
theorem dX9_widow_86 : decode cX9_widow 86 = .ok (.invokevirtual 132, 3) := by decide +kernel
theorem dX9_widow_89 : decode cX9_widow 89 = .ok (.ireturn, 1) := by decide +kernel
theorem dX9_widow_90 : decode cX9_widow 90 = .ok (.aload_n 0, 1) := by decide +kernel
theorem dX9_widow_91 : decode cX9_widow 91 = .ok (.iload_n 1, 1) := by decide +kernel
theorem dX9_widow_92 : decode cX9_widow 92 = .ok (.invokevirtual 135, 3) := by decide +kernel
theorem dX9_widow_95 : decode cX9_widow 95 = .ok (.ireturn, 1) := by decide +kernel
theorem dX9_widow_96 : decode cX9_widow 96 = .ok (.aload_n 0, 1) := by decide +kernel
theorem dX9_widow_97 : decode cX9_widow 97 = .ok (.iload_n 1, 1) := by decide +kernel
theorem dX9_widow_98 : decode cX9_widow 98 = .ok (.invokevirtual 138, 3) := by decide +kernel
theorem dX9_widow_101 : decode cX9_widow 101 = .ok (.ireturn, 1) := by decide +kernel
theorem dX9_widow_102 : decode cX9_widow 102 = .ok (.bipush (-102), 2) := by decide +kernel
theorem dX9_widow_104 : decode cX9_widow 104 = .ok (.ireturn, 1) := by decide +kernel
set_option maxRecDepth 20000 in
theorem ggX9_wince_X1_hasWidow : GoodIn wsX9_wince wsX1_hasWidow := goodIn_r _ [6, 7, 82, 83, 84, 85, 86, 87, 88, 89, 90, 91] (by decide +kernel) (by decide +kernel)
set_option maxRecDepth 20000 in
theorem gX9_wince_X1_hasWidow : GoodIn wsX9_wince (wsV RX9 123 RX1 yX1_hasWidow wsX1_hasWidow) := goodIn_app (goodIn_of _ (by decide +kernel)) ggX9_wince_X1_hasWidow
set_option maxRecDepth 20000 in
theorem ggX9_wince_X1_hasSinger : GoodIn wsX9_wince wsX1_hasSinger := goodIn_r _ [11, 12, 82, 83, 84, 85, 86, 87, 88, 89, 90, 91] (by decide +kernel) (by decide +kernel)
set_option maxRecDepth 20000 in
theorem gX9_wince_X1_hasSinger : GoodIn wsX9_wince (wsV RX9 87 RX1 yX1_hasSinger wsX1_hasSinger) := goodIn_app (goodIn_of _ (by decide +kernel)) ggX9_wince_X1_hasSinger
set_option maxRecDepth 20000 in
theorem ggX9_wince_X1_minds : GoodIn wsX9_wince wsX1_minds := goodIn_r _ [16, 17, 18, 3, 4, 5, 6, 7, 82, 83, 84, 85, 86, 87, 88, 89, 90, 91] (by decide +kernel) (by decide +kernel)
set_option maxRecDepth 20000 in
theorem gX9_wince_X1_minds : GoodIn wsX9_wince (wsV RX9 126 RX1 yX1_minds wsX1_minds) := goodIn_app (goodIn_of _ (by decide +kernel)) ggX9_wince_X1_minds
set_option maxRecDepth 20000 in
theorem ggX9_wince_X1_bad : GoodIn wsX9_wince wsX1_bad := goodIn_r _ [22, 23, 24, 25, 26, 27, 28, 29, 30, 31, 32, 33, 9, 10, 5, 11, 12, 34, 35, 36, 37, 38, 39, 40, 41, 42, 43, 44, 45, 46, 47, 48, 49, 50, 51, 52, 53, 54, 55, 56, 57, 58, 59, 60, 61, 62, 63, 64, 65, 66, 67, 68, 69, 70, 82, 83, 84, 85, 86, 87, 88, 89, 90, 91, 92, 93, 94, 95, 96] (by decide +kernel) (by decide +kernel)
set_option maxRecDepth 20000 in
theorem gX9_wince_X1_bad : GoodIn wsX9_wince (wsV RX9 132 RX1 yX1_bad wsX1_bad) := goodIn_app (goodIn_of _ (by decide +kernel)) ggX9_wince_X1_bad
theorem dX9_wince_0 : decode cX9_wince 0 = .ok (.aload_n 0, 1) := by decide +kernel
theorem dX9_wince_1 : decode cX9_wince 1 = .ok (.getfield 41, 3) := by decide +kernel
theorem dX9_wince_4 : decode cX9_wince 4 = .ok (.iload_n 1, 1) := by decide +kernel
theorem dX9_wince_5 : decode cX9_wince 5 = .ok (.invokevirtual 123, 3) := by decide +kernel
theorem dX9_wince_8 : decode cX9_wince 8 = .ok (.ifCond .eq 14, 3) := by decide +kernel
theorem dX9_wince_11 : decode cX9_wince 11 = .ok (.aload_n 0, 1) := by decide +kernel
theorem dX9_wince_12 : decode cX9_wince 12 = .ok (.getfield 41, 3) := by decide +kernel
theorem dX9_wince_15 : decode cX9_wince 15 = .ok (.iload_n 2, 1) := by decide +kernel
theorem dX9_wince_16 : decode cX9_wince 16 = .ok (.invokevirtual 87, 3) := by decide +kernel
theorem dX9_wince_19 : decode cX9_wince 19 = .ok (.ifCond .ne 6, 3) := by decide +kernel
theorem dX9_wince_22 : decode cX9_wince 22 = .ok (.bipush (-101), 2) := by decide +kernel
theorem dX9_wince_24 : decode cX9_wince 24 = .ok (.ireturn, 1) := by decide +kernel
theorem dX9_wince_25 : decode cX9_wince 25 = .ok (.aload_n 0, 1) := by decide +kernel
theorem dX9_wince_26 : decode cX9_wince 26 = .ok (.getfield 41, 3) := by decide +kernel
theorem dX9_wince_29 : decode cX9_wince 29 = .ok (.iload_n 2, 1) := by decide +kernel
theorem dX9_wince_30 : decode cX9_wince 30 = .ok (.aload_n 0, 1) := by decide +kernel
theorem dX9_wince_31 : decode cX9_wince 31 = .ok (.getfield 41, 3) := by decide +kernel
theorem dX9_wince_34 : decode cX9_wince 34 = .ok (.iload_n 1, 1) := by decide +kernel
theorem dX9_wince_35 : decode cX9_wince 35 = .ok (.invokevirtual 126, 3) := by decide +kernel
theorem dX9_wince_38 : decode cX9_wince 38 = .ok (.invokevirtual 132, 3) := by decide +kernel
theorem dX9_wince_41 : decode cX9_wince 41 = .ok (.ireturn, 1) := by decide +kernel
set_option maxRecDepth 20000 in
theorem ggX9_cold_X1_hasSinger : GoodIn wsX9_cold wsX1_hasSinger := goodIn_r _ [6, 7, 29, 30, 31, 32, 33, 34, 35, 36, 37, 38] (by decide +kernel) (by decide +kernel)
set_option maxRecDepth 20000 in
theorem gX9_cold_X1_hasSinger : GoodIn wsX9_cold (wsV RX9 87 RX1 yX1_hasSinger wsX1_hasSinger) := goodIn_app (goodIn_of _ (by decide +kernel)) ggX9_cold_X1_hasSinger
set_option maxRecDepth 20000 in
theorem ggX9_cold_X1_coldOf : GoodIn wsX9_cold wsX1_coldOf := goodIn_r _ [11, 12, 13, 3, 4, 5, 6, 7, 29, 30, 31, 32, 33, 34, 35, 36, 37, 38] (by decide +kernel) (by decide +kernel)
set_option maxRecDepth 20000 in
theorem gX9_cold_X1_coldOf : GoodIn wsX9_cold (wsV RX9 103 RX1 yX1_coldOf wsX1_coldOf) := goodIn_app (goodIn_of _ (by decide +kernel)) ggX9_cold_X1_coldOf
set_option maxRecDepth 20000 in
theorem ggX9_cold_X1_setCold : GoodIn wsX9_cold wsX1_setCold := goodIn_r _ [17, 12, 13, 3, 4, 5, 6, 7, 29, 30, 31, 32, 33, 34, 35, 36, 37, 38] (by decide +kernel) (by decide +kernel)
set_option maxRecDepth 20000 in
theorem gX9_cold_X1_setCold : GoodIn wsX9_cold (wsV RX9 141 RX1 yX1_setCold wsX1_setCold) := goodIn_app (goodIn_of _ (by decide +kernel)) ggX9_cold_X1_setCold
theorem dX9_cold_0 : decode cX9_cold 0 = .ok (.aload_n 0, 1) := by decide +kernel
theorem dX9_cold_1 : decode cX9_cold 1 = .ok (.getfield 41, 3) := by decide +kernel
theorem dX9_cold_4 : decode cX9_cold 4 = .ok (.iload_n 1, 1) := by decide +kernel
theorem dX9_cold_5 : decode cX9_cold 5 = .ok (.invokevirtual 87, 3) := by decide +kernel
theorem dX9_cold_8 : decode cX9_cold 8 = .ok (.ifCond .ne 6, 3) := by decide +kernel
theorem dX9_cold_11 : decode cX9_cold 11 = .ok (.bipush (-101), 2) := by decide +kernel
theorem dX9_cold_13 : decode cX9_cold 13 = .ok (.ireturn, 1) := by decide +kernel
theorem dX9_cold_14 : decode cX9_cold 14 = .ok (.aload_n 0, 1) := by decide +kernel
theorem dX9_cold_15 : decode cX9_cold 15 = .ok (.getfield 41, 3) := by decide +kernel
theorem dX9_cold_18 : decode cX9_cold 18 = .ok (.iload_n 1, 1) := by decide +kernel
theorem dX9_cold_19 : decode cX9_cold 19 = .ok (.invokevirtual 103, 3) := by decide +kernel
theorem dX9_cold_22 : decode cX9_cold 22 = .ok (.istore_n 3, 1) := by decide +kernel
theorem dX9_cold_23 : decode cX9_cold 23 = .ok (.aload_n 0, 1) := by decide +kernel
theorem dX9_cold_24 : decode cX9_cold 24 = .ok (.getfield 41, 3) := by decide +kernel
theorem dX9_cold_27 : decode cX9_cold 27 = .ok (.iload_n 1, 1) := by decide +kernel
theorem dX9_cold_28 : decode cX9_cold 28 = .ok (.iload_n 2, 1) := by decide +kernel
theorem dX9_cold_29 : decode cX9_cold 29 = .ok (.invokevirtual 141, 3) := by decide +kernel
theorem dX9_cold_32 : decode cX9_cold 32 = .ok (.iload_n 3, 1) := by decide +kernel
theorem dX9_cold_33 : decode cX9_cold 33 = .ok (.ireturn, 1) := by decide +kernel
set_option maxRecDepth 20000 in
theorem ggX9_aisle_X1_hasSinger : GoodIn wsX9_aisle wsX1_hasSinger := goodIn_r _ [6, 7, 29, 30, 31, 32, 33, 34, 35, 36, 37, 38] (by decide +kernel) (by decide +kernel)
set_option maxRecDepth 20000 in
theorem gX9_aisle_X1_hasSinger : GoodIn wsX9_aisle (wsV RX9 87 RX1 yX1_hasSinger wsX1_hasSinger) := goodIn_app (goodIn_of _ (by decide +kernel)) ggX9_aisle_X1_hasSinger
set_option maxRecDepth 20000 in
theorem ggX9_aisle_X1_leftOf : GoodIn wsX9_aisle wsX1_leftOf := goodIn_r _ [11, 12, 13, 3, 4, 5, 6, 7, 29, 30, 31, 32, 33, 34, 35, 36, 37, 38] (by decide +kernel) (by decide +kernel)
set_option maxRecDepth 20000 in
theorem gX9_aisle_X1_leftOf : GoodIn wsX9_aisle (wsV RX9 106 RX1 yX1_leftOf wsX1_leftOf) := goodIn_app (goodIn_of _ (by decide +kernel)) ggX9_aisle_X1_leftOf
set_option maxRecDepth 20000 in
theorem ggX9_aisle_X1_setLeft : GoodIn wsX9_aisle wsX1_setLeft := goodIn_r _ [17, 12, 13, 3, 4, 5, 6, 7, 29, 30, 31, 32, 33, 34, 35, 36, 37, 38] (by decide +kernel) (by decide +kernel)
set_option maxRecDepth 20000 in
theorem gX9_aisle_X1_setLeft : GoodIn wsX9_aisle (wsV RX9 145 RX1 yX1_setLeft wsX1_setLeft) := goodIn_app (goodIn_of _ (by decide +kernel)) ggX9_aisle_X1_setLeft
theorem dX9_aisle_0 : decode cX9_aisle 0 = .ok (.aload_n 0, 1) := by decide +kernel
theorem dX9_aisle_1 : decode cX9_aisle 1 = .ok (.getfield 41, 3) := by decide +kernel
theorem dX9_aisle_4 : decode cX9_aisle 4 = .ok (.iload_n 1, 1) := by decide +kernel
theorem dX9_aisle_5 : decode cX9_aisle 5 = .ok (.invokevirtual 87, 3) := by decide +kernel
theorem dX9_aisle_8 : decode cX9_aisle 8 = .ok (.ifCond .ne 6, 3) := by decide +kernel
theorem dX9_aisle_11 : decode cX9_aisle 11 = .ok (.bipush (-101), 2) := by decide +kernel
theorem dX9_aisle_13 : decode cX9_aisle 13 = .ok (.ireturn, 1) := by decide +kernel
theorem dX9_aisle_14 : decode cX9_aisle 14 = .ok (.aload_n 0, 1) := by decide +kernel
theorem dX9_aisle_15 : decode cX9_aisle 15 = .ok (.getfield 41, 3) := by decide +kernel
theorem dX9_aisle_18 : decode cX9_aisle 18 = .ok (.iload_n 1, 1) := by decide +kernel
theorem dX9_aisle_19 : decode cX9_aisle 19 = .ok (.invokevirtual 106, 3) := by decide +kernel
theorem dX9_aisle_22 : decode cX9_aisle 22 = .ok (.istore_n 3, 1) := by decide +kernel
theorem dX9_aisle_23 : decode cX9_aisle 23 = .ok (.aload_n 0, 1) := by decide +kernel
theorem dX9_aisle_24 : decode cX9_aisle 24 = .ok (.getfield 41, 3) := by decide +kernel
theorem dX9_aisle_27 : decode cX9_aisle 27 = .ok (.iload_n 1, 1) := by decide +kernel
theorem dX9_aisle_28 : decode cX9_aisle 28 = .ok (.iload_n 2, 1) := by decide +kernel
theorem dX9_aisle_29 : decode cX9_aisle 29 = .ok (.invokevirtual 145, 3) := by decide +kernel
theorem dX9_aisle_32 : decode cX9_aisle 32 = .ok (.iload_n 3, 1) := by decide +kernel
theorem dX9_aisle_33 : decode cX9_aisle 33 = .ok (.ireturn, 1) := by decide +kernel
set_option maxRecDepth 20000 in
theorem ggX9_honey_X1_hasSinger : GoodIn wsX9_honey wsX1_hasSinger := goodIn_r _ [6, 7, 29, 30, 31, 32, 33, 34, 35, 36, 37, 38] (by decide +kernel) (by decide +kernel)
set_option maxRecDepth 20000 in
theorem gX9_honey_X1_hasSinger : GoodIn wsX9_honey (wsV RX9 87 RX1 yX1_hasSinger wsX1_hasSinger) := goodIn_app (goodIn_of _ (by decide +kernel)) ggX9_honey_X1_hasSinger
set_option maxRecDepth 20000 in
theorem ggX9_honey_X1_honeyOf : GoodIn wsX9_honey wsX1_honeyOf := goodIn_r _ [11, 12, 13, 3, 4, 5, 6, 7, 29, 30, 31, 32, 33, 34, 35, 36, 37, 38] (by decide +kernel) (by decide +kernel)
set_option maxRecDepth 20000 in
theorem gX9_honey_X1_honeyOf : GoodIn wsX9_honey (wsV RX9 109 RX1 yX1_honeyOf wsX1_honeyOf) := goodIn_app (goodIn_of _ (by decide +kernel)) ggX9_honey_X1_honeyOf
set_option maxRecDepth 20000 in
theorem ggX9_honey_X1_setHoney : GoodIn wsX9_honey wsX1_setHoney := goodIn_r _ [17, 12, 13, 3, 4, 5, 6, 7, 29, 30, 31, 32, 33, 34, 35, 36, 37, 38] (by decide +kernel) (by decide +kernel)
set_option maxRecDepth 20000 in
theorem gX9_honey_X1_setHoney : GoodIn wsX9_honey (wsV RX9 148 RX1 yX1_setHoney wsX1_setHoney) := goodIn_app (goodIn_of _ (by decide +kernel)) ggX9_honey_X1_setHoney
theorem dX9_honey_0 : decode cX9_honey 0 = .ok (.aload_n 0, 1) := by decide +kernel
theorem dX9_honey_1 : decode cX9_honey 1 = .ok (.getfield 41, 3) := by decide +kernel
theorem dX9_honey_4 : decode cX9_honey 4 = .ok (.iload_n 1, 1) := by decide +kernel
theorem dX9_honey_5 : decode cX9_honey 5 = .ok (.invokevirtual 87, 3) := by decide +kernel
theorem dX9_honey_8 : decode cX9_honey 8 = .ok (.ifCond .ne 6, 3) := by decide +kernel
theorem dX9_honey_11 : decode cX9_honey 11 = .ok (.bipush (-101), 2) := by decide +kernel
theorem dX9_honey_13 : decode cX9_honey 13 = .ok (.ireturn, 1) := by decide +kernel
theorem dX9_honey_14 : decode cX9_honey 14 = .ok (.iload_n 2, 1) := by decide +kernel
theorem dX9_honey_15 : decode cX9_honey 15 = .ok (.ifCond .lt 9, 3) := by decide +kernel
theorem dX9_honey_18 : decode cX9_honey 18 = .ok (.iload_n 2, 1) := by decide +kernel
theorem dX9_honey_19 : decode cX9_honey 19 = .ok (.bipush 9, 2) := by decide +kernel
theorem dX9_honey_21 : decode cX9_honey 21 = .ok (.if_icmp .le 6, 3) := by decide +kernel
theorem dX9_honey_24 : decode cX9_honey 24 = .ok (.bipush (-102), 2) := by decide +kernel
theorem dX9_honey_26 : decode cX9_honey 26 = .ok (.ireturn, 1) := by decide +kernel
theorem dX9_honey_27 : decode cX9_honey 27 = .ok (.aload_n 0, 1) := by decide +kernel
theorem dX9_honey_28 : decode cX9_honey 28 = .ok (.getfield 41, 3) := by decide +kernel
theorem dX9_honey_31 : decode cX9_honey 31 = .ok (.iload_n 1, 1) := by decide +kernel
theorem dX9_honey_32 : decode cX9_honey 32 = .ok (.invokevirtual 109, 3) := by decide +kernel
theorem dX9_honey_35 : decode cX9_honey 35 = .ok (.istore_n 3, 1) := by decide +kernel
theorem dX9_honey_36 : decode cX9_honey 36 = .ok (.aload_n 0, 1) := by decide +kernel
theorem dX9_honey_37 : decode cX9_honey 37 = .ok (.getfield 41, 3) := by decide +kernel
theorem dX9_honey_40 : decode cX9_honey 40 = .ok (.iload_n 1, 1) := by decide +kernel
theorem dX9_honey_41 : decode cX9_honey 41 = .ok (.iload_n 2, 1) := by decide +kernel
theorem dX9_honey_42 : decode cX9_honey 42 = .ok (.invokevirtual 148, 3) := by decide +kernel
theorem dX9_honey_45 : decode cX9_honey 45 = .ok (.iload_n 3, 1) := by decide +kernel
theorem dX9_honey_46 : decode cX9_honey 46 = .ok (.ireturn, 1) := by decide +kernel
set_option maxRecDepth 20000 in
theorem ggX9_practise_X1_hasSinger : GoodIn wsX9_practise wsX1_hasSinger := goodIn_r _ [6, 7, 57, 58, 59, 60, 61, 62, 63, 64, 65, 66] (by decide +kernel) (by decide +kernel)
set_option maxRecDepth 20000 in
theorem gX9_practise_X1_hasSinger : GoodIn wsX9_practise (wsV RX9 87 RX1 yX1_hasSinger wsX1_hasSinger) := goodIn_app (goodIn_of _ (by decide +kernel)) ggX9_practise_X1_hasSinger
set_option maxRecDepth 20000 in
theorem ggX9_practise_X1_practiseWeek : GoodIn wsX9_practise wsX1_practiseWeek := goodIn_r _ [11, 12, 13, 14, 3, 4, 5, 6, 7, 15, 16, 17, 18, 19, 20, 21, 22, 23, 24, 25, 26, 27, 28, 29, 30, 31, 32, 33, 34, 35, 36, 37, 38, 39, 40, 41, 42, 43, 44, 45, 57, 58, 59, 60, 61, 62, 63, 64, 65, 66, 67, 68, 69, 70, 71] (by decide +kernel) (by decide +kernel)
set_option maxRecDepth 20000 in
theorem gX9_practise_X1_practiseWeek : GoodIn wsX9_practise (wsV RX9 152 RX1 yX1_practiseWeek wsX1_practiseWeek) := goodIn_app (goodIn_of _ (by decide +kernel)) ggX9_practise_X1_practiseWeek
theorem dX9_practise_0 : decode cX9_practise 0 = .ok (.aload_n 0, 1) := by decide +kernel
theorem dX9_practise_1 : decode cX9_practise 1 = .ok (.getfield 41, 3) := by decide +kernel
theorem dX9_practise_4 : decode cX9_practise 4 = .ok (.iload_n 1, 1) := by decide +kernel
theorem dX9_practise_5 : decode cX9_practise 5 = .ok (.invokevirtual 87, 3) := by decide +kernel
theorem dX9_practise_8 : decode cX9_practise 8 = .ok (.ifCond .ne 6, 3) := by decide +kernel
theorem dX9_practise_11 : decode cX9_practise 11 = .ok (.bipush (-101), 2) := by decide +kernel
theorem dX9_practise_13 : decode cX9_practise 13 = .ok (.ireturn, 1) := by decide +kernel
theorem dX9_practise_14 : decode cX9_practise 14 = .ok (.aload_n 0, 1) := by decide +kernel
theorem dX9_practise_15 : decode cX9_practise 15 = .ok (.getfield 41, 3) := by decide +kernel
theorem dX9_practise_18 : decode cX9_practise 18 = .ok (.iload_n 1, 1) := by decide +kernel
theorem dX9_practise_19 : decode cX9_practise 19 = .ok (.invokevirtual 152, 3) := by decide +kernel
theorem dX9_practise_22 : decode cX9_practise 22 = .ok (.ireturn, 1) := by decide +kernel
set_option maxRecDepth 20000 in
theorem ggX9_mayor_X1_isEmpty : GoodIn wsX9_mayor wsX1_isEmpty := goodIn_r _ [6, 7, 96, 97, 98, 99, 100, 101, 102, 103, 104, 105] (by decide +kernel) (by decide +kernel)
set_option maxRecDepth 20000 in
theorem gX9_mayor_X1_isEmpty : GoodIn wsX9_mayor (wsV RX9 155 RX1 yX1_isEmpty wsX1_isEmpty) := goodIn_app (goodIn_of _ (by decide +kernel)) ggX9_mayor_X1_isEmpty
set_option maxRecDepth 20000 in
theorem ggX9_mayor_X1_elected : GoodIn wsX9_mayor wsX1_elected := goodIn_r _ [11, 7, 12, 13, 14, 5, 15, 16, 17, 18, 19, 20, 21, 22, 23, 24, 25, 26, 27, 28, 29, 30, 31, 32, 33, 34, 35, 36, 37, 38, 39, 40, 41, 42, 43, 44, 45, 46, 47, 48, 49, 50, 51, 52, 53, 54, 55, 56, 57, 58, 59, 60, 61, 62, 63, 64, 65, 66, 67, 68, 69, 70, 71, 72, 73, 74, 75, 76, 77, 78, 79, 80, 81, 82, 83, 84, 96, 97, 98, 99, 100, 101, 102, 103, 104, 105, 106, 107, 108, 109, 110] (by decide +kernel) (by decide +kernel)
set_option maxRecDepth 20000 in
theorem gX9_mayor_X1_elected : GoodIn wsX9_mayor (wsV RX9 158 RX1 yX1_elected wsX1_elected) := goodIn_app (goodIn_of _ (by decide +kernel)) ggX9_mayor_X1_elected
theorem dX9_mayor_0 : decode cX9_mayor 0 = .ok (.aload_n 0, 1) := by decide +kernel
