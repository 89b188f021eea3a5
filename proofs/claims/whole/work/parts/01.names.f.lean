theorem dX10_singer_14 : decode cX10_singer 14 = .ok (.goto 5, 3) := by decide +kernel
theorem dX10_singer_17 : decode cX10_singer 17 = .ok (.bipush (-101), 2) := by decide +kernel
theorem dX10_singer_19 : decode cX10_singer 19 = .ok (.ireturn, 1) := by decide +kernel
set_option maxRecDepth 20000 in
theorem ggX10_as_X10_isSinger : GoodIn wsX10_as wsX10_isSinger := goodIn_r _ [7, 8, 9, 10, 6, 11, 12, 13, 14, 15, 16, 17, 18, 19, 20, 21, 22, 23, 24, 25, 26, 27, 28, 29, 30, 31, 32, 33, 34, 35, 36, 37] (by decide +kernel) (by decide +kernel)
set_option maxRecDepth 20000 in
theorem gX10_as_X10_isSinger : GoodIn wsX10_as (wsV RX10 121 RX10 yX10_isSinger wsX10_isSinger) := goodIn_app (goodIn_of _ (by decide +kernel)) ggX10_as_X10_isSinger
set_option maxRecDepth 20000 in
theorem ggX10_as_X10_in : GoodIn wsX10_as wsX10_in := goodIn_r _ [11] (by decide +kernel) (by decide +kernel)
set_option maxRecDepth 20000 in
theorem gX10_as_X10_in : GoodIn wsX10_as (va_wsS RX10 49 yX10_in wsX10_in) := goodIn_app (goodIn_of _ (by decide +kernel)) ggX10_as_X10_in
theorem dX10_as_0 : decode cX10_as 0 = .ok (.aload_n 0, 1) := by decide +kernel
theorem dX10_as_1 : decode cX10_as 1 = .ok (.iload_n 1, 1) := by decide +kernel
theorem dX10_as_2 : decode cX10_as 2 = .ok (.invokevirtual 121, 3) := by decide +kernel
theorem dX10_as_5 : decode cX10_as 5 = .ok (.ifCond .ne 6, 3) := by decide +kernel
theorem dX10_as_8 : decode cX10_as 8 = .ok (.bipush (-101), 2) := by decide +kernel
theorem dX10_as_10 : decode cX10_as 10 = .ok (.ireturn, 1) := by decide +kernel
theorem dX10_as_11 : decode cX10_as 11 = .ok (.iload_n 2, 1) := by decide +kernel
theorem dX10_as_12 : decode cX10_as 12 = .ok (.i2l, 1) := by decide +kernel
theorem dX10_as_13 : decode cX10_as 13 = .ok (.lconst 0, 1) := by decide +kernel
theorem dX10_as_14 : decode cX10_as 14 = .ok (.ldc2_w 127, 3) := by decide +kernel
theorem dX10_as_17 : decode cX10_as 17 = .ok (.invokestatic 49, 3) := by decide +kernel
theorem dX10_as_20 : decode cX10_as 20 = .ok (.ifCond .ne 6, 3) := by decide +kernel
theorem dX10_as_23 : decode cX10_as 23 = .ok (.bipush (-102), 2) := by decide +kernel
theorem dX10_as_25 : decode cX10_as 25 = .ok (.ireturn, 1) := by decide +kernel
theorem dX10_as_26 : decode cX10_as 26 = .ok (.aload_n 0, 1) := by decide +kernel
theorem dX10_as_27 : decode cX10_as 27 = .ok (.getfield 19, 3) := by decide +kernel
theorem dX10_as_30 : decode cX10_as 30 = .ok (.bipush 8, 2) := by decide +kernel
theorem dX10_as_32 : decode cX10_as 32 = .ok (.iload_n 1, 1) := by decide +kernel
theorem dX10_as_33 : decode cX10_as 33 = .ok (.imul, 1) := by decide +kernel
theorem dX10_as_34 : decode cX10_as 34 = .ok (.iaload, 1) := by decide +kernel
theorem dX10_as_35 : decode cX10_as 35 = .ok (.istore_n 3, 1) := by decide +kernel
theorem dX10_as_36 : decode cX10_as 36 = .ok (.iload_n 2, 1) := by decide +kernel
theorem dX10_as_37 : decode cX10_as 37 = .ok (.ifCond .eq 18, 3) := by decide +kernel
theorem dX10_as_40 : decode cX10_as 40 = .ok (.iload_n 2, 1) := by decide +kernel
theorem dX10_as_41 : decode cX10_as 41 = .ok (.iload_n 3, 1) := by decide +kernel
theorem dX10_as_42 : decode cX10_as 42 = .ok (.if_icmp .eq 13, 3) := by decide +kernel
theorem dX10_as_45 : decode cX10_as 45 = .ok (.iload_n 2, 1) := by decide +kernel
theorem dX10_as_46 : decode cX10_as 46 = .ok (.iconst 1, 1) := by decide +kernel
theorem dX10_as_47 : decode cX10_as 47 = .ok (.if_icmp .ne 12, 3) := by decide +kernel
theorem dX10_as_50 : decode cX10_as 50 = .ok (.iload_n 3, 1) := by decide +kernel
theorem dX10_as_51 : decode cX10_as 51 = .ok (.iconst 4, 1) := by decide +kernel
theorem dX10_as_52 : decode cX10_as 52 = .ok (.if_icmp .ne 7, 3) := by decide +kernel
theorem dX10_as_55 : decode cX10_as 55 = .ok (.iconst 1, 1) := by decide +kernel
theorem dX10_as_56 : decode cX10_as 56 = .ok (.goto 4, 3) := by decide +kernel
theorem dX10_as_59 : decode cX10_as 59 = .ok (.iconst 0, 1) := by decide +kernel
theorem dX10_as_60 : decode cX10_as 60 = .ok (.istore 4, 2) := by decide +kernel
theorem dX10_as_62 : decode cX10_as 62 = .ok (.iload 4, 2) := by decide +kernel
theorem dX10_as_64 : decode cX10_as 64 = .ok (.ifCond .eq 7, 3) := by decide +kernel
theorem dX10_as_67 : decode cX10_as 67 = .ok (.iload_n 1, 1) := by decide +kernel
theorem dX10_as_68 : decode cX10_as 68 = .ok (.goto 4, 3) := by decide +kernel
theorem dX10_as_71 : decode cX10_as 71 = .ok (.iconst (-1), 1) := by decide +kernel
theorem dX10_as_72 : decode cX10_as 72 = .ok (.ireturn, 1) := by decide +kernel
set_option maxRecDepth 20000 in
theorem ggX10_tellWidow_X10_forWhom : GoodIn wsX10_tellWidow wsX10_forWhom := goodIn_r _ [6, 7, 1, 8, 9, 10, 5, 11, 12, 34, 35, 36, 37, 38, 39, 40, 41, 42, 43, 44, 45, 46, 47, 48, 49, 50, 51, 52, 53, 54, 55, 56, 57, 58, 59] (by decide +kernel) (by decide +kernel)
set_option maxRecDepth 20000 in
theorem gX10_tellWidow_X10_forWhom : GoodIn wsX10_tellWidow (wsV RX10 104 RX10 yX10_forWhom wsX10_forWhom) := goodIn_app (goodIn_of _ (by decide +kernel)) ggX10_tellWidow_X10_forWhom
set_option maxRecDepth 20000 in
theorem ggX10_tellWidow_X10_badOf : GoodIn wsX10_tellWidow wsX10_badOf := goodIn_r _ [11, 12, 34, 35, 36, 37, 38, 39, 40, 41, 42, 43, 44, 45, 46, 47, 48, 49, 50, 51, 52, 53, 54, 55, 56, 57, 58, 59] (by decide +kernel) (by decide +kernel)
set_option maxRecDepth 20000 in
theorem gX10_tellWidow_X10_badOf : GoodIn wsX10_tellWidow (wsV RX10 100 RX10 yX10_badOf wsX10_badOf) := goodIn_app (goodIn_of _ (by decide +kernel)) ggX10_tellWidow_X10_badOf
set_option maxRecDepth 20000 in
theorem ggX10_tellWidow_X10_mindsOf : GoodIn wsX10_tellWidow wsX10_mindsOf := goodIn_r _ [16, 17, 18, 19, 20, 21, 5, 22, 8, 9, 10, 11, 12, 34, 35, 36, 37, 38, 39, 40, 41, 42, 43, 44, 45, 46, 47, 48, 49, 50, 51, 52, 53, 54, 55, 56, 57, 58, 59] (by decide +kernel) (by decide +kernel)
set_option maxRecDepth 20000 in
theorem gX10_tellWidow_X10_mindsOf : GoodIn wsX10_tellWidow (wsV RX10 129 RX10 yX10_mindsOf wsX10_mindsOf) := goodIn_app (goodIn_of _ (by decide +kernel)) ggX10_tellWidow_X10_mindsOf
set_option maxRecDepth 20000 in
theorem ggX10_tellWidow_X10_askOf : GoodIn wsX10_tellWidow wsX10_askOf := goodIn_r _ [26, 13, 14, 15, 5, 16, 17, 18, 19, 20, 21, 22, 8, 9, 10, 11, 12, 27, 28, 29, 30, 7, 31, 32, 33, 34, 35, 36, 37, 38, 39, 40, 41, 42, 43, 44, 45, 46, 47, 48, 49, 50, 51, 52, 53, 54, 55, 56, 57, 58, 59] (by decide +kernel) (by decide +kernel)
set_option maxRecDepth 20000 in
theorem gX10_tellWidow_X10_askOf : GoodIn wsX10_tellWidow (wsV RX10 132 RX10 yX10_askOf wsX10_askOf) := goodIn_app (goodIn_of _ (by decide +kernel)) ggX10_tellWidow_X10_askOf
theorem dX10_tellWidow_0 : decode cX10_tellWidow 0 = .ok (.iload_n 2, 1) := by decide +kernel
theorem dX10_tellWidow_1 : decode cX10_tellWidow 1 = .ok (.tableswitch 76 0 4 #[35, 42, 48, 64, 70], 35) := by decide +kernel
theorem dX10_tellWidow_36 : decode cX10_tellWidow 36 = .ok (.aload_n 0, 1) := by decide +kernel
theorem dX10_tellWidow_37 : decode cX10_tellWidow 37 = .ok (.getfield 22, 3) := by decide +kernel
theorem dX10_tellWidow_40 : decode cX10_tellWidow 40 = .ok (.iload_n 1, 1) := by decide +kernel
theorem dX10_tellWidow_41 : decode cX10_tellWidow 41 = .ok (.iaload, 1) := by decide +kernel
theorem dX10_tellWidow_42 : decode cX10_tellWidow 42 = .ok (.ireturn, 1) := by decide +kernel
theorem dX10_tellWidow_43 : decode cX10_tellWidow 43 = .ok (.aload_n 0, 1) := by decide +kernel
theorem dX10_tellWidow_44 : decode cX10_tellWidow 44 = .ok (.iload_n 1, 1) := by decide +kernel
theorem dX10_tellWidow_45 : decode cX10_tellWidow 45 = .ok (.invokevirtual 104, 3) := by decide +kernel
theorem dX10_tellWidow_48 : decode cX10_tellWidow 48 = .ok (.ireturn, 1) := by decide +kernel
theorem dX10_tellWidow_49 : decode cX10_tellWidow 49 = .ok (.aload_n 0, 1) := by decide +kernel
theorem dX10_tellWidow_50 : decode cX10_tellWidow 50 = .ok (.aload_n 0, 1) := by decide +kernel
theorem dX10_tellWidow_51 : decode cX10_tellWidow 51 = .ok (.iload_n 1, 1) := by decide +kernel
theorem dX10_tellWidow_52 : decode cX10_tellWidow 52 = .ok (.invokevirtual 104, 3) := by decide +kernel
theorem dX10_tellWidow_55 : decode cX10_tellWidow 55 = .ok (.aload_n 0, 1) := by decide +kernel
theorem dX10_tellWidow_56 : decode cX10_tellWidow 56 = .ok (.getfield 22, 3) := by decide +kernel
theorem dX10_tellWidow_59 : decode cX10_tellWidow 59 = .ok (.iload_n 1, 1) := by decide +kernel
theorem dX10_tellWidow_60 : decode cX10_tellWidow 60 = .ok (.iaload, 1) := by decide +kernel
theorem dX10_tellWidow_61 : decode cX10_tellWidow 61 = .ok (.invokevirtual 100, 3) := by decide +kernel
theorem dX10_tellWidow_64 : decode cX10_tellWidow 64 = .ok (.ireturn, 1) := by decide +kernel
theorem dX10_tellWidow_65 : decode cX10_tellWidow 65 = .ok (.aload_n 0, 1) := by decide +kernel
theorem dX10_tellWidow_66 : decode cX10_tellWidow 66 = .ok (.iload_n 1, 1) := by decide +kernel
theorem dX10_tellWidow_67 : decode cX10_tellWidow 67 = .ok (.invokevirtual 129, 3) := by decide +kernel
theorem dX10_tellWidow_70 : decode cX10_tellWidow 70 = .ok (.ireturn, 1) := by decide +kernel
theorem dX10_tellWidow_71 : decode cX10_tellWidow 71 = .ok (.aload_n 0, 1) := by decide +kernel
theorem dX10_tellWidow_72 : decode cX10_tellWidow 72 = .ok (.iload_n 1, 1) := by decide +kernel
theorem dX10_tellWidow_73 : decode cX10_tellWidow 73 = .ok (.invokevirtual 132, 3) := by decide +kernel
theorem dX10_tellWidow_76 : decode cX10_tellWidow 76 = .ok (.ireturn, 1) := by decide +kernel
theorem dX10_tellWidow_77 : decode cX10_tellWidow 77 = .ok (.bipush (-102), 2) := by decide +kernel
theorem dX10_tellWidow_79 : decode cX10_tellWidow 79 = .ok (.ireturn, 1) := by decide +kernel
set_option maxRecDepth 20000 in
theorem ggX10_widow_X10_isWidow : GoodIn wsX10_widow wsX10_isWidow := goodIn_r _ [5, 6, 7, 8, 4, 9, 43, 44, 45, 46, 47, 48, 49, 50, 51, 52, 53, 54, 55, 56, 57, 58, 59, 60, 61, 62, 63, 64, 65, 66, 67, 68] (by decide +kernel) (by decide +kernel)
set_option maxRecDepth 20000 in
theorem gX10_widow_X10_isWidow : GoodIn wsX10_widow (wsV RX10 135 RX10 yX10_isWidow wsX10_isWidow) := goodIn_app (goodIn_of _ (by decide +kernel)) ggX10_widow_X10_isWidow
set_option maxRecDepth 20000 in
theorem ggX10_widow_X10_tellWidow : GoodIn wsX10_widow wsX10_tellWidow := goodIn_r _ [13, 14, 15, 16, 17, 4, 18, 19, 20, 21, 22, 23, 24, 25, 26, 27, 28, 29, 30, 31, 32, 33, 34, 35, 36, 37, 38, 39, 40, 41, 42, 7, 8, 9, 43, 44, 45, 46, 47, 48, 49, 50, 51, 52, 53, 54, 55, 56, 57, 58, 59, 60, 61, 62, 63, 64, 65, 66, 67, 68] (by decide +kernel) (by decide +kernel)
set_option maxRecDepth 20000 in
theorem gX10_widow_X10_tellWidow : GoodIn wsX10_widow (wsV RX10 138 RX10 yX10_tellWidow wsX10_tellWidow) := goodIn_app (goodIn_of _ (by decide +kernel)) ggX10_widow_X10_tellWidow
theorem dX10_widow_0 : decode cX10_widow 0 = .ok (.aload_n 0, 1) := by decide +kernel
theorem dX10_widow_1 : decode cX10_widow 1 = .ok (.iload_n 1, 1) := by decide +kernel
theorem dX10_widow_2 : decode cX10_widow 2 = .ok (.invokevirtual 135, 3) := by decide +kernel
theorem dX10_widow_5 : decode cX10_widow 5 = .ok (.ifCond .eq 12, 3) := by decide +kernel
theorem dX10_widow_8 : decode cX10_widow 8 = .ok (.aload_n 0, 1) := by decide +kernel
theorem dX10_widow_9 : decode cX10_widow 9 = .ok (.iload_n 1, 1) := by decide +kernel
theorem dX10_widow_10 : decode cX10_widow 10 = .ok (.iload_n 2, 1) := by decide +kernel
theorem dX10_widow_11 : decode cX10_widow 11 = .ok (.invokevirtual 138, 3) := by decide +kernel
theorem dX10_widow_14 : decode cX10_widow 14 = .ok (.goto 5, 3) := by decide +kernel
theorem dX10_widow_17 : decode cX10_widow 17 = .ok (.bipush (-101), 2) := by decide +kernel
theorem dX10_widow_19 : decode cX10_widow 19 = .ok (.ireturn, 1) := by decide +kernel
set_option maxRecDepth 20000 in
theorem ggX10_wince_X10_isWidow : GoodIn wsX10_wince wsX10_isWidow := goodIn_r _ [6, 7, 8, 9, 5, 10, 21, 22, 23, 24, 25, 26, 27, 28, 29, 30, 31, 32, 33, 34, 35, 36, 37, 38, 39, 40, 41, 42, 43, 44, 45, 46] (by decide +kernel) (by decide +kernel)
set_option maxRecDepth 20000 in
theorem gX10_wince_X10_isWidow : GoodIn wsX10_wince (wsV RX10 135 RX10 yX10_isWidow wsX10_isWidow) := goodIn_app (goodIn_of _ (by decide +kernel)) ggX10_wince_X10_isWidow
set_option maxRecDepth 20000 in
theorem ggX10_wince_X10_isSinger : GoodIn wsX10_wince wsX10_isSinger := goodIn_r _ [14, 15, 8, 9, 5, 10, 21, 22, 23, 24, 25, 26, 27, 28, 29, 30, 31, 32, 33, 34, 35, 36, 37, 38, 39, 40, 41, 42, 43, 44, 45, 46] (by decide +kernel) (by decide +kernel)
set_option maxRecDepth 20000 in
theorem gX10_wince_X10_isSinger : GoodIn wsX10_wince (wsV RX10 121 RX10 yX10_isSinger wsX10_isSinger) := goodIn_app (goodIn_of _ (by decide +kernel)) ggX10_wince_X10_isSinger
set_option maxRecDepth 20000 in
theorem ggX10_wince_X10_badOf : GoodIn wsX10_wince wsX10_badOf := goodIn_r _ [19, 20, 21, 22, 23, 24, 25, 26, 27, 28, 29, 30, 31, 32, 33, 34, 35, 36, 37, 38, 39, 40, 41, 42, 43, 44, 45, 46] (by decide +kernel) (by decide +kernel)
set_option maxRecDepth 20000 in
theorem gX10_wince_X10_badOf : GoodIn wsX10_wince (wsV RX10 100 RX10 yX10_badOf wsX10_badOf) := goodIn_app (goodIn_of _ (by decide +kernel)) ggX10_wince_X10_badOf
theorem dX10_wince_0 : decode cX10_wince 0 = .ok (.aload_n 0, 1) := by decide +kernel
theorem dX10_wince_1 : decode cX10_wince 1 = .ok (.iload_n 1, 1) := by decide +kernel
theorem dX10_wince_2 : decode cX10_wince 2 = .ok (.invokevirtual 135, 3) := by decide +kernel
theorem dX10_wince_5 : decode cX10_wince 5 = .ok (.ifCond .eq 25, 3) := by decide +kernel
theorem dX10_wince_8 : decode cX10_wince 8 = .ok (.aload_n 0, 1) := by decide +kernel
theorem dX10_wince_9 : decode cX10_wince 9 = .ok (.iload_n 2, 1) := by decide +kernel
theorem dX10_wince_10 : decode cX10_wince 10 = .ok (.invokevirtual 121, 3) := by decide +kernel
theorem dX10_wince_13 : decode cX10_wince 13 = .ok (.ifCond .eq 17, 3) := by decide +kernel
theorem dX10_wince_16 : decode cX10_wince 16 = .ok (.aload_n 0, 1) := by decide +kernel
theorem dX10_wince_17 : decode cX10_wince 17 = .ok (.iload_n 2, 1) := by decide +kernel
theorem dX10_wince_18 : decode cX10_wince 18 = .ok (.aload_n 0, 1) := by decide +kernel
theorem dX10_wince_19 : decode cX10_wince 19 = .ok (.getfield 22, 3) := by decide +kernel
theorem dX10_wince_22 : decode cX10_wince 22 = .ok (.iload_n 1, 1) := by decide +kernel
theorem dX10_wince_23 : decode cX10_wince 23 = .ok (.iaload, 1) := by decide +kernel
theorem dX10_wince_24 : decode cX10_wince 24 = .ok (.invokevirtual 100, 3) := by decide +kernel
theorem dX10_wince_27 : decode cX10_wince 27 = .ok (.goto 5, 3) := by decide +kernel
theorem dX10_wince_30 : decode cX10_wince 30 = .ok (.bipush (-101), 2) := by decide +kernel
theorem dX10_wince_32 : decode cX10_wince 32 = .ok (.ireturn, 1) := by decide +kernel
set_option maxRecDepth 20000 in
theorem ggX10_cold_X10_isSinger : GoodIn wsX10_cold wsX10_isSinger := goodIn_r _ [6, 7, 8, 9, 5, 10, 11, 12, 13, 14, 15, 16, 17, 18, 19, 20, 21, 22, 23, 24, 25, 26, 27, 28, 29, 30, 31, 32, 33, 34, 35, 36] (by decide +kernel) (by decide +kernel)
set_option maxRecDepth 20000 in
theorem gX10_cold_X10_isSinger : GoodIn wsX10_cold (wsV RX10 121 RX10 yX10_isSinger wsX10_isSinger) := goodIn_app (goodIn_of _ (by decide +kernel)) ggX10_cold_X10_isSinger
theorem dX10_cold_0 : decode cX10_cold 0 = .ok (.aload_n 0, 1) := by decide +kernel
theorem dX10_cold_1 : decode cX10_cold 1 = .ok (.iload_n 1, 1) := by decide +kernel
theorem dX10_cold_2 : decode cX10_cold 2 = .ok (.invokevirtual 121, 3) := by decide +kernel
theorem dX10_cold_5 : decode cX10_cold 5 = .ok (.ifCond .ne 6, 3) := by decide +kernel
theorem dX10_cold_8 : decode cX10_cold 8 = .ok (.bipush (-101), 2) := by decide +kernel
theorem dX10_cold_10 : decode cX10_cold 10 = .ok (.ireturn, 1) := by decide +kernel
theorem dX10_cold_11 : decode cX10_cold 11 = .ok (.aload_n 0, 1) := by decide +kernel
theorem dX10_cold_12 : decode cX10_cold 12 = .ok (.getfield 19, 3) := by decide +kernel
theorem dX10_cold_15 : decode cX10_cold 15 = .ok (.bipush 8, 2) := by decide +kernel
theorem dX10_cold_17 : decode cX10_cold 17 = .ok (.iload_n 1, 1) := by decide +kernel
theorem dX10_cold_18 : decode cX10_cold 18 = .ok (.imul, 1) := by decide +kernel
theorem dX10_cold_19 : decode cX10_cold 19 = .ok (.iconst 5, 1) := by decide +kernel
theorem dX10_cold_20 : decode cX10_cold 20 = .ok (.iadd, 1) := by decide +kernel
theorem dX10_cold_21 : decode cX10_cold 21 = .ok (.iaload, 1) := by decide +kernel
theorem dX10_cold_22 : decode cX10_cold 22 = .ok (.istore_n 3, 1) := by decide +kernel
theorem dX10_cold_23 : decode cX10_cold 23 = .ok (.aload_n 0, 1) := by decide +kernel
theorem dX10_cold_24 : decode cX10_cold 24 = .ok (.getfield 19, 3) := by decide +kernel
theorem dX10_cold_27 : decode cX10_cold 27 = .ok (.bipush 8, 2) := by decide +kernel
theorem dX10_cold_29 : decode cX10_cold 29 = .ok (.iload_n 1, 1) := by decide +kernel
theorem dX10_cold_30 : decode cX10_cold 30 = .ok (.imul, 1) := by decide +kernel
theorem dX10_cold_31 : decode cX10_cold 31 = .ok (.iconst 5, 1) := by decide +kernel
theorem dX10_cold_32 : decode cX10_cold 32 = .ok (.iadd, 1) := by decide +kernel
theorem dX10_cold_33 : decode cX10_cold 33 = .ok (.iload_n 2, 1) := by decide +kernel
theorem dX10_cold_34 : decode cX10_cold 34 = .ok (.ifCond .eq 7, 3) := by decide +kernel
theorem dX10_cold_37 : decode cX10_cold 37 = .ok (.iconst 1, 1) := by decide +kernel
theorem dX10_cold_38 : decode cX10_cold 38 = .ok (.goto 4, 3) := by decide +kernel
theorem dX10_cold_41 : decode cX10_cold 41 = .ok (.iconst 0, 1) := by decide +kernel
theorem dX10_cold_42 : decode cX10_cold 42 = .ok (.iastore, 1) := by decide +kernel
theorem dX10_cold_43 : decode cX10_cold 43 = .ok (.iload_n 3, 1) := by decide +kernel
theorem dX10_cold_44 : decode cX10_cold 44 = .ok (.ireturn, 1) := by decide +kernel
set_option maxRecDepth 20000 in
theorem ggX10_aisle_X10_isSinger : GoodIn wsX10_aisle wsX10_isSinger := goodIn_r _ [6, 7, 8, 9, 5, 10, 11, 12, 13, 14, 15, 16, 17, 18, 19, 20, 21, 22, 23, 24, 25, 26, 27, 28, 29, 30, 31, 32, 33, 34, 35, 36] (by decide +kernel) (by decide +kernel)
set_option maxRecDepth 20000 in
theorem gX10_aisle_X10_isSinger : GoodIn wsX10_aisle (wsV RX10 121 RX10 yX10_isSinger wsX10_isSinger) := goodIn_app (goodIn_of _ (by decide +kernel)) ggX10_aisle_X10_isSinger
theorem dX10_aisle_0 : decode cX10_aisle 0 = .ok (.aload_n 0, 1) := by decide +kernel
theorem dX10_aisle_1 : decode cX10_aisle 1 = .ok (.iload_n 1, 1) := by decide +kernel
theorem dX10_aisle_2 : decode cX10_aisle 2 = .ok (.invokevirtual 121, 3) := by decide +kernel
theorem dX10_aisle_5 : decode cX10_aisle 5 = .ok (.ifCond .ne 6, 3) := by decide +kernel
theorem dX10_aisle_8 : decode cX10_aisle 8 = .ok (.bipush (-101), 2) := by decide +kernel
theorem dX10_aisle_10 : decode cX10_aisle 10 = .ok (.ireturn, 1) := by decide +kernel
theorem dX10_aisle_11 : decode cX10_aisle 11 = .ok (.aload_n 0, 1) := by decide +kernel
theorem dX10_aisle_12 : decode cX10_aisle 12 = .ok (.getfield 19, 3) := by decide +kernel
theorem dX10_aisle_15 : decode cX10_aisle 15 = .ok (.bipush 8, 2) := by decide +kernel
theorem dX10_aisle_17 : decode cX10_aisle 17 = .ok (.iload_n 1, 1) := by decide +kernel
theorem dX10_aisle_18 : decode cX10_aisle 18 = .ok (.imul, 1) := by decide +kernel
theorem dX10_aisle_19 : decode cX10_aisle 19 = .ok (.bipush 6, 2) := by decide +kernel
theorem dX10_aisle_21 : decode cX10_aisle 21 = .ok (.iadd, 1) := by decide +kernel
theorem dX10_aisle_22 : decode cX10_aisle 22 = .ok (.iaload, 1) := by decide +kernel
theorem dX10_aisle_23 : decode cX10_aisle 23 = .ok (.istore_n 3, 1) := by decide +kernel
theorem dX10_aisle_24 : decode cX10_aisle 24 = .ok (.aload_n 0, 1) := by decide +kernel
theorem dX10_aisle_25 : decode cX10_aisle 25 = .ok (.getfield 19, 3) := by decide +kernel
theorem dX10_aisle_28 : decode cX10_aisle 28 = .ok (.bipush 8, 2) := by decide +kernel
theorem dX10_aisle_30 : decode cX10_aisle 30 = .ok (.iload_n 1, 1) := by decide +kernel
theorem dX10_aisle_31 : decode cX10_aisle 31 = .ok (.imul, 1) := by decide +kernel
theorem dX10_aisle_32 : decode cX10_aisle 32 = .ok (.bipush 6, 2) := by decide +kernel
theorem dX10_aisle_34 : decode cX10_aisle 34 = .ok (.iadd, 1) := by decide +kernel
theorem dX10_aisle_35 : decode cX10_aisle 35 = .ok (.iload_n 2, 1) := by decide +kernel
theorem dX10_aisle_36 : decode cX10_aisle 36 = .ok (.ifCond .eq 7, 3) := by decide +kernel
theorem dX10_aisle_39 : decode cX10_aisle 39 = .ok (.iconst 1, 1) := by decide +kernel
theorem dX10_aisle_40 : decode cX10_aisle 40 = .ok (.goto 4, 3) := by decide +kernel
theorem dX10_aisle_43 : decode cX10_aisle 43 = .ok (.iconst 0, 1) := by decide +kernel
theorem dX10_aisle_44 : decode cX10_aisle 44 = .ok (.iastore, 1) := by decide +kernel
theorem dX10_aisle_45 : decode cX10_aisle 45 = .ok (.iload_n 3, 1) := by decide +kernel
theorem dX10_aisle_46 : decode cX10_aisle 46 = .ok (.ireturn, 1) := by decide +kernel
set_option maxRecDepth 20000 in
theorem ggX10_honey_X10_isSinger : GoodIn wsX10_honey wsX10_isSinger := goodIn_r _ [7, 8, 9, 10, 6, 11, 12, 13, 14, 15, 16, 17, 18, 19, 20, 21, 22, 23, 24, 25, 26, 27, 28, 29, 30, 31, 32, 33, 34, 35, 36, 37] (by decide +kernel) (by decide +kernel)
set_option maxRecDepth 20000 in
theorem gX10_honey_X10_isSinger : GoodIn wsX10_honey (wsV RX10 121 RX10 yX10_isSinger wsX10_isSinger) := goodIn_app (goodIn_of _ (by decide +kernel)) ggX10_honey_X10_isSinger
set_option maxRecDepth 20000 in
theorem ggX10_honey_X10_in : GoodIn wsX10_honey wsX10_in := goodIn_r _ [11] (by decide +kernel) (by decide +kernel)
set_option maxRecDepth 20000 in
theorem gX10_honey_X10_in : GoodIn wsX10_honey (va_wsS RX10 49 yX10_in wsX10_in) := goodIn_app (goodIn_of _ (by decide +kernel)) ggX10_honey_X10_in
theorem dX10_honey_0 : decode cX10_honey 0 = .ok (.aload_n 0, 1) := by decide +kernel
theorem dX10_honey_1 : decode cX10_honey 1 = .ok (.iload_n 1, 1) := by decide +kernel
theorem dX10_honey_2 : decode cX10_honey 2 = .ok (.invokevirtual 121, 3) := by decide +kernel
theorem dX10_honey_5 : decode cX10_honey 5 = .ok (.ifCond .ne 6, 3) := by decide +kernel
theorem dX10_honey_8 : decode cX10_honey 8 = .ok (.bipush (-101), 2) := by decide +kernel
theorem dX10_honey_10 : decode cX10_honey 10 = .ok (.ireturn, 1) := by decide +kernel
theorem dX10_honey_11 : decode cX10_honey 11 = .ok (.iload_n 2, 1) := by decide +kernel
theorem dX10_honey_12 : decode cX10_honey 12 = .ok (.i2l, 1) := by decide +kernel
theorem dX10_honey_13 : decode cX10_honey 13 = .ok (.lconst 0, 1) := by decide +kernel
theorem dX10_honey_14 : decode cX10_honey 14 = .ok (.ldc2_w 66, 3) := by decide +kernel
theorem dX10_honey_17 : decode cX10_honey 17 = .ok (.invokestatic 49, 3) := by decide +kernel
theorem dX10_honey_20 : decode cX10_honey 20 = .ok (.ifCond .ne 6, 3) := by decide +kernel
theorem dX10_honey_23 : decode cX10_honey 23 = .ok (.bipush (-102), 2) := by decide +kernel
theorem dX10_honey_25 : decode cX10_honey 25 = .ok (.ireturn, 1) := by decide +kernel
theorem dX10_honey_26 : decode cX10_honey 26 = .ok (.aload_n 0, 1) := by decide +kernel
theorem dX10_honey_27 : decode cX10_honey 27 = .ok (.getfield 19, 3) := by decide +kernel
theorem dX10_honey_30 : decode cX10_honey 30 = .ok (.bipush 8, 2) := by decide +kernel
theorem dX10_honey_32 : decode cX10_honey 32 = .ok (.iload_n 1, 1) := by decide +kernel
theorem dX10_honey_33 : decode cX10_honey 33 = .ok (.imul, 1) := by decide +kernel
theorem dX10_honey_34 : decode cX10_honey 34 = .ok (.bipush 7, 2) := by decide +kernel
theorem dX10_honey_36 : decode cX10_honey 36 = .ok (.iadd, 1) := by decide +kernel
theorem dX10_honey_37 : decode cX10_honey 37 = .ok (.iaload, 1) := by decide +kernel
theorem dX10_honey_38 : decode cX10_honey 38 = .ok (.istore_n 3, 1) := by decide +kernel
theorem dX10_honey_39 : decode cX10_honey 39 = .ok (.aload_n 0, 1) := by decide +kernel
theorem dX10_honey_40 : decode cX10_honey 40 = .ok (.getfield 19, 3) := by decide +kernel
theorem dX10_honey_43 : decode cX10_honey 43 = .ok (.bipush 8, 2) := by decide +kernel
theorem dX10_honey_45 : decode cX10_honey 45 = .ok (.iload_n 1, 1) := by decide +kernel
theorem dX10_honey_46 : decode cX10_honey 46 = .ok (.imul, 1) := by decide +kernel
theorem dX10_honey_47 : decode cX10_honey 47 = .ok (.bipush 7, 2) := by decide +kernel
theorem dX10_honey_49 : decode cX10_honey 49 = .ok (.iadd, 1) := by decide +kernel
theorem dX10_honey_50 : decode cX10_honey 50 = .ok (.iload_n 2, 1) := by decide +kernel
theorem dX10_honey_51 : decode cX10_honey 51 = .ok (.iastore, 1) := by decide +kernel
theorem dX10_honey_52 : decode cX10_honey 52 = .ok (.iload_n 3, 1) := by decide +kernel
theorem dX10_honey_53 : decode cX10_honey 53 = .ok (.ireturn, 1) := by decide +kernel
theorem dX10_weekOf_0 : decode cX10_weekOf 0 = .ok (.iconst 0, 1) := by decide +kernel
theorem dX10_weekOf_1 : decode cX10_weekOf 1 = .ok (.istore_n 2, 1) := by decide +kernel
theorem dX10_weekOf_2 : decode cX10_weekOf 2 = .ok (.iconst 0, 1) := by decide +kernel
theorem dX10_weekOf_3 : decode cX10_weekOf 3 = .ok (.istore_n 3, 1) := by decide +kernel
theorem dX10_weekOf_4 : decode cX10_weekOf 4 = .ok (.iload_n 3, 1) := by decide +kernel
theorem dX10_weekOf_5 : decode cX10_weekOf 5 = .ok (.iconst 4, 1) := by decide +kernel
theorem dX10_weekOf_6 : decode cX10_weekOf 6 = .ok (.if_icmp .ge 102, 3) := by decide +kernel
theorem dX10_weekOf_9 : decode cX10_weekOf 9 = .ok (.aload_n 0, 1) := by decide +kernel
theorem dX10_weekOf_10 : decode cX10_weekOf 10 = .ok (.getfield 19, 3) := by decide +kernel
theorem dX10_weekOf_13 : decode cX10_weekOf 13 = .ok (.bipush 8, 2) := by decide +kernel
theorem dX10_weekOf_15 : decode cX10_weekOf 15 = .ok (.iload_n 1, 1) := by decide +kernel
theorem dX10_weekOf_16 : decode cX10_weekOf 16 = .ok (.imul, 1) := by decide +kernel
theorem dX10_weekOf_17 : decode cX10_weekOf 17 = .ok (.iconst 1, 1) := by decide +kernel
theorem dX10_weekOf_18 : decode cX10_weekOf 18 = .ok (.iadd, 1) := by decide +kernel
theorem dX10_weekOf_19 : decode cX10_weekOf 19 = .ok (.iload_n 3, 1) := by decide +kernel
theorem dX10_weekOf_20 : decode cX10_weekOf 20 = .ok (.iadd, 1) := by decide +kernel
theorem dX10_weekOf_21 : decode cX10_weekOf 21 = .ok (.iaload, 1) := by decide +kernel
theorem dX10_weekOf_22 : decode cX10_weekOf 22 = .ok (.istore 4, 2) := by decide +kernel
theorem dX10_weekOf_24 : decode cX10_weekOf 24 = .ok (.aload_n 0, 1) := by decide +kernel
theorem dX10_weekOf_25 : decode cX10_weekOf 25 = .ok (.getfield 19, 3) := by decide +kernel
theorem dX10_weekOf_28 : decode cX10_weekOf 28 = .ok (.bipush 8, 2) := by decide +kernel
theorem dX10_weekOf_30 : decode cX10_weekOf 30 = .ok (.iload_n 1, 1) := by decide +kernel
theorem dX10_weekOf_31 : decode cX10_weekOf 31 = .ok (.imul, 1) := by decide +kernel
theorem dX10_weekOf_32 : decode cX10_weekOf 32 = .ok (.iaload, 1) := by decide +kernel
theorem dX10_weekOf_33 : decode cX10_weekOf 33 = .ok (.iconst 2, 1) := by decide +kernel
theorem dX10_weekOf_34 : decode cX10_weekOf 34 = .ok (.if_icmp .ne 10, 3) := by decide +kernel
theorem dX10_weekOf_37 : decode cX10_weekOf 37 = .ok (.iload 4, 2) := by decide +kernel
theorem dX10_weekOf_39 : decode cX10_weekOf 39 = .ok (.iconst 1, 1) := by decide +kernel
theorem dX10_weekOf_40 : decode cX10_weekOf 40 = .ok (.iadd, 1) := by decide +kernel
theorem dX10_weekOf_41 : decode cX10_weekOf 41 = .ok (.goto 7, 3) := by decide +kernel
theorem dX10_weekOf_44 : decode cX10_weekOf 44 = .ok (.iload 4, 2) := by decide +kernel
theorem dX10_weekOf_46 : decode cX10_weekOf 46 = .ok (.iconst 1, 1) := by decide +kernel
theorem dX10_weekOf_47 : decode cX10_weekOf 47 = .ok (.isub, 1) := by decide +kernel
theorem dX10_weekOf_48 : decode cX10_weekOf 48 = .ok (.istore 5, 2) := by decide +kernel
theorem dX10_weekOf_50 : decode cX10_weekOf 50 = .ok (.aload_n 0, 1) := by decide +kernel
theorem dX10_weekOf_51 : decode cX10_weekOf 51 = .ok (.getfield 19, 3) := by decide +kernel
theorem dX10_weekOf_54 : decode cX10_weekOf 54 = .ok (.bipush 8, 2) := by decide +kernel
theorem dX10_weekOf_56 : decode cX10_weekOf 56 = .ok (.iload_n 1, 1) := by decide +kernel
theorem dX10_weekOf_57 : decode cX10_weekOf 57 = .ok (.imul, 1) := by decide +kernel
theorem dX10_weekOf_58 : decode cX10_weekOf 58 = .ok (.iconst 1, 1) := by decide +kernel
theorem dX10_weekOf_59 : decode cX10_weekOf 59 = .ok (.iadd, 1) := by decide +kernel
theorem dX10_weekOf_60 : decode cX10_weekOf 60 = .ok (.iload_n 3, 1) := by decide +kernel
theorem dX10_weekOf_61 : decode cX10_weekOf 61 = .ok (.iadd, 1) := by decide +kernel
theorem dX10_weekOf_62 : decode cX10_weekOf 62 = .ok (.iload 5, 2) := by decide +kernel
theorem dX10_weekOf_64 : decode cX10_weekOf 64 = .ok (.ifCond .ge 7, 3) := by decide +kernel
theorem dX10_weekOf_67 : decode cX10_weekOf 67 = .ok (.iconst 0, 1) := by decide +kernel
theorem dX10_weekOf_68 : decode cX10_weekOf 68 = .ok (.goto 17, 3) := by decide +kernel
theorem dX10_weekOf_71 : decode cX10_weekOf 71 = .ok (.iload 5, 2) := by decide +kernel
theorem dX10_weekOf_73 : decode cX10_weekOf 73 = .ok (.bipush 9, 2) := by decide +kernel
theorem dX10_weekOf_75 : decode cX10_weekOf 75 = .ok (.if_icmp .le 8, 3) := by decide +kernel
theorem dX10_weekOf_78 : decode cX10_weekOf 78 = .ok (.bipush 9, 2) := by decide +kernel
theorem dX10_weekOf_80 : decode cX10_weekOf 80 = .ok (.goto 5, 3) := by decide +kernel
theorem dX10_weekOf_83 : decode cX10_weekOf 83 = .ok (.iload 5, 2) := by decide +kernel
theorem dX10_weekOf_85 : decode cX10_weekOf 85 = .ok (.iastore, 1) := by decide +kernel
theorem dX10_weekOf_86 : decode cX10_weekOf 86 = .ok (.iload_n 2, 1) := by decide +kernel
theorem dX10_weekOf_87 : decode cX10_weekOf 87 = .ok (.aload_n 0, 1) := by decide +kernel
theorem dX10_weekOf_88 : decode cX10_weekOf 88 = .ok (.getfield 19, 3) := by decide +kernel
theorem dX10_weekOf_91 : decode cX10_weekOf 91 = .ok (.bipush 8, 2) := by decide +kernel
theorem dX10_weekOf_93 : decode cX10_weekOf 93 = .ok (.iload_n 1, 1) := by decide +kernel
theorem dX10_weekOf_94 : decode cX10_weekOf 94 = .ok (.imul, 1) := by decide +kernel
theorem dX10_weekOf_95 : decode cX10_weekOf 95 = .ok (.iconst 1, 1) := by decide +kernel
theorem dX10_weekOf_96 : decode cX10_weekOf 96 = .ok (.iadd, 1) := by decide +kernel
theorem dX10_weekOf_97 : decode cX10_weekOf 97 = .ok (.iload_n 3, 1) := by decide +kernel
theorem dX10_weekOf_98 : decode cX10_weekOf 98 = .ok (.iadd, 1) := by decide +kernel
theorem dX10_weekOf_99 : decode cX10_weekOf 99 = .ok (.iaload, 1) := by decide +kernel
theorem dX10_weekOf_100 : decode cX10_weekOf 100 = .ok (.iadd, 1) := by decide +kernel
theorem dX10_weekOf_101 : decode cX10_weekOf 101 = .ok (.istore_n 2, 1) := by decide +kernel
theorem dX10_weekOf_102 : decode cX10_weekOf 102 = .ok (.iinc 3 1, 3) := by decide +kernel
theorem dX10_weekOf_105 : decode cX10_weekOf 105 = .ok (.goto (-101), 3) := by decide +kernel
theorem dX10_weekOf_108 : decode cX10_weekOf 108 = .ok (.iload_n 2, 1) := by decide +kernel
theorem dX10_weekOf_109 : decode cX10_weekOf 109 = .ok (.ireturn, 1) := by decide +kernel
set_option maxRecDepth 20000 in
theorem ggX10_practise_X10_isSinger : GoodIn wsX10_practise wsX10_isSinger := goodIn_r _ [6, 7, 8, 9, 5, 10, 16, 17, 18, 19, 20, 21, 22, 23, 24, 25, 26, 27, 28, 29, 30, 31, 32, 33, 34, 35, 36, 37, 38, 39, 40, 41] (by decide +kernel) (by decide +kernel)
set_option maxRecDepth 20000 in
theorem gX10_practise_X10_isSinger : GoodIn wsX10_practise (wsV RX10 121 RX10 yX10_isSinger wsX10_isSinger) := goodIn_app (goodIn_of _ (by decide +kernel)) ggX10_practise_X10_isSinger
set_option maxRecDepth 20000 in
theorem ggX10_practise_X10_weekOf : GoodIn wsX10_practise wsX10_weekOf := goodIn_r _ [14, 15, 16, 17, 18, 19, 20, 21, 22, 23, 24, 25, 26, 27, 28, 29, 30, 31, 32, 33, 34, 35, 36, 37, 38, 39, 40, 41] (by decide +kernel) (by decide +kernel)
set_option maxRecDepth 20000 in
theorem gX10_practise_X10_weekOf : GoodIn wsX10_practise (wsV RX10 141 RX10 yX10_weekOf wsX10_weekOf) := goodIn_app (goodIn_of _ (by decide +kernel)) ggX10_practise_X10_weekOf
theorem dX10_practise_0 : decode cX10_practise 0 = .ok (.aload_n 0, 1) := by decide +kernel
theorem dX10_practise_1 : decode cX10_practise 1 = .ok (.iload_n 1, 1) := by decide +kernel
theorem dX10_practise_2 : decode cX10_practise 2 = .ok (.invokevirtual 121, 3) := by decide +kernel
theorem dX10_practise_5 : decode cX10_practise 5 = .ok (.ifCond .ne 6, 3) := by decide +kernel
theorem dX10_practise_8 : decode cX10_practise 8 = .ok (.bipush (-101), 2) := by decide +kernel
theorem dX10_practise_10 : decode cX10_practise 10 = .ok (.ireturn, 1) := by decide +kernel
theorem dX10_practise_11 : decode cX10_practise 11 = .ok (.aload_n 0, 1) := by decide +kernel
theorem dX10_practise_12 : decode cX10_practise 12 = .ok (.dup, 1) := by decide +kernel
theorem dX10_practise_13 : decode cX10_practise 13 = .ok (.getfield 91, 3) := by decide +kernel
theorem dX10_practise_16 : decode cX10_practise 16 = .ok (.iconst 1, 1) := by decide +kernel
theorem dX10_practise_17 : decode cX10_practise 17 = .ok (.iadd, 1) := by decide +kernel
theorem dX10_practise_18 : decode cX10_practise 18 = .ok (.putfield 91, 3) := by decide +kernel
theorem dX10_practise_21 : decode cX10_practise 21 = .ok (.aload_n 0, 1) := by decide +kernel
theorem dX10_practise_22 : decode cX10_practise 22 = .ok (.iload_n 1, 1) := by decide +kernel
theorem dX10_practise_23 : decode cX10_practise 23 = .ok (.invokevirtual 141, 3) := by decide +kernel
theorem dX10_practise_26 : decode cX10_practise 26 = .ok (.ireturn, 1) := by decide +kernel
set_option maxRecDepth 20000 in
theorem ggX10_mayor_X10_mayorOf : GoodIn wsX10_mayor wsX10_mayorOf := goodIn_r _ [6, 1, 7, 8, 9, 5, 10, 11, 12, 13, 14, 15, 16, 17, 18, 19, 20, 21, 22, 23, 24, 25, 26, 27, 28, 29, 30, 31, 32, 33, 34, 35, 36, 37, 38, 39, 40, 41, 42, 43, 44, 45, 46, 47] (by decide +kernel) (by decide +kernel)
set_option maxRecDepth 20000 in
theorem gX10_mayor_X10_mayorOf : GoodIn wsX10_mayor (wsV RX10 144 RX10 yX10_mayorOf wsX10_mayorOf) := goodIn_app (goodIn_of _ (by decide +kernel)) ggX10_mayor_X10_mayorOf
theorem dX10_mayor_0 : decode cX10_mayor 0 = .ok (.aload_n 0, 1) := by decide +kernel
theorem dX10_mayor_1 : decode cX10_mayor 1 = .ok (.getfield 81, 3) := by decide +kernel
theorem dX10_mayor_4 : decode cX10_mayor 4 = .ok (.ifCond .ne 8, 3) := by decide +kernel
theorem dX10_mayor_7 : decode cX10_mayor 7 = .ok (.bipush (-103), 2) := by decide +kernel
theorem dX10_mayor_9 : decode cX10_mayor 9 = .ok (.goto 7, 3) := by decide +kernel
theorem dX10_mayor_12 : decode cX10_mayor 12 = .ok (.aload_n 0, 1) := by decide +kernel
theorem dX10_mayor_13 : decode cX10_mayor 13 = .ok (.invokevirtual 144, 3) := by decide +kernel
theorem dX10_mayor_16 : decode cX10_mayor 16 = .ok (.ireturn, 1) := by decide +kernel
theorem dX10_layMore_0 : decode cX10_layMore 0 = .ok (.iload_n 2, 1) := by decide +kernel
theorem dX10_layMore_1 : decode cX10_layMore 1 = .ok (.istore_n 3, 1) := by decide +kernel
theorem dX10_layMore_2 : decode cX10_layMore 2 = .ok (.iconst 1, 1) := by decide +kernel
theorem dX10_layMore_3 : decode cX10_layMore 3 = .ok (.istore 4, 2) := by decide +kernel
theorem dX10_layMore_5 : decode cX10_layMore 5 = .ok (.aload_n 0, 1) := by decide +kernel
theorem dX10_layMore_6 : decode cX10_layMore 6 = .ok (.getfield 81, 3) := by decide +kernel
theorem dX10_layMore_9 : decode cX10_layMore 9 = .ok (.iconst 1, 1) := by decide +kernel
theorem dX10_layMore_10 : decode cX10_layMore 10 = .ok (.isub, 1) := by decide +kernel
theorem dX10_layMore_11 : decode cX10_layMore 11 = .ok (.istore 5, 2) := by decide +kernel
theorem dX10_layMore_13 : decode cX10_layMore 13 = .ok (.iload 5, 2) := by decide +kernel
theorem dX10_layMore_15 : decode cX10_layMore 15 = .ok (.ifCond .lt 83, 3) := by decide +kernel
theorem dX10_layMore_18 : decode cX10_layMore 18 = .ok (.aload_n 0, 1) := by decide +kernel
theorem dX10_layMore_19 : decode cX10_layMore 19 = .ok (.getfield 25, 3) := by decide +kernel
theorem dX10_layMore_22 : decode cX10_layMore 22 = .ok (.iload 5, 2) := by decide +kernel
theorem dX10_layMore_24 : decode cX10_layMore 24 = .ok (.iload 5, 2) := by decide +kernel
theorem dX10_layMore_26 : decode cX10_layMore 26 = .ok (.iload_n 1, 1) := by decide +kernel
theorem dX10_layMore_27 : decode cX10_layMore 27 = .ok (.if_icmp .ne 7, 3) := by decide +kernel
theorem dX10_layMore_30 : decode cX10_layMore 30 = .ok (.iconst 0, 1) := by decide +kernel
theorem dX10_layMore_31 : decode cX10_layMore 31 = .ok (.goto 7, 3) := by decide +kernel
theorem dX10_layMore_34 : decode cX10_layMore 34 = .ok (.iload_n 3, 1) := by decide +kernel
theorem dX10_layMore_35 : decode cX10_layMore 35 = .ok (.bipush 10, 2) := by decide +kernel
theorem dX10_layMore_37 : decode cX10_layMore 37 = .ok (.irem, 1) := by decide +kernel
theorem dX10_layMore_38 : decode cX10_layMore 38 = .ok (.iastore, 1) := by decide +kernel
theorem dX10_layMore_39 : decode cX10_layMore 39 = .ok (.iload 5, 2) := by decide +kernel
theorem dX10_layMore_41 : decode cX10_layMore 41 = .ok (.iload_n 1, 1) := by decide +kernel
theorem dX10_layMore_42 : decode cX10_layMore 42 = .ok (.if_icmp .ne 7, 3) := by decide +kernel
theorem dX10_layMore_45 : decode cX10_layMore 45 = .ok (.iload_n 3, 1) := by decide +kernel
theorem dX10_layMore_46 : decode cX10_layMore 46 = .ok (.goto 7, 3) := by decide +kernel
theorem dX10_layMore_49 : decode cX10_layMore 49 = .ok (.iload_n 3, 1) := by decide +kernel
theorem dX10_layMore_50 : decode cX10_layMore 50 = .ok (.bipush 10, 2) := by decide +kernel
theorem dX10_layMore_52 : decode cX10_layMore 52 = .ok (.idiv, 1) := by decide +kernel
theorem dX10_layMore_53 : decode cX10_layMore 53 = .ok (.istore_n 3, 1) := by decide +kernel
theorem dX10_layMore_54 : decode cX10_layMore 54 = .ok (.iload 4, 2) := by decide +kernel
theorem dX10_layMore_56 : decode cX10_layMore 56 = .ok (.ifCond .eq 33, 3) := by decide +kernel
theorem dX10_layMore_59 : decode cX10_layMore 59 = .ok (.aload_n 0, 1) := by decide +kernel
theorem dX10_layMore_60 : decode cX10_layMore 60 = .ok (.getfield 19, 3) := by decide +kernel
theorem dX10_layMore_63 : decode cX10_layMore 63 = .ok (.bipush 8, 2) := by decide +kernel
theorem dX10_layMore_65 : decode cX10_layMore 65 = .ok (.iload 5, 2) := by decide +kernel
theorem dX10_layMore_67 : decode cX10_layMore 67 = .ok (.imul, 1) := by decide +kernel
theorem dX10_layMore_68 : decode cX10_layMore 68 = .ok (.bipush 7, 2) := by decide +kernel
theorem dX10_layMore_70 : decode cX10_layMore 70 = .ok (.iadd, 1) := by decide +kernel
theorem dX10_layMore_71 : decode cX10_layMore 71 = .ok (.iaload, 1) := by decide +kernel
theorem dX10_layMore_72 : decode cX10_layMore 72 = .ok (.aload_n 0, 1) := by decide +kernel
theorem dX10_layMore_73 : decode cX10_layMore 73 = .ok (.getfield 25, 3) := by decide +kernel
theorem dX10_layMore_76 : decode cX10_layMore 76 = .ok (.iload 5, 2) := by decide +kernel
theorem dX10_layMore_78 : decode cX10_layMore 78 = .ok (.iaload, 1) := by decide +kernel
theorem dX10_layMore_79 : decode cX10_layMore 79 = .ok (.iadd, 1) := by decide +kernel
theorem dX10_layMore_80 : decode cX10_layMore 80 = .ok (.bipush 10, 2) := by decide +kernel
theorem dX10_layMore_82 : decode cX10_layMore 82 = .ok (.if_icmp .ge 7, 3) := by decide +kernel
theorem dX10_layMore_85 : decode cX10_layMore 85 = .ok (.iconst 1, 1) := by decide +kernel
theorem dX10_layMore_86 : decode cX10_layMore 86 = .ok (.goto 4, 3) := by decide +kernel
theorem dX10_layMore_89 : decode cX10_layMore 89 = .ok (.iconst 0, 1) := by decide +kernel
theorem dX10_layMore_90 : decode cX10_layMore 90 = .ok (.istore 4, 2) := by decide +kernel
theorem dX10_layMore_92 : decode cX10_layMore 92 = .ok (.iinc 5 (-1), 3) := by decide +kernel
theorem dX10_layMore_95 : decode cX10_layMore 95 = .ok (.goto (-82), 3) := by decide +kernel
theorem dX10_layMore_98 : decode cX10_layMore 98 = .ok (.iload 4, 2) := by decide +kernel
theorem dX10_layMore_100 : decode cX10_layMore 100 = .ok (.ireturn, 1) := by decide +kernel
set_option maxRecDepth 20000 in
theorem ggX10_layNeed_X10_layMore : GoodIn wsX10_layNeed wsX10_layMore := goodIn_r _ [9, 1, 2, 3, 31, 32, 33, 34, 35, 36, 37, 38, 39, 40, 41, 42, 43, 44, 45, 46, 47, 48, 49, 50, 51, 52, 53, 54, 55, 56] (by decide +kernel) (by decide +kernel)
set_option maxRecDepth 20000 in
theorem gX10_layNeed_X10_layMore : GoodIn wsX10_layNeed (wsV RX10 147 RX10 yX10_layMore wsX10_layMore) := goodIn_app (goodIn_of _ (by decide +kernel)) ggX10_layNeed_X10_layMore
set_option maxRecDepth 20000 in
theorem ggX10_layNeed_X10_mayorOf : GoodIn wsX10_layNeed wsX10_mayorOf := goodIn_r _ [13, 1, 14, 15, 16, 8, 17, 18, 19, 20, 21, 22, 23, 24, 25, 26, 27, 3, 31, 32, 33, 34, 35, 36, 37, 38, 39, 40, 41, 42, 43, 44, 45, 46, 47, 48, 49, 50, 51, 52, 53, 54, 55, 56] (by decide +kernel) (by decide +kernel)
set_option maxRecDepth 20000 in
theorem gX10_layNeed_X10_mayorOf : GoodIn wsX10_layNeed (wsV RX10 144 RX10 yX10_mayorOf wsX10_mayorOf) := goodIn_app (goodIn_of _ (by decide +kernel)) ggX10_layNeed_X10_mayorOf
set_option maxRecDepth 20000 in
theorem ggX10_layNeed_X10_copy : GoodIn wsX10_layNeed wsX10_copy := goodIn_r _ [30] (by decide +kernel) (by decide +kernel)
set_option maxRecDepth 20000 in
theorem gX10_layNeed_X10_copy : GoodIn wsX10_layNeed (va_wsS RX10 87 yX10_copy wsX10_copy) := goodIn_app (goodIn_of _ (by decide +kernel)) ggX10_layNeed_X10_copy
theorem dX10_layNeed_0 : decode cX10_layNeed 0 = .ok (.iconst 1, 1) := by decide +kernel
theorem dX10_layNeed_1 : decode cX10_layNeed 1 = .ok (.istore_n 2, 1) := by decide +kernel
theorem dX10_layNeed_2 : decode cX10_layNeed 2 = .ok (.iconst 1, 1) := by decide +kernel
theorem dX10_layNeed_3 : decode cX10_layNeed 3 = .ok (.istore_n 3, 1) := by decide +kernel
theorem dX10_layNeed_4 : decode cX10_layNeed 4 = .ok (.iload_n 3, 1) := by decide +kernel
theorem dX10_layNeed_5 : decode cX10_layNeed 5 = .ok (.aload_n 0, 1) := by decide +kernel
theorem dX10_layNeed_6 : decode cX10_layNeed 6 = .ok (.getfield 81, 3) := by decide +kernel
theorem dX10_layNeed_9 : decode cX10_layNeed 9 = .ok (.if_icmp .ge 14, 3) := by decide +kernel
theorem dX10_layNeed_12 : decode cX10_layNeed 12 = .ok (.iload_n 2, 1) := by decide +kernel
theorem dX10_layNeed_13 : decode cX10_layNeed 13 = .ok (.bipush 10, 2) := by decide +kernel
theorem dX10_layNeed_15 : decode cX10_layNeed 15 = .ok (.imul, 1) := by decide +kernel
theorem dX10_layNeed_16 : decode cX10_layNeed 16 = .ok (.istore_n 2, 1) := by decide +kernel
theorem dX10_layNeed_17 : decode cX10_layNeed 17 = .ok (.iinc 3 1, 3) := by decide +kernel
theorem dX10_layNeed_20 : decode cX10_layNeed 20 = .ok (.goto (-16), 3) := by decide +kernel
theorem dX10_layNeed_23 : decode cX10_layNeed 23 = .ok (.iconst (-1), 1) := by decide +kernel
theorem dX10_layNeed_24 : decode cX10_layNeed 24 = .ok (.istore_n 3, 1) := by decide +kernel
theorem dX10_layNeed_25 : decode cX10_layNeed 25 = .ok (.iconst 0, 1) := by decide +kernel
theorem dX10_layNeed_26 : decode cX10_layNeed 26 = .ok (.istore 4, 2) := by decide +kernel
theorem dX10_layNeed_28 : decode cX10_layNeed 28 = .ok (.iload 4, 2) := by decide +kernel
theorem dX10_layNeed_30 : decode cX10_layNeed 30 = .ok (.iload_n 2, 1) := by decide +kernel
theorem dX10_layNeed_31 : decode cX10_layNeed 31 = .ok (.if_icmp .ge 191, 3) := by decide +kernel
theorem dX10_layNeed_34 : decode cX10_layNeed 34 = .ok (.aload_n 0, 1) := by decide +kernel
theorem dX10_layNeed_35 : decode cX10_layNeed 35 = .ok (.iload_n 1, 1) := by decide +kernel
theorem dX10_layNeed_36 : decode cX10_layNeed 36 = .ok (.iload 4, 2) := by decide +kernel
theorem dX10_layNeed_38 : decode cX10_layNeed 38 = .ok (.invokevirtual 147, 3) := by decide +kernel
theorem dX10_layNeed_41 : decode cX10_layNeed 41 = .ok (.istore 5, 2) := by decide +kernel
theorem dX10_layNeed_43 : decode cX10_layNeed 43 = .ok (.aload_n 0, 1) := by decide +kernel
theorem dX10_layNeed_44 : decode cX10_layNeed 44 = .ok (.getfield 25, 3) := by decide +kernel
theorem dX10_layNeed_47 : decode cX10_layNeed 47 = .ok (.iconst 0, 1) := by decide +kernel
theorem dX10_layNeed_48 : decode cX10_layNeed 48 = .ok (.iaload, 1) := by decide +kernel
theorem dX10_layNeed_49 : decode cX10_layNeed 49 = .ok (.aload_n 0, 1) := by decide +kernel
theorem dX10_layNeed_50 : decode cX10_layNeed 50 = .ok (.getfield 25, 3) := by decide +kernel
theorem dX10_layNeed_53 : decode cX10_layNeed 53 = .ok (.iconst 1, 1) := by decide +kernel
theorem dX10_layNeed_54 : decode cX10_layNeed 54 = .ok (.iaload, 1) := by decide +kernel
theorem dX10_layNeed_55 : decode cX10_layNeed 55 = .ok (.iadd, 1) := by decide +kernel
theorem dX10_layNeed_56 : decode cX10_layNeed 56 = .ok (.aload_n 0, 1) := by decide +kernel
theorem dX10_layNeed_57 : decode cX10_layNeed 57 = .ok (.getfield 81, 3) := by decide +kernel
theorem dX10_layNeed_60 : decode cX10_layNeed 60 = .ok (.iconst 2, 1) := by decide +kernel
theorem dX10_layNeed_61 : decode cX10_layNeed 61 = .ok (.if_icmp .le 12, 3) := by decide +kernel
theorem dX10_layNeed_64 : decode cX10_layNeed 64 = .ok (.aload_n 0, 1) := by decide +kernel
theorem dX10_layNeed_65 : decode cX10_layNeed 65 = .ok (.getfield 25, 3) := by decide +kernel
theorem dX10_layNeed_68 : decode cX10_layNeed 68 = .ok (.iconst 2, 1) := by decide +kernel
theorem dX10_layNeed_69 : decode cX10_layNeed 69 = .ok (.iaload, 1) := by decide +kernel
theorem dX10_layNeed_70 : decode cX10_layNeed 70 = .ok (.goto 4, 3) := by decide +kernel
theorem dX10_layNeed_73 : decode cX10_layNeed 73 = .ok (.iconst 0, 1) := by decide +kernel
theorem dX10_layNeed_74 : decode cX10_layNeed 74 = .ok (.iadd, 1) := by decide +kernel
theorem dX10_layNeed_75 : decode cX10_layNeed 75 = .ok (.aload_n 0, 1) := by decide +kernel
theorem dX10_layNeed_76 : decode cX10_layNeed 76 = .ok (.getfield 81, 3) := by decide +kernel
theorem dX10_layNeed_79 : decode cX10_layNeed 79 = .ok (.iconst 3, 1) := by decide +kernel
theorem dX10_layNeed_80 : decode cX10_layNeed 80 = .ok (.if_icmp .le 12, 3) := by decide +kernel
theorem dX10_layNeed_83 : decode cX10_layNeed 83 = .ok (.aload_n 0, 1) := by decide +kernel
theorem dX10_layNeed_84 : decode cX10_layNeed 84 = .ok (.getfield 25, 3) := by decide +kernel
theorem dX10_layNeed_87 : decode cX10_layNeed 87 = .ok (.iconst 3, 1) := by decide +kernel
theorem dX10_layNeed_88 : decode cX10_layNeed 88 = .ok (.iaload, 1) := by decide +kernel
theorem dX10_layNeed_89 : decode cX10_layNeed 89 = .ok (.goto 4, 3) := by decide +kernel
theorem dX10_layNeed_92 : decode cX10_layNeed 92 = .ok (.iconst 0, 1) := by decide +kernel
theorem dX10_layNeed_93 : decode cX10_layNeed 93 = .ok (.iadd, 1) := by decide +kernel
theorem dX10_layNeed_94 : decode cX10_layNeed 94 = .ok (.istore 6, 2) := by decide +kernel
theorem dX10_layNeed_96 : decode cX10_layNeed 96 = .ok (.iload 5, 2) := by decide +kernel
theorem dX10_layNeed_98 : decode cX10_layNeed 98 = .ok (.ifCond .eq 118, 3) := by decide +kernel
theorem dX10_layNeed_101 : decode cX10_layNeed 101 = .ok (.iload_n 3, 1) := by decide +kernel
theorem dX10_layNeed_102 : decode cX10_layNeed 102 = .ok (.iconst (-1), 1) := by decide +kernel
theorem dX10_layNeed_103 : decode cX10_layNeed 103 = .ok (.if_icmp .eq 9, 3) := by decide +kernel
theorem dX10_layNeed_106 : decode cX10_layNeed 106 = .ok (.iload 6, 2) := by decide +kernel
theorem dX10_layNeed_108 : decode cX10_layNeed 108 = .ok (.iload_n 3, 1) := by decide +kernel
theorem dX10_layNeed_109 : decode cX10_layNeed 109 = .ok (.if_icmp .ge 107, 3) := by decide +kernel
theorem dX10_layNeed_112 : decode cX10_layNeed 112 = .ok (.iconst 0, 1) := by decide +kernel
theorem dX10_layNeed_113 : decode cX10_layNeed 113 = .ok (.istore 7, 2) := by decide +kernel
theorem dX10_layNeed_115 : decode cX10_layNeed 115 = .ok (.iload 7, 2) := by decide +kernel
theorem dX10_layNeed_117 : decode cX10_layNeed 117 = .ok (.aload_n 0, 1) := by decide +kernel
theorem dX10_layNeed_118 : decode cX10_layNeed 118 = .ok (.getfield 81, 3) := by decide +kernel
theorem dX10_layNeed_121 : decode cX10_layNeed 121 = .ok (.if_icmp .ge 32, 3) := by decide +kernel
theorem dX10_layNeed_124 : decode cX10_layNeed 124 = .ok (.aload_n 0, 1) := by decide +kernel
theorem dX10_layNeed_125 : decode cX10_layNeed 125 = .ok (.getfield 19, 3) := by decide +kernel
theorem dX10_layNeed_128 : decode cX10_layNeed 128 = .ok (.bipush 8, 2) := by decide +kernel
theorem dX10_layNeed_130 : decode cX10_layNeed 130 = .ok (.iload 7, 2) := by decide +kernel
theorem dX10_layNeed_132 : decode cX10_layNeed 132 = .ok (.imul, 1) := by decide +kernel
theorem dX10_layNeed_133 : decode cX10_layNeed 133 = .ok (.bipush 7, 2) := by decide +kernel
theorem dX10_layNeed_135 : decode cX10_layNeed 135 = .ok (.iadd, 1) := by decide +kernel
theorem dX10_layNeed_136 : decode cX10_layNeed 136 = .ok (.dup2, 1) := by decide +kernel
theorem dX10_layNeed_137 : decode cX10_layNeed 137 = .ok (.iaload, 1) := by decide +kernel
theorem dX10_layNeed_138 : decode cX10_layNeed 138 = .ok (.aload_n 0, 1) := by decide +kernel
theorem dX10_layNeed_139 : decode cX10_layNeed 139 = .ok (.getfield 25, 3) := by decide +kernel
theorem dX10_layNeed_142 : decode cX10_layNeed 142 = .ok (.iload 7, 2) := by decide +kernel
theorem dX10_layNeed_144 : decode cX10_layNeed 144 = .ok (.iaload, 1) := by decide +kernel
theorem dX10_layNeed_145 : decode cX10_layNeed 145 = .ok (.iadd, 1) := by decide +kernel
theorem dX10_layNeed_146 : decode cX10_layNeed 146 = .ok (.iastore, 1) := by decide +kernel
theorem dX10_layNeed_147 : decode cX10_layNeed 147 = .ok (.iinc 7 1, 3) := by decide +kernel
theorem dX10_layNeed_150 : decode cX10_layNeed 150 = .ok (.goto (-35), 3) := by decide +kernel
theorem dX10_layNeed_153 : decode cX10_layNeed 153 = .ok (.aload_n 0, 1) := by decide +kernel
theorem dX10_layNeed_154 : decode cX10_layNeed 154 = .ok (.invokevirtual 144, 3) := by decide +kernel
theorem dX10_layNeed_157 : decode cX10_layNeed 157 = .ok (.iload_n 1, 1) := by decide +kernel
theorem dX10_layNeed_158 : decode cX10_layNeed 158 = .ok (.if_icmp .ne 17, 3) := by decide +kernel
theorem dX10_layNeed_161 : decode cX10_layNeed 161 = .ok (.iload 6, 2) := by decide +kernel
theorem dX10_layNeed_163 : decode cX10_layNeed 163 = .ok (.istore_n 3, 1) := by decide +kernel
theorem dX10_layNeed_164 : decode cX10_layNeed 164 = .ok (.aload_n 0, 1) := by decide +kernel
theorem dX10_layNeed_165 : decode cX10_layNeed 165 = .ok (.getfield 25, 3) := by decide +kernel
theorem dX10_layNeed_168 : decode cX10_layNeed 168 = .ok (.aload_n 0, 1) := by decide +kernel
theorem dX10_layNeed_169 : decode cX10_layNeed 169 = .ok (.getfield 28, 3) := by decide +kernel
theorem dX10_layNeed_172 : decode cX10_layNeed 172 = .ok (.invokestatic 87, 3) := by decide +kernel
theorem dX10_layNeed_175 : decode cX10_layNeed 175 = .ok (.iconst 0, 1) := by decide +kernel
theorem dX10_layNeed_176 : decode cX10_layNeed 176 = .ok (.istore 7, 2) := by decide +kernel
theorem dX10_layNeed_178 : decode cX10_layNeed 178 = .ok (.iload 7, 2) := by decide +kernel
theorem dX10_layNeed_180 : decode cX10_layNeed 180 = .ok (.aload_n 0, 1) := by decide +kernel
theorem dX10_layNeed_181 : decode cX10_layNeed 181 = .ok (.getfield 81, 3) := by decide +kernel
theorem dX10_layNeed_184 : decode cX10_layNeed 184 = .ok (.if_icmp .ge 32, 3) := by decide +kernel
theorem dX10_layNeed_187 : decode cX10_layNeed 187 = .ok (.aload_n 0, 1) := by decide +kernel
theorem dX10_layNeed_188 : decode cX10_layNeed 188 = .ok (.getfield 19, 3) := by decide +kernel
theorem dX10_layNeed_191 : decode cX10_layNeed 191 = .ok (.bipush 8, 2) := by decide +kernel
theorem dX10_layNeed_193 : decode cX10_layNeed 193 = .ok (.iload 7, 2) := by decide +kernel
theorem dX10_layNeed_195 : decode cX10_layNeed 195 = .ok (.imul, 1) := by decide +kernel
theorem dX10_layNeed_196 : decode cX10_layNeed 196 = .ok (.bipush 7, 2) := by decide +kernel
theorem dX10_layNeed_198 : decode cX10_layNeed 198 = .ok (.iadd, 1) := by decide +kernel
theorem dX10_layNeed_199 : decode cX10_layNeed 199 = .ok (.dup2, 1) := by decide +kernel
theorem dX10_layNeed_200 : decode cX10_layNeed 200 = .ok (.iaload, 1) := by decide +kernel
theorem dX10_layNeed_201 : decode cX10_layNeed 201 = .ok (.aload_n 0, 1) := by decide +kernel
theorem dX10_layNeed_202 : decode cX10_layNeed 202 = .ok (.getfield 25, 3) := by decide +kernel
theorem dX10_layNeed_205 : decode cX10_layNeed 205 = .ok (.iload 7, 2) := by decide +kernel
theorem dX10_layNeed_207 : decode cX10_layNeed 207 = .ok (.iaload, 1) := by decide +kernel
theorem dX10_layNeed_208 : decode cX10_layNeed 208 = .ok (.isub, 1) := by decide +kernel
theorem dX10_layNeed_209 : decode cX10_layNeed 209 = .ok (.iastore, 1) := by decide +kernel
theorem dX10_layNeed_210 : decode cX10_layNeed 210 = .ok (.iinc 7 1, 3) := by decide +kernel
theorem dX10_layNeed_213 : decode cX10_layNeed 213 = .ok (.goto (-35), 3) := by decide +kernel
theorem dX10_layNeed_216 : decode cX10_layNeed 216 = .ok (.iinc 4 1, 3) := by decide +kernel
theorem dX10_layNeed_219 : decode cX10_layNeed 219 = .ok (.goto (-191), 3) := by decide +kernel
theorem dX10_layNeed_222 : decode cX10_layNeed 222 = .ok (.iload_n 3, 1) := by decide +kernel
theorem dX10_layNeed_223 : decode cX10_layNeed 223 = .ok (.ireturn, 1) := by decide +kernel
set_option maxRecDepth 20000 in
theorem ggX10_need_X10_isSinger : GoodIn wsX10_need wsX10_isSinger := goodIn_r _ [10, 4, 11, 12, 9, 13, 45, 46, 47, 48, 49, 50, 51, 52, 53, 54, 55, 56, 57, 58, 59, 60, 61, 62, 63, 64, 65, 66, 67, 68, 69, 70] (by decide +kernel) (by decide +kernel)
set_option maxRecDepth 20000 in
theorem gX10_need_X10_isSinger : GoodIn wsX10_need (wsV RX10 121 RX10 yX10_isSinger wsX10_isSinger) := goodIn_app (goodIn_of _ (by decide +kernel)) ggX10_need_X10_isSinger
set_option maxRecDepth 20000 in
theorem ggX10_need_X10_in : GoodIn wsX10_need wsX10_in := goodIn_r _ [13] (by decide +kernel) (by decide +kernel)
set_option maxRecDepth 20000 in
theorem gX10_need_X10_in : GoodIn wsX10_need (va_wsS RX10 49 yX10_in wsX10_in) := goodIn_app (goodIn_of _ (by decide +kernel)) ggX10_need_X10_in
set_option maxRecDepth 20000 in
theorem ggX10_need_X10_layNeed : GoodIn wsX10_need wsX10_layNeed := goodIn_r _ [17, 4, 18, 19, 5, 20, 21, 22, 9, 23, 24, 25, 26, 27, 28, 29, 30, 31, 32, 33, 34, 35, 36, 37, 38, 39, 40, 41, 42, 43, 44, 45, 46, 47, 48, 49, 50, 51, 52, 53, 54, 55, 56, 57, 58, 59, 60, 61, 62, 63, 64, 65, 66, 67, 68, 69, 70] (by decide +kernel) (by decide +kernel)
set_option maxRecDepth 20000 in
theorem gX10_need_X10_layNeed : GoodIn wsX10_need (wsV RX10 154 RX10 yX10_layNeed wsX10_layNeed) := goodIn_app (goodIn_of _ (by decide +kernel)) ggX10_need_X10_layNeed
theorem dX10_need_0 : decode cX10_need 0 = .ok (.aload_n 0, 1) := by decide +kernel
theorem dX10_need_1 : decode cX10_need 1 = .ok (.iload_n 1, 1) := by decide +kernel
theorem dX10_need_2 : decode cX10_need 2 = .ok (.invokevirtual 121, 3) := by decide +kernel
theorem dX10_need_5 : decode cX10_need 5 = .ok (.ifCond .ne 6, 3) := by decide +kernel
theorem dX10_need_8 : decode cX10_need 8 = .ok (.bipush (-101), 2) := by decide +kernel
theorem dX10_need_10 : decode cX10_need 10 = .ok (.ireturn, 1) := by decide +kernel
theorem dX10_need_11 : decode cX10_need 11 = .ok (.iload_n 2, 1) := by decide +kernel
theorem dX10_need_12 : decode cX10_need 12 = .ok (.ifCond .eq 20, 3) := by decide +kernel
theorem dX10_need_15 : decode cX10_need 15 = .ok (.iload_n 2, 1) := by decide +kernel
theorem dX10_need_16 : decode cX10_need 16 = .ok (.i2l, 1) := by decide +kernel
theorem dX10_need_17 : decode cX10_need 17 = .ok (.ldc2_w 110, 3) := by decide +kernel
theorem dX10_need_20 : decode cX10_need 20 = .ok (.ldc2_w 112, 3) := by decide +kernel
theorem dX10_need_23 : decode cX10_need 23 = .ok (.invokestatic 49, 3) := by decide +kernel
theorem dX10_need_26 : decode cX10_need 26 = .ok (.ifCond .ne 6, 3) := by decide +kernel
theorem dX10_need_29 : decode cX10_need 29 = .ok (.bipush (-102), 2) := by decide +kernel
theorem dX10_need_31 : decode cX10_need 31 = .ok (.ireturn, 1) := by decide +kernel
theorem dX10_need_32 : decode cX10_need 32 = .ok (.aload_n 0, 1) := by decide +kernel
theorem dX10_need_33 : decode cX10_need 33 = .ok (.getfield 151, 3) := by decide +kernel
theorem dX10_need_36 : decode cX10_need 36 = .ok (.bipush 20, 2) := by decide +kernel
theorem dX10_need_38 : decode cX10_need 38 = .ok (.if_icmp .ne 6, 3) := by decide +kernel
theorem dX10_need_41 : decode cX10_need 41 = .ok (.bipush (-103), 2) := by decide +kernel
theorem dX10_need_43 : decode cX10_need 43 = .ok (.ireturn, 1) := by decide +kernel
theorem dX10_need_44 : decode cX10_need 44 = .ok (.aload_n 0, 1) := by decide +kernel
theorem dX10_need_45 : decode cX10_need 45 = .ok (.dup, 1) := by decide +kernel
theorem dX10_need_46 : decode cX10_need 46 = .ok (.getfield 151, 3) := by decide +kernel
theorem dX10_need_49 : decode cX10_need 49 = .ok (.iconst 1, 1) := by decide +kernel
theorem dX10_need_50 : decode cX10_need 50 = .ok (.iadd, 1) := by decide +kernel
theorem dX10_need_51 : decode cX10_need 51 = .ok (.putfield 151, 3) := by decide +kernel
theorem dX10_need_54 : decode cX10_need 54 = .ok (.aload_n 0, 1) := by decide +kernel
theorem dX10_need_55 : decode cX10_need 55 = .ok (.iload_n 1, 1) := by decide +kernel
theorem dX10_need_56 : decode cX10_need 56 = .ok (.invokevirtual 154, 3) := by decide +kernel
theorem dX10_need_59 : decode cX10_need 59 = .ok (.istore_n 3, 1) := by decide +kernel
theorem dX10_need_60 : decode cX10_need 60 = .ok (.iload_n 2, 1) := by decide +kernel
theorem dX10_need_61 : decode cX10_need 61 = .ok (.ifCond .eq 8, 3) := by decide +kernel
theorem dX10_need_64 : decode cX10_need 64 = .ok (.iload_n 3, 1) := by decide +kernel
theorem dX10_need_65 : decode cX10_need 65 = .ok (.iconst (-1), 1) := by decide +kernel
theorem dX10_need_66 : decode cX10_need 66 = .ok (.if_icmp .ne 7, 3) := by decide +kernel
theorem dX10_need_69 : decode cX10_need 69 = .ok (.iload_n 3, 1) := by decide +kernel
theorem dX10_need_70 : decode cX10_need 70 = .ok (.goto 27, 3) := by decide +kernel
theorem dX10_need_73 : decode cX10_need 73 = .ok (.iload_n 2, 1) := by decide +kernel
theorem dX10_need_74 : decode cX10_need 74 = .ok (.bipush 10, 2) := by decide +kernel
theorem dX10_need_76 : decode cX10_need 76 = .ok (.isub, 1) := by decide +kernel
theorem dX10_need_77 : decode cX10_need 77 = .ok (.aload_n 0, 1) := by decide +kernel
theorem dX10_need_78 : decode cX10_need 78 = .ok (.getfield 81, 3) := by decide +kernel
theorem dX10_need_81 : decode cX10_need 81 = .ok (.if_icmp .ge 15, 3) := by decide +kernel
theorem dX10_need_84 : decode cX10_need 84 = .ok (.aload_n 0, 1) := by decide +kernel
theorem dX10_need_85 : decode cX10_need 85 = .ok (.getfield 28, 3) := by decide +kernel
theorem dX10_need_88 : decode cX10_need 88 = .ok (.iload_n 2, 1) := by decide +kernel
theorem dX10_need_89 : decode cX10_need 89 = .ok (.bipush 10, 2) := by decide +kernel
theorem dX10_need_91 : decode cX10_need 91 = .ok (.isub, 1) := by decide +kernel
theorem dX10_need_92 : decode cX10_need 92 = .ok (.iaload, 1) := by decide +kernel
theorem dX10_need_93 : decode cX10_need 93 = .ok (.goto 4, 3) := by decide +kernel
theorem dX10_need_96 : decode cX10_need 96 = .ok (.iconst (-1), 1) := by decide +kernel
theorem dX10_need_97 : decode cX10_need 97 = .ok (.ireturn, 1) := by decide +kernel
set_option maxRecDepth 20000 in
theorem ggX10_hear_X10_isWidow : GoodIn wsX10_hear wsX10_isWidow := goodIn_r _ [7, 8, 9, 10, 6, 11, 17, 18, 19, 20, 21, 22, 23, 24, 25, 26, 27, 28, 29, 30, 31, 32, 33, 34, 35, 36, 37, 38, 39, 40, 41, 42] (by decide +kernel) (by decide +kernel)
set_option maxRecDepth 20000 in
theorem gX10_hear_X10_isWidow : GoodIn wsX10_hear (wsV RX10 135 RX10 yX10_isWidow wsX10_isWidow) := goodIn_app (goodIn_of _ (by decide +kernel)) ggX10_hear_X10_isWidow
set_option maxRecDepth 20000 in
theorem ggX10_hear_X10_isSinger : GoodIn wsX10_hear wsX10_isSinger := goodIn_r _ [15, 16, 9, 10, 6, 11, 17, 18, 19, 20, 21, 22, 23, 24, 25, 26, 27, 28, 29, 30, 31, 32, 33, 34, 35, 36, 37, 38, 39, 40, 41, 42] (by decide +kernel) (by decide +kernel)
set_option maxRecDepth 20000 in
theorem gX10_hear_X10_isSinger : GoodIn wsX10_hear (wsV RX10 121 RX10 yX10_isSinger wsX10_isSinger) := goodIn_app (goodIn_of _ (by decide +kernel)) ggX10_hear_X10_isSinger
theorem dX10_hear_0 : decode cX10_hear 0 = .ok (.aload_n 0, 1) := by decide +kernel
theorem dX10_hear_1 : decode cX10_hear 1 = .ok (.iload_n 1, 1) := by decide +kernel
theorem dX10_hear_2 : decode cX10_hear 2 = .ok (.invokevirtual 135, 3) := by decide +kernel
theorem dX10_hear_5 : decode cX10_hear 5 = .ok (.ifCond .eq 24, 3) := by decide +kernel
theorem dX10_hear_8 : decode cX10_hear 8 = .ok (.aload_n 0, 1) := by decide +kernel
theorem dX10_hear_9 : decode cX10_hear 9 = .ok (.iload_n 2, 1) := by decide +kernel
theorem dX10_hear_10 : decode cX10_hear 10 = .ok (.invokevirtual 121, 3) := by decide +kernel
theorem dX10_hear_13 : decode cX10_hear 13 = .ok (.ifCond .eq 16, 3) := by decide +kernel
theorem dX10_hear_16 : decode cX10_hear 16 = .ok (.aload_n 0, 1) := by decide +kernel
theorem dX10_hear_17 : decode cX10_hear 17 = .ok (.iload_n 3, 1) := by decide +kernel
theorem dX10_hear_18 : decode cX10_hear 18 = .ok (.invokevirtual 121, 3) := by decide +kernel
theorem dX10_hear_21 : decode cX10_hear 21 = .ok (.ifCond .eq 8, 3) := by decide +kernel
theorem dX10_hear_24 : decode cX10_hear 24 = .ok (.iload_n 2, 1) := by decide +kernel
theorem dX10_hear_25 : decode cX10_hear 25 = .ok (.iload_n 3, 1) := by decide +kernel
theorem dX10_hear_26 : decode cX10_hear 26 = .ok (.if_icmp .ne 6, 3) := by decide +kernel
theorem dX10_hear_29 : decode cX10_hear 29 = .ok (.bipush (-101), 2) := by decide +kernel
theorem dX10_hear_31 : decode cX10_hear 31 = .ok (.ireturn, 1) := by decide +kernel
theorem dX10_hear_32 : decode cX10_hear 32 = .ok (.aload_n 0, 1) := by decide +kernel
theorem dX10_hear_33 : decode cX10_hear 33 = .ok (.getfield 94, 3) := by decide +kernel
theorem dX10_hear_36 : decode cX10_hear 36 = .ok (.bipush 8, 2) := by decide +kernel
theorem dX10_hear_38 : decode cX10_hear 38 = .ok (.if_icmp .ne 6, 3) := by decide +kernel
theorem dX10_hear_41 : decode cX10_hear 41 = .ok (.bipush (-104), 2) := by decide +kernel
theorem dX10_hear_43 : decode cX10_hear 43 = .ok (.ireturn, 1) := by decide +kernel
theorem dX10_hear_44 : decode cX10_hear 44 = .ok (.aload_n 0, 1) := by decide +kernel
theorem dX10_hear_45 : decode cX10_hear 45 = .ok (.getfield 31, 3) := by decide +kernel
theorem dX10_hear_48 : decode cX10_hear 48 = .ok (.iconst 4, 1) := by decide +kernel
theorem dX10_hear_49 : decode cX10_hear 49 = .ok (.aload_n 0, 1) := by decide +kernel
theorem dX10_hear_50 : decode cX10_hear 50 = .ok (.getfield 94, 3) := by decide +kernel
theorem dX10_hear_53 : decode cX10_hear 53 = .ok (.imul, 1) := by decide +kernel
theorem dX10_hear_54 : decode cX10_hear 54 = .ok (.iload_n 1, 1) := by decide +kernel
theorem dX10_hear_55 : decode cX10_hear 55 = .ok (.iastore, 1) := by decide +kernel
theorem dX10_hear_56 : decode cX10_hear 56 = .ok (.aload_n 0, 1) := by decide +kernel
theorem dX10_hear_57 : decode cX10_hear 57 = .ok (.getfield 31, 3) := by decide +kernel
theorem dX10_hear_60 : decode cX10_hear 60 = .ok (.iconst 4, 1) := by decide +kernel
theorem dX10_hear_61 : decode cX10_hear 61 = .ok (.aload_n 0, 1) := by decide +kernel
theorem dX10_hear_62 : decode cX10_hear 62 = .ok (.getfield 94, 3) := by decide +kernel
theorem dX10_hear_65 : decode cX10_hear 65 = .ok (.imul, 1) := by decide +kernel
theorem dX10_hear_66 : decode cX10_hear 66 = .ok (.iconst 1, 1) := by decide +kernel
theorem dX10_hear_67 : decode cX10_hear 67 = .ok (.iadd, 1) := by decide +kernel
theorem dX10_hear_68 : decode cX10_hear 68 = .ok (.iload_n 2, 1) := by decide +kernel
theorem dX10_hear_69 : decode cX10_hear 69 = .ok (.iastore, 1) := by decide +kernel
theorem dX10_hear_70 : decode cX10_hear 70 = .ok (.aload_n 0, 1) := by decide +kernel
theorem dX10_hear_71 : decode cX10_hear 71 = .ok (.getfield 31, 3) := by decide +kernel
theorem dX10_hear_74 : decode cX10_hear 74 = .ok (.iconst 4, 1) := by decide +kernel
theorem dX10_hear_75 : decode cX10_hear 75 = .ok (.aload_n 0, 1) := by decide +kernel
theorem dX10_hear_76 : decode cX10_hear 76 = .ok (.getfield 94, 3) := by decide +kernel
theorem dX10_hear_79 : decode cX10_hear 79 = .ok (.imul, 1) := by decide +kernel
theorem dX10_hear_80 : decode cX10_hear 80 = .ok (.iconst 2, 1) := by decide +kernel
theorem dX10_hear_81 : decode cX10_hear 81 = .ok (.iadd, 1) := by decide +kernel
theorem dX10_hear_82 : decode cX10_hear 82 = .ok (.iload_n 3, 1) := by decide +kernel
theorem dX10_hear_83 : decode cX10_hear 83 = .ok (.iastore, 1) := by decide +kernel
theorem dX10_hear_84 : decode cX10_hear 84 = .ok (.aload_n 0, 1) := by decide +kernel
theorem dX10_hear_85 : decode cX10_hear 85 = .ok (.getfield 31, 3) := by decide +kernel
theorem dX10_hear_88 : decode cX10_hear 88 = .ok (.iconst 4, 1) := by decide +kernel
theorem dX10_hear_89 : decode cX10_hear 89 = .ok (.aload_n 0, 1) := by decide +kernel
theorem dX10_hear_90 : decode cX10_hear 90 = .ok (.getfield 94, 3) := by decide +kernel
theorem dX10_hear_93 : decode cX10_hear 93 = .ok (.imul, 1) := by decide +kernel
theorem dX10_hear_94 : decode cX10_hear 94 = .ok (.iconst 3, 1) := by decide +kernel
theorem dX10_hear_95 : decode cX10_hear 95 = .ok (.iadd, 1) := by decide +kernel
theorem dX10_hear_96 : decode cX10_hear 96 = .ok (.iload 4, 2) := by decide +kernel
theorem dX10_hear_98 : decode cX10_hear 98 = .ok (.ifCond .eq 7, 3) := by decide +kernel
theorem dX10_hear_101 : decode cX10_hear 101 = .ok (.iconst 1, 1) := by decide +kernel
theorem dX10_hear_102 : decode cX10_hear 102 = .ok (.goto 4, 3) := by decide +kernel
theorem dX10_hear_105 : decode cX10_hear 105 = .ok (.iconst 0, 1) := by decide +kernel
theorem dX10_hear_106 : decode cX10_hear 106 = .ok (.iastore, 1) := by decide +kernel
theorem dX10_hear_107 : decode cX10_hear 107 = .ok (.aload_n 0, 1) := by decide +kernel
theorem dX10_hear_108 : decode cX10_hear 108 = .ok (.dup, 1) := by decide +kernel
theorem dX10_hear_109 : decode cX10_hear 109 = .ok (.getfield 94, 3) := by decide +kernel
theorem dX10_hear_112 : decode cX10_hear 112 = .ok (.iconst 1, 1) := by decide +kernel
theorem dX10_hear_113 : decode cX10_hear 113 = .ok (.iadd, 1) := by decide +kernel
theorem dX10_hear_114 : decode cX10_hear 114 = .ok (.putfield 94, 3) := by decide +kernel
theorem dX10_hear_117 : decode cX10_hear 117 = .ok (.aload_n 0, 1) := by decide +kernel
theorem dX10_hear_118 : decode cX10_hear 118 = .ok (.getfield 94, 3) := by decide +kernel
theorem dX10_hear_121 : decode cX10_hear 121 = .ok (.ireturn, 1) := by decide +kernel
theorem dX10_forget_0 : decode cX10_forget 0 = .ok (.aload_n 0, 1) := by decide +kernel
theorem dX10_forget_1 : decode cX10_forget 1 = .ok (.getfield 94, 3) := by decide +kernel
theorem dX10_forget_4 : decode cX10_forget 4 = .ok (.istore_n 1, 1) := by decide +kernel
theorem dX10_forget_5 : decode cX10_forget 5 = .ok (.aload_n 0, 1) := by decide +kernel
theorem dX10_forget_6 : decode cX10_forget 6 = .ok (.iconst 0, 1) := by decide +kernel
theorem dX10_forget_7 : decode cX10_forget 7 = .ok (.putfield 94, 3) := by decide +kernel
theorem dX10_forget_10 : decode cX10_forget 10 = .ok (.iload_n 1, 1) := by decide +kernel
theorem dX10_forget_11 : decode cX10_forget 11 = .ok (.ireturn, 1) := by decide +kernel
set_option maxRecDepth 20000 in
theorem ggX10_isMore_X10_badOf : GoodIn wsX10_isMore wsX10_badOf := goodIn_r _ [5, 6, 7, 8, 9, 10, 11, 12, 13, 14, 15, 16, 17, 18, 19, 20, 21, 22, 23, 24, 25, 26, 27, 28, 29, 30, 31, 32] (by decide +kernel) (by decide +kernel)
set_option maxRecDepth 20000 in
theorem gX10_isMore_X10_badOf : GoodIn wsX10_isMore (wsV RX10 100 RX10 yX10_badOf wsX10_badOf) := goodIn_app (goodIn_of _ (by decide +kernel)) ggX10_isMore_X10_badOf
theorem dX10_isMore_0 : decode cX10_isMore 0 = .ok (.aload_n 0, 1) := by decide +kernel
theorem dX10_isMore_1 : decode cX10_isMore 1 = .ok (.iload_n 1, 1) := by decide +kernel
theorem dX10_isMore_2 : decode cX10_isMore 2 = .ok (.iload_n 3, 1) := by decide +kernel
theorem dX10_isMore_3 : decode cX10_isMore 3 = .ok (.invokevirtual 100, 3) := by decide +kernel
theorem dX10_isMore_6 : decode cX10_isMore 6 = .ok (.aload_n 0, 1) := by decide +kernel
theorem dX10_isMore_7 : decode cX10_isMore 7 = .ok (.iload_n 2, 1) := by decide +kernel
theorem dX10_isMore_8 : decode cX10_isMore 8 = .ok (.iload_n 3, 1) := by decide +kernel
theorem dX10_isMore_9 : decode cX10_isMore 9 = .ok (.invokevirtual 100, 3) := by decide +kernel
theorem dX10_isMore_12 : decode cX10_isMore 12 = .ok (.if_icmp .le 7, 3) := by decide +kernel
theorem dX10_isMore_15 : decode cX10_isMore 15 = .ok (.iconst 1, 1) := by decide +kernel
theorem dX10_isMore_16 : decode cX10_isMore 16 = .ok (.goto 4, 3) := by decide +kernel
theorem dX10_isMore_19 : decode cX10_isMore 19 = .ok (.iconst 0, 1) := by decide +kernel
theorem dX10_isMore_20 : decode cX10_isMore 20 = .ok (.ireturn, 1) := by decide +kernel
set_option maxRecDepth 20000 in
theorem ggX10_mindsOf_X10_isMore : GoodIn wsX10_mindsOf wsX10_isMore := goodIn_r _ [7, 8, 9, 10, 6, 11, 12, 13, 14, 15, 16, 17, 18, 19, 20, 21, 22, 23, 24, 25, 26, 27, 28, 29, 30, 31, 32, 33, 34, 35, 36, 37, 38] (by decide +kernel) (by decide +kernel)
set_option maxRecDepth 20000 in
theorem gX10_mindsOf_X10_isMore : GoodIn wsX10_mindsOf (wsV RX10 157 RX10 yX10_isMore wsX10_isMore) := goodIn_app (goodIn_of _ (by decide +kernel)) ggX10_mindsOf_X10_isMore
theorem dX10_mindsOf_0 : decode cX10_mindsOf 0 = .ok (.iconst 0, 1) := by decide +kernel
theorem dX10_mindsOf_1 : decode cX10_mindsOf 1 = .ok (.istore_n 2, 1) := by decide +kernel
theorem dX10_mindsOf_2 : decode cX10_mindsOf 2 = .ok (.iconst 0, 1) := by decide +kernel
theorem dX10_mindsOf_3 : decode cX10_mindsOf 3 = .ok (.istore_n 3, 1) := by decide +kernel
theorem dX10_mindsOf_4 : decode cX10_mindsOf 4 = .ok (.iload_n 3, 1) := by decide +kernel
theorem dX10_mindsOf_5 : decode cX10_mindsOf 5 = .ok (.iconst 4, 1) := by decide +kernel
theorem dX10_mindsOf_6 : decode cX10_mindsOf 6 = .ok (.if_icmp .ge 111, 3) := by decide +kernel
theorem dX10_mindsOf_9 : decode cX10_mindsOf 9 = .ok (.iconst 1, 1) := by decide +kernel
theorem dX10_mindsOf_10 : decode cX10_mindsOf 10 = .ok (.istore 4, 2) := by decide +kernel
theorem dX10_mindsOf_12 : decode cX10_mindsOf 12 = .ok (.iconst 0, 1) := by decide +kernel
theorem dX10_mindsOf_13 : decode cX10_mindsOf 13 = .ok (.istore 5, 2) := by decide +kernel
theorem dX10_mindsOf_15 : decode cX10_mindsOf 15 = .ok (.iload 5, 2) := by decide +kernel
theorem dX10_mindsOf_17 : decode cX10_mindsOf 17 = .ok (.aload_n 0, 1) := by decide +kernel
theorem dX10_mindsOf_18 : decode cX10_mindsOf 18 = .ok (.getfield 94, 3) := by decide +kernel
theorem dX10_mindsOf_21 : decode cX10_mindsOf 21 = .ok (.if_icmp .ge 75, 3) := by decide +kernel
theorem dX10_mindsOf_24 : decode cX10_mindsOf 24 = .ok (.iload 4, 2) := by decide +kernel
theorem dX10_mindsOf_26 : decode cX10_mindsOf 26 = .ok (.ifCond .eq 61, 3) := by decide +kernel
theorem dX10_mindsOf_29 : decode cX10_mindsOf 29 = .ok (.aload_n 0, 1) := by decide +kernel
theorem dX10_mindsOf_30 : decode cX10_mindsOf 30 = .ok (.getfield 31, 3) := by decide +kernel
theorem dX10_mindsOf_33 : decode cX10_mindsOf 33 = .ok (.iconst 4, 1) := by decide +kernel
theorem dX10_mindsOf_34 : decode cX10_mindsOf 34 = .ok (.iload 5, 2) := by decide +kernel
theorem dX10_mindsOf_36 : decode cX10_mindsOf 36 = .ok (.imul, 1) := by decide +kernel
theorem dX10_mindsOf_37 : decode cX10_mindsOf 37 = .ok (.iaload, 1) := by decide +kernel
theorem dX10_mindsOf_38 : decode cX10_mindsOf 38 = .ok (.iload_n 1, 1) := by decide +kernel
theorem dX10_mindsOf_39 : decode cX10_mindsOf 39 = .ok (.if_icmp .ne 44, 3) := by decide +kernel
theorem dX10_mindsOf_42 : decode cX10_mindsOf 42 = .ok (.aload_n 0, 1) := by decide +kernel
theorem dX10_mindsOf_43 : decode cX10_mindsOf 43 = .ok (.aload_n 0, 1) := by decide +kernel
theorem dX10_mindsOf_44 : decode cX10_mindsOf 44 = .ok (.getfield 31, 3) := by decide +kernel
theorem dX10_mindsOf_47 : decode cX10_mindsOf 47 = .ok (.iconst 4, 1) := by decide +kernel
theorem dX10_mindsOf_48 : decode cX10_mindsOf 48 = .ok (.iload 5, 2) := by decide +kernel
theorem dX10_mindsOf_50 : decode cX10_mindsOf 50 = .ok (.imul, 1) := by decide +kernel
theorem dX10_mindsOf_51 : decode cX10_mindsOf 51 = .ok (.iconst 1, 1) := by decide +kernel
theorem dX10_mindsOf_52 : decode cX10_mindsOf 52 = .ok (.iadd, 1) := by decide +kernel
theorem dX10_mindsOf_53 : decode cX10_mindsOf 53 = .ok (.iaload, 1) := by decide +kernel
theorem dX10_mindsOf_54 : decode cX10_mindsOf 54 = .ok (.aload_n 0, 1) := by decide +kernel
theorem dX10_mindsOf_55 : decode cX10_mindsOf 55 = .ok (.getfield 31, 3) := by decide +kernel
theorem dX10_mindsOf_58 : decode cX10_mindsOf 58 = .ok (.iconst 4, 1) := by decide +kernel
theorem dX10_mindsOf_59 : decode cX10_mindsOf 59 = .ok (.iload 5, 2) := by decide +kernel
theorem dX10_mindsOf_61 : decode cX10_mindsOf 61 = .ok (.imul, 1) := by decide +kernel
theorem dX10_mindsOf_62 : decode cX10_mindsOf 62 = .ok (.iconst 2, 1) := by decide +kernel
theorem dX10_mindsOf_63 : decode cX10_mindsOf 63 = .ok (.iadd, 1) := by decide +kernel
theorem dX10_mindsOf_64 : decode cX10_mindsOf 64 = .ok (.iaload, 1) := by decide +kernel
theorem dX10_mindsOf_65 : decode cX10_mindsOf 65 = .ok (.iload_n 3, 1) := by decide +kernel
theorem dX10_mindsOf_66 : decode cX10_mindsOf 66 = .ok (.invokevirtual 157, 3) := by decide +kernel
theorem dX10_mindsOf_69 : decode cX10_mindsOf 69 = .ok (.aload_n 0, 1) := by decide +kernel
theorem dX10_mindsOf_70 : decode cX10_mindsOf 70 = .ok (.getfield 31, 3) := by decide +kernel
theorem dX10_mindsOf_73 : decode cX10_mindsOf 73 = .ok (.iconst 4, 1) := by decide +kernel
theorem dX10_mindsOf_74 : decode cX10_mindsOf 74 = .ok (.iload 5, 2) := by decide +kernel
theorem dX10_mindsOf_76 : decode cX10_mindsOf 76 = .ok (.imul, 1) := by decide +kernel
theorem dX10_mindsOf_77 : decode cX10_mindsOf 77 = .ok (.iconst 3, 1) := by decide +kernel
theorem dX10_mindsOf_78 : decode cX10_mindsOf 78 = .ok (.iadd, 1) := by decide +kernel
theorem dX10_mindsOf_79 : decode cX10_mindsOf 79 = .ok (.iaload, 1) := by decide +kernel
theorem dX10_mindsOf_80 : decode cX10_mindsOf 80 = .ok (.if_icmp .ne 7, 3) := by decide +kernel
theorem dX10_mindsOf_83 : decode cX10_mindsOf 83 = .ok (.iconst 1, 1) := by decide +kernel
theorem dX10_mindsOf_84 : decode cX10_mindsOf 84 = .ok (.goto 4, 3) := by decide +kernel
theorem dX10_mindsOf_87 : decode cX10_mindsOf 87 = .ok (.iconst 0, 1) := by decide +kernel
theorem dX10_mindsOf_88 : decode cX10_mindsOf 88 = .ok (.istore 4, 2) := by decide +kernel
theorem dX10_mindsOf_90 : decode cX10_mindsOf 90 = .ok (.iinc 5 1, 3) := by decide +kernel
theorem dX10_mindsOf_93 : decode cX10_mindsOf 93 = .ok (.goto (-78), 3) := by decide +kernel
theorem dX10_mindsOf_96 : decode cX10_mindsOf 96 = .ok (.iload_n 2, 1) := by decide +kernel
theorem dX10_mindsOf_97 : decode cX10_mindsOf 97 = .ok (.iload 4, 2) := by decide +kernel
theorem dX10_mindsOf_99 : decode cX10_mindsOf 99 = .ok (.ifCond .eq 9, 3) := by decide +kernel
theorem dX10_mindsOf_102 : decode cX10_mindsOf 102 = .ok (.iconst 1, 1) := by decide +kernel
theorem dX10_mindsOf_103 : decode cX10_mindsOf 103 = .ok (.iload_n 3, 1) := by decide +kernel
theorem dX10_mindsOf_104 : decode cX10_mindsOf 104 = .ok (.ishl, 1) := by decide +kernel
theorem dX10_mindsOf_105 : decode cX10_mindsOf 105 = .ok (.goto 4, 3) := by decide +kernel
theorem dX10_mindsOf_108 : decode cX10_mindsOf 108 = .ok (.iconst 0, 1) := by decide +kernel
theorem dX10_mindsOf_109 : decode cX10_mindsOf 109 = .ok (.ior, 1) := by decide +kernel
theorem dX10_mindsOf_110 : decode cX10_mindsOf 110 = .ok (.istore_n 2, 1) := by decide +kernel
theorem dX10_mindsOf_111 : decode cX10_mindsOf 111 = .ok (.iinc 3 1, 3) := by decide +kernel
theorem dX10_mindsOf_114 : decode cX10_mindsOf 114 = .ok (.goto (-110), 3) := by decide +kernel
theorem dX10_mindsOf_117 : decode cX10_mindsOf 117 = .ok (.iload_n 2, 1) := by decide +kernel
theorem dX10_mindsOf_118 : decode cX10_mindsOf 118 = .ok (.ireturn, 1) := by decide +kernel
set_option maxRecDepth 20000 in
theorem ggX10_askOf_X10_mindsOf : GoodIn wsX10_askOf wsX10_mindsOf := goodIn_r _ [5, 6, 7, 8, 9, 10, 4, 11, 12, 13, 14, 15, 16, 25, 26, 27, 28, 29, 30, 31, 32, 33, 34, 35, 36, 37, 38, 39, 40, 41, 42, 43, 44, 45, 46, 47, 48, 49, 50] (by decide +kernel) (by decide +kernel)
set_option maxRecDepth 20000 in
theorem gX10_askOf_X10_mindsOf : GoodIn wsX10_askOf (wsV RX10 129 RX10 yX10_mindsOf wsX10_mindsOf) := goodIn_app (goodIn_of _ (by decide +kernel)) ggX10_askOf_X10_mindsOf
set_option maxRecDepth 20000 in
theorem ggX10_askOf_X10_isSinger : GoodIn wsX10_askOf wsX10_isSinger := goodIn_r _ [20, 21, 22, 23, 4, 24, 25, 26, 27, 28, 29, 30, 31, 32, 33, 34, 35, 36, 37, 38, 39, 40, 41, 42, 43, 44, 45, 46, 47, 48, 49, 50] (by decide +kernel) (by decide +kernel)
set_option maxRecDepth 20000 in
theorem gX10_askOf_X10_isSinger : GoodIn wsX10_askOf (wsV RX10 121 RX10 yX10_isSinger wsX10_isSinger) := goodIn_app (goodIn_of _ (by decide +kernel)) ggX10_askOf_X10_isSinger
set_option maxRecDepth 20000 in
theorem ggX10_askOf_X10_isMore : GoodIn wsX10_askOf wsX10_isMore := goodIn_r _ [11, 12, 13, 14, 4, 15, 16, 25, 26, 27, 28, 29, 30, 31, 32, 33, 34, 35, 36, 37, 38, 39, 40, 41, 42, 43, 44, 45, 46, 47, 48, 49, 50] (by decide +kernel) (by decide +kernel)
set_option maxRecDepth 20000 in
theorem gX10_askOf_X10_isMore : GoodIn wsX10_askOf (wsV RX10 157 RX10 yX10_isMore wsX10_isMore) := goodIn_app (goodIn_of _ (by decide +kernel)) ggX10_askOf_X10_isMore
theorem dX10_askOf_0 : decode cX10_askOf 0 = .ok (.aload_n 0, 1) := by decide +kernel
theorem dX10_askOf_1 : decode cX10_askOf 1 = .ok (.iload_n 1, 1) := by decide +kernel
theorem dX10_askOf_2 : decode cX10_askOf 2 = .ok (.invokevirtual 129, 3) := by decide +kernel
theorem dX10_askOf_5 : decode cX10_askOf 5 = .ok (.istore_n 2, 1) := by decide +kernel
theorem dX10_askOf_6 : decode cX10_askOf 6 = .ok (.iconst (-1), 1) := by decide +kernel
theorem dX10_askOf_7 : decode cX10_askOf 7 = .ok (.istore_n 3, 1) := by decide +kernel
theorem dX10_askOf_8 : decode cX10_askOf 8 = .ok (.iconst 5, 1) := by decide +kernel
theorem dX10_askOf_9 : decode cX10_askOf 9 = .ok (.istore 4, 2) := by decide +kernel
theorem dX10_askOf_11 : decode cX10_askOf 11 = .ok (.iconst 0, 1) := by decide +kernel
theorem dX10_askOf_12 : decode cX10_askOf 12 = .ok (.istore 5, 2) := by decide +kernel
theorem dX10_askOf_14 : decode cX10_askOf 14 = .ok (.iload 5, 2) := by decide +kernel
theorem dX10_askOf_16 : decode cX10_askOf 16 = .ok (.bipush 16, 2) := by decide +kernel
theorem dX10_askOf_18 : decode cX10_askOf 18 = .ok (.if_icmp .ge 156, 3) := by decide +kernel
theorem dX10_askOf_21 : decode cX10_askOf 21 = .ok (.iload_n 2, 1) := by decide +kernel
theorem dX10_askOf_22 : decode cX10_askOf 22 = .ok (.ifCond .eq 152, 3) := by decide +kernel
theorem dX10_askOf_25 : decode cX10_askOf 25 = .ok (.iload 5, 2) := by decide +kernel
theorem dX10_askOf_27 : decode cX10_askOf 27 = .ok (.iconst 4, 1) := by decide +kernel
theorem dX10_askOf_28 : decode cX10_askOf 28 = .ok (.idiv, 1) := by decide +kernel
theorem dX10_askOf_29 : decode cX10_askOf 29 = .ok (.istore 6, 2) := by decide +kernel
theorem dX10_askOf_31 : decode cX10_askOf 31 = .ok (.iload 5, 2) := by decide +kernel
theorem dX10_askOf_33 : decode cX10_askOf 33 = .ok (.iconst 4, 1) := by decide +kernel
theorem dX10_askOf_34 : decode cX10_askOf 34 = .ok (.irem, 1) := by decide +kernel
theorem dX10_askOf_35 : decode cX10_askOf 35 = .ok (.istore 7, 2) := by decide +kernel
theorem dX10_askOf_37 : decode cX10_askOf 37 = .ok (.iload 6, 2) := by decide +kernel
theorem dX10_askOf_39 : decode cX10_askOf 39 = .ok (.iload 7, 2) := by decide +kernel
theorem dX10_askOf_41 : decode cX10_askOf 41 = .ok (.if_icmp .eq 127, 3) := by decide +kernel
theorem dX10_askOf_44 : decode cX10_askOf 44 = .ok (.aload_n 0, 1) := by decide +kernel
theorem dX10_askOf_45 : decode cX10_askOf 45 = .ok (.iload 6, 2) := by decide +kernel
theorem dX10_askOf_47 : decode cX10_askOf 47 = .ok (.invokevirtual 121, 3) := by decide +kernel
theorem dX10_askOf_50 : decode cX10_askOf 50 = .ok (.ifCond .eq 118, 3) := by decide +kernel
theorem dX10_askOf_53 : decode cX10_askOf 53 = .ok (.aload_n 0, 1) := by decide +kernel
theorem dX10_askOf_54 : decode cX10_askOf 54 = .ok (.iload 7, 2) := by decide +kernel
theorem dX10_askOf_56 : decode cX10_askOf 56 = .ok (.invokevirtual 121, 3) := by decide +kernel
theorem dX10_askOf_59 : decode cX10_askOf 59 = .ok (.ifCond .eq 109, 3) := by decide +kernel
theorem dX10_askOf_62 : decode cX10_askOf 62 = .ok (.iconst 0, 1) := by decide +kernel
theorem dX10_askOf_63 : decode cX10_askOf 63 = .ok (.istore 8, 2) := by decide +kernel
theorem dX10_askOf_65 : decode cX10_askOf 65 = .ok (.iconst 0, 1) := by decide +kernel
theorem dX10_askOf_66 : decode cX10_askOf 66 = .ok (.istore 9, 2) := by decide +kernel
theorem dX10_askOf_68 : decode cX10_askOf 68 = .ok (.iconst 0, 1) := by decide +kernel
theorem dX10_askOf_69 : decode cX10_askOf 69 = .ok (.istore 10, 2) := by decide +kernel
theorem dX10_askOf_71 : decode cX10_askOf 71 = .ok (.iload 10, 2) := by decide +kernel
theorem dX10_askOf_73 : decode cX10_askOf 73 = .ok (.iconst 4, 1) := by decide +kernel
theorem dX10_askOf_74 : decode cX10_askOf 74 = .ok (.if_icmp .ge 42, 3) := by decide +kernel
theorem dX10_askOf_77 : decode cX10_askOf 77 = .ok (.iload_n 2, 1) := by decide +kernel
theorem dX10_askOf_78 : decode cX10_askOf 78 = .ok (.iload 10, 2) := by decide +kernel
theorem dX10_askOf_80 : decode cX10_askOf 80 = .ok (.ishr, 1) := by decide +kernel
theorem dX10_askOf_81 : decode cX10_askOf 81 = .ok (.iconst 1, 1) := by decide +kernel
theorem dX10_askOf_82 : decode cX10_askOf 82 = .ok (.iand, 1) := by decide +kernel
theorem dX10_askOf_83 : decode cX10_askOf 83 = .ok (.istore 11, 2) := by decide +kernel
theorem dX10_askOf_85 : decode cX10_askOf 85 = .ok (.iload 9, 2) := by decide +kernel
theorem dX10_askOf_87 : decode cX10_askOf 87 = .ok (.iload 11, 2) := by decide +kernel
theorem dX10_askOf_89 : decode cX10_askOf 89 = .ok (.iadd, 1) := by decide +kernel
theorem dX10_askOf_90 : decode cX10_askOf 90 = .ok (.istore 9, 2) := by decide +kernel
theorem dX10_askOf_92 : decode cX10_askOf 92 = .ok (.iload 8, 2) := by decide +kernel
theorem dX10_askOf_94 : decode cX10_askOf 94 = .ok (.iload 11, 2) := by decide +kernel
theorem dX10_askOf_96 : decode cX10_askOf 96 = .ok (.aload_n 0, 1) := by decide +kernel
theorem dX10_askOf_97 : decode cX10_askOf 97 = .ok (.iload 6, 2) := by decide +kernel
theorem dX10_askOf_99 : decode cX10_askOf 99 = .ok (.iload 7, 2) := by decide +kernel
theorem dX10_askOf_101 : decode cX10_askOf 101 = .ok (.iload 10, 2) := by decide +kernel
theorem dX10_askOf_103 : decode cX10_askOf 103 = .ok (.invokevirtual 157, 3) := by decide +kernel
theorem dX10_askOf_106 : decode cX10_askOf 106 = .ok (.imul, 1) := by decide +kernel
theorem dX10_askOf_107 : decode cX10_askOf 107 = .ok (.iadd, 1) := by decide +kernel
theorem dX10_askOf_108 : decode cX10_askOf 108 = .ok (.istore 8, 2) := by decide +kernel
theorem dX10_askOf_110 : decode cX10_askOf 110 = .ok (.iinc 10 1, 3) := by decide +kernel
theorem dX10_askOf_113 : decode cX10_askOf 113 = .ok (.goto (-42), 3) := by decide +kernel
theorem dX10_askOf_116 : decode cX10_askOf 116 = .ok (.iload 8, 2) := by decide +kernel
theorem dX10_askOf_118 : decode cX10_askOf 118 = .ok (.iload 9, 2) := by decide +kernel
theorem dX10_askOf_120 : decode cX10_askOf 120 = .ok (.iload 8, 2) := by decide +kernel
theorem dX10_askOf_122 : decode cX10_askOf 122 = .ok (.isub, 1) := by decide +kernel
theorem dX10_askOf_123 : decode cX10_askOf 123 = .ok (.if_icmp .le 8, 3) := by decide +kernel
theorem dX10_askOf_126 : decode cX10_askOf 126 = .ok (.iload 8, 2) := by decide +kernel
theorem dX10_askOf_128 : decode cX10_askOf 128 = .ok (.goto 8, 3) := by decide +kernel
theorem dX10_askOf_131 : decode cX10_askOf 131 = .ok (.iload 9, 2) := by decide +kernel
theorem dX10_askOf_133 : decode cX10_askOf 133 = .ok (.iload 8, 2) := by decide +kernel
theorem dX10_askOf_135 : decode cX10_askOf 135 = .ok (.isub, 1) := by decide +kernel
theorem dX10_askOf_136 : decode cX10_askOf 136 = .ok (.istore 10, 2) := by decide +kernel
