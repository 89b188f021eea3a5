theorem dX9_mayor_1 : decode cX9_mayor 1 = .ok (.getfield 41, 3) := by decide +kernel
theorem dX9_mayor_4 : decode cX9_mayor 4 = .ok (.invokevirtual 155, 3) := by decide +kernel
theorem dX9_mayor_7 : decode cX9_mayor 7 = .ok (.ifCond .eq 8, 3) := by decide +kernel
theorem dX9_mayor_10 : decode cX9_mayor 10 = .ok (.bipush (-103), 2) := by decide +kernel
theorem dX9_mayor_12 : decode cX9_mayor 12 = .ok (.goto 10, 3) := by decide +kernel
theorem dX9_mayor_15 : decode cX9_mayor 15 = .ok (.aload_n 0, 1) := by decide +kernel
theorem dX9_mayor_16 : decode cX9_mayor 16 = .ok (.getfield 41, 3) := by decide +kernel
theorem dX9_mayor_19 : decode cX9_mayor 19 = .ok (.invokevirtual 158, 3) := by decide +kernel
theorem dX9_mayor_22 : decode cX9_mayor 22 = .ok (.ireturn, 1) := by decide +kernel
set_option maxRecDepth 20000 in
theorem ggX9_need_X1_hasSinger : GoodIn wsX9_need wsX1_hasSinger := goodIn_r _ [8, 9, 129, 130, 131, 132, 133, 134, 135, 136, 137, 138] (by decide +kernel) (by decide +kernel)
set_option maxRecDepth 20000 in
theorem gX9_need_X1_hasSinger : GoodIn wsX9_need (wsV RX9 87 RX1 yX1_hasSinger wsX1_hasSinger) := goodIn_app (goodIn_of _ (by decide +kernel)) ggX9_need_X1_hasSinger
set_option maxRecDepth 20000 in
theorem ggX9_need_X9_pourLeast : GoodIn wsX9_need wsX9_pourLeast := goodIn_r _ [14, 15, 1, 16, 3, 17, 18, 19, 7, 20, 21, 22, 23, 24, 25, 26, 9, 27, 28, 29, 13, 30, 31, 32, 33, 34, 35, 36, 37, 38, 39, 40, 41, 42, 4, 5, 6, 8, 43, 44, 45, 46, 47, 48, 49, 50, 51, 52, 53, 54, 55, 56, 57, 58, 59, 60, 61, 62, 63, 64, 65, 66, 67, 68, 69, 70, 71, 72, 73, 74, 75, 76, 77, 78, 79, 80, 81, 82, 83, 84, 85, 86, 87, 88, 89, 90, 91, 92, 93, 94, 95, 96, 97, 98, 99, 100, 101, 102, 103, 104, 105, 106, 107, 108, 109, 110, 111, 112, 113, 114, 115, 116, 117, 118, 119, 120, 121, 122, 123, 124, 125, 126, 127, 128, 129, 130, 131, 132, 133, 134, 135, 136, 137, 138, 139, 140, 141, 142, 143] (by decide +kernel) (by decide +kernel)
set_option maxRecDepth 20000 in
theorem gX9_need_X9_pourLeast : GoodIn wsX9_need (wsV RX9 164 RX9 yX9_pourLeast wsX9_pourLeast) := goodIn_app (goodIn_of _ (by decide +kernel)) ggX9_need_X9_pourLeast
theorem dX9_need_0 : decode cX9_need 0 = .ok (.aload_n 0, 1) := by decide +kernel
theorem dX9_need_1 : decode cX9_need 1 = .ok (.getfield 41, 3) := by decide +kernel
theorem dX9_need_4 : decode cX9_need 4 = .ok (.iload_n 1, 1) := by decide +kernel
theorem dX9_need_5 : decode cX9_need 5 = .ok (.invokevirtual 87, 3) := by decide +kernel
theorem dX9_need_8 : decode cX9_need 8 = .ok (.ifCond .ne 6, 3) := by decide +kernel
theorem dX9_need_11 : decode cX9_need 11 = .ok (.bipush (-101), 2) := by decide +kernel
theorem dX9_need_13 : decode cX9_need 13 = .ok (.ireturn, 1) := by decide +kernel
theorem dX9_need_14 : decode cX9_need 14 = .ok (.iload_n 2, 1) := by decide +kernel
theorem dX9_need_15 : decode cX9_need 15 = .ok (.bipush 10, 2) := by decide +kernel
theorem dX9_need_17 : decode cX9_need 17 = .ok (.if_icmp .lt 13, 3) := by decide +kernel
theorem dX9_need_20 : decode cX9_need 20 = .ok (.iload_n 2, 1) := by decide +kernel
theorem dX9_need_21 : decode cX9_need 21 = .ok (.bipush 14, 2) := by decide +kernel
theorem dX9_need_23 : decode cX9_need 23 = .ok (.if_icmp .ge 7, 3) := by decide +kernel
theorem dX9_need_26 : decode cX9_need 26 = .ok (.iconst 1, 1) := by decide +kernel
theorem dX9_need_27 : decode cX9_need 27 = .ok (.goto 4, 3) := by decide +kernel
theorem dX9_need_30 : decode cX9_need 30 = .ok (.iconst 0, 1) := by decide +kernel
theorem dX9_need_31 : decode cX9_need 31 = .ok (.istore_n 3, 1) := by decide +kernel
theorem dX9_need_32 : decode cX9_need 32 = .ok (.iload_n 2, 1) := by decide +kernel
theorem dX9_need_33 : decode cX9_need 33 = .ok (.ifCond .eq 10, 3) := by decide +kernel
theorem dX9_need_36 : decode cX9_need 36 = .ok (.iload_n 3, 1) := by decide +kernel
theorem dX9_need_37 : decode cX9_need 37 = .ok (.ifCond .ne 6, 3) := by decide +kernel
theorem dX9_need_40 : decode cX9_need 40 = .ok (.bipush (-102), 2) := by decide +kernel
theorem dX9_need_42 : decode cX9_need 42 = .ok (.ireturn, 1) := by decide +kernel
theorem dX9_need_43 : decode cX9_need 43 = .ok (.aload_n 0, 1) := by decide +kernel
theorem dX9_need_44 : decode cX9_need 44 = .ok (.getfield 161, 3) := by decide +kernel
theorem dX9_need_47 : decode cX9_need 47 = .ok (.bipush 20, 2) := by decide +kernel
theorem dX9_need_49 : decode cX9_need 49 = .ok (.if_icmp .lt 6, 3) := by decide +kernel
theorem dX9_need_52 : decode cX9_need 52 = .ok (.bipush (-103), 2) := by decide +kernel
theorem dX9_need_54 : decode cX9_need 54 = .ok (.ireturn, 1) := by decide +kernel
theorem dX9_need_55 : decode cX9_need 55 = .ok (.aload_n 0, 1) := by decide +kernel
theorem dX9_need_56 : decode cX9_need 56 = .ok (.dup, 1) := by decide +kernel
theorem dX9_need_57 : decode cX9_need 57 = .ok (.getfield 161, 3) := by decide +kernel
theorem dX9_need_60 : decode cX9_need 60 = .ok (.iconst 1, 1) := by decide +kernel
theorem dX9_need_61 : decode cX9_need 61 = .ok (.iadd, 1) := by decide +kernel
theorem dX9_need_62 : decode cX9_need 62 = .ok (.putfield 161, 3) := by decide +kernel
theorem dX9_need_65 : decode cX9_need 65 = .ok (.aload_n 0, 1) := by decide +kernel
theorem dX9_need_66 : decode cX9_need 66 = .ok (.iload_n 1, 1) := by decide +kernel
theorem dX9_need_67 : decode cX9_need 67 = .ok (.invokevirtual 164, 3) := by decide +kernel
theorem dX9_need_70 : decode cX9_need 70 = .ok (.istore 4, 2) := by decide +kernel
theorem dX9_need_72 : decode cX9_need 72 = .ok (.iload 4, 2) := by decide +kernel
theorem dX9_need_74 : decode cX9_need 74 = .ok (.iconst (-1), 1) := by decide +kernel
theorem dX9_need_75 : decode cX9_need 75 = .ok (.if_icmp .eq 7, 3) := by decide +kernel
theorem dX9_need_78 : decode cX9_need 78 = .ok (.iload_n 3, 1) := by decide +kernel
theorem dX9_need_79 : decode cX9_need 79 = .ok (.ifCond .ne 6, 3) := by decide +kernel
theorem dX9_need_82 : decode cX9_need 82 = .ok (.iload 4, 2) := by decide +kernel
theorem dX9_need_84 : decode cX9_need 84 = .ok (.ireturn, 1) := by decide +kernel
theorem dX9_need_85 : decode cX9_need 85 = .ok (.iload_n 2, 1) := by decide +kernel
theorem dX9_need_86 : decode cX9_need 86 = .ok (.bipush 10, 2) := by decide +kernel
theorem dX9_need_88 : decode cX9_need 88 = .ok (.isub, 1) := by decide +kernel
theorem dX9_need_89 : decode cX9_need 89 = .ok (.istore 5, 2) := by decide +kernel
theorem dX9_need_91 : decode cX9_need 91 = .ok (.aload_n 0, 1) := by decide +kernel
theorem dX9_need_92 : decode cX9_need 92 = .ok (.getfield 41, 3) := by decide +kernel
theorem dX9_need_95 : decode cX9_need 95 = .ok (.iload 5, 2) := by decide +kernel
theorem dX9_need_97 : decode cX9_need 97 = .ok (.invokevirtual 87, 3) := by decide +kernel
theorem dX9_need_100 : decode cX9_need 100 = .ok (.ifCond .eq 13, 3) := by decide +kernel
theorem dX9_need_103 : decode cX9_need 103 = .ok (.aload_n 0, 1) := by decide +kernel
theorem dX9_need_104 : decode cX9_need 104 = .ok (.getfield 30, 3) := by decide +kernel
theorem dX9_need_107 : decode cX9_need 107 = .ok (.iload 5, 2) := by decide +kernel
theorem dX9_need_109 : decode cX9_need 109 = .ok (.iaload, 1) := by decide +kernel
theorem dX9_need_110 : decode cX9_need 110 = .ok (.goto 4, 3) := by decide +kernel
theorem dX9_need_113 : decode cX9_need 113 = .ok (.iconst (-1), 1) := by decide +kernel
theorem dX9_need_114 : decode cX9_need 114 = .ok (.ireturn, 1) := by decide +kernel
set_option maxRecDepth 20000 in
theorem ggX9_hear_X1_hasWidow : GoodIn wsX9_hear wsX1_hasWidow := goodIn_r _ [7, 8, 40, 41, 42, 43, 44, 45, 46, 47, 48, 49] (by decide +kernel) (by decide +kernel)
set_option maxRecDepth 20000 in
theorem gX9_hear_X1_hasWidow : GoodIn wsX9_hear (wsV RX9 123 RX1 yX1_hasWidow wsX1_hasWidow) := goodIn_app (goodIn_of _ (by decide +kernel)) ggX9_hear_X1_hasWidow
set_option maxRecDepth 20000 in
theorem ggX9_hear_X1_hasSinger : GoodIn wsX9_hear wsX1_hasSinger := goodIn_r _ [12, 13, 40, 41, 42, 43, 44, 45, 46, 47, 48, 49] (by decide +kernel) (by decide +kernel)
set_option maxRecDepth 20000 in
theorem gX9_hear_X1_hasSinger : GoodIn wsX9_hear (wsV RX9 87 RX1 yX1_hasSinger wsX1_hasSinger) := goodIn_app (goodIn_of _ (by decide +kernel)) ggX9_hear_X1_hasSinger
set_option maxRecDepth 20000 in
theorem ggX9_hear_X4_add : GoodIn wsX9_hear wsX4_add := goodIn_r _ [18, 19, 20, 21, 22, 23, 35, 36, 37, 38, 39] (by decide +kernel) (by decide +kernel)
set_option maxRecDepth 20000 in
theorem gX9_hear_X4_add : GoodIn wsX9_hear (wsV RX9 167 RX4 yX4_add wsX4_add) := goodIn_app (goodIn_of _ (by decide +kernel)) ggX9_hear_X4_add
theorem dX9_hear_0 : decode cX9_hear 0 = .ok (.aload_n 0, 1) := by decide +kernel
theorem dX9_hear_1 : decode cX9_hear 1 = .ok (.getfield 41, 3) := by decide +kernel
theorem dX9_hear_4 : decode cX9_hear 4 = .ok (.iload_n 1, 1) := by decide +kernel
theorem dX9_hear_5 : decode cX9_hear 5 = .ok (.invokevirtual 123, 3) := by decide +kernel
theorem dX9_hear_8 : decode cX9_hear 8 = .ok (.ifCond .eq 30, 3) := by decide +kernel
theorem dX9_hear_11 : decode cX9_hear 11 = .ok (.aload_n 0, 1) := by decide +kernel
theorem dX9_hear_12 : decode cX9_hear 12 = .ok (.getfield 41, 3) := by decide +kernel
theorem dX9_hear_15 : decode cX9_hear 15 = .ok (.iload_n 2, 1) := by decide +kernel
theorem dX9_hear_16 : decode cX9_hear 16 = .ok (.invokevirtual 87, 3) := by decide +kernel
theorem dX9_hear_19 : decode cX9_hear 19 = .ok (.ifCond .eq 19, 3) := by decide +kernel
theorem dX9_hear_22 : decode cX9_hear 22 = .ok (.aload_n 0, 1) := by decide +kernel
theorem dX9_hear_23 : decode cX9_hear 23 = .ok (.getfield 41, 3) := by decide +kernel
theorem dX9_hear_26 : decode cX9_hear 26 = .ok (.iload_n 3, 1) := by decide +kernel
theorem dX9_hear_27 : decode cX9_hear 27 = .ok (.invokevirtual 87, 3) := by decide +kernel
theorem dX9_hear_30 : decode cX9_hear 30 = .ok (.ifCond .eq 8, 3) := by decide +kernel
theorem dX9_hear_33 : decode cX9_hear 33 = .ok (.iload_n 2, 1) := by decide +kernel
theorem dX9_hear_34 : decode cX9_hear 34 = .ok (.iload_n 3, 1) := by decide +kernel
theorem dX9_hear_35 : decode cX9_hear 35 = .ok (.if_icmp .ne 6, 3) := by decide +kernel
theorem dX9_hear_38 : decode cX9_hear 38 = .ok (.bipush (-101), 2) := by decide +kernel
theorem dX9_hear_40 : decode cX9_hear 40 = .ok (.ireturn, 1) := by decide +kernel
theorem dX9_hear_41 : decode cX9_hear 41 = .ok (.aload_n 0, 1) := by decide +kernel
theorem dX9_hear_42 : decode cX9_hear 42 = .ok (.getfield 19, 3) := by decide +kernel
theorem dX9_hear_45 : decode cX9_hear 45 = .ok (.iload_n 1, 1) := by decide +kernel
theorem dX9_hear_46 : decode cX9_hear 46 = .ok (.iload_n 2, 1) := by decide +kernel
theorem dX9_hear_47 : decode cX9_hear 47 = .ok (.iload_n 3, 1) := by decide +kernel
theorem dX9_hear_48 : decode cX9_hear 48 = .ok (.iload 4, 2) := by decide +kernel
theorem dX9_hear_50 : decode cX9_hear 50 = .ok (.invokevirtual 167, 3) := by decide +kernel
theorem dX9_hear_53 : decode cX9_hear 53 = .ok (.ifCond .eq 13, 3) := by decide +kernel
theorem dX9_hear_56 : decode cX9_hear 56 = .ok (.aload_n 0, 1) := by decide +kernel
theorem dX9_hear_57 : decode cX9_hear 57 = .ok (.getfield 19, 3) := by decide +kernel
theorem dX9_hear_60 : decode cX9_hear 60 = .ok (.getfield 171, 3) := by decide +kernel
theorem dX9_hear_63 : decode cX9_hear 63 = .ok (.goto 5, 3) := by decide +kernel
theorem dX9_hear_66 : decode cX9_hear 66 = .ok (.bipush (-104), 2) := by decide +kernel
theorem dX9_hear_68 : decode cX9_hear 68 = .ok (.ireturn, 1) := by decide +kernel
set_option maxRecDepth 20000 in
theorem ggX9_forget_X4_clear : GoodIn wsX9_forget wsX4_clear := goodIn_r _ [6, 7, 19, 20, 21, 22, 23] (by decide +kernel) (by decide +kernel)
set_option maxRecDepth 20000 in
theorem gX9_forget_X4_clear : GoodIn wsX9_forget (wsV RX9 74 RX4 yX4_clear wsX4_clear) := goodIn_app (goodIn_of _ (by decide +kernel)) ggX9_forget_X4_clear
theorem dX9_forget_0 : decode cX9_forget 0 = .ok (.aload_n 0, 1) := by decide +kernel
theorem dX9_forget_1 : decode cX9_forget 1 = .ok (.getfield 19, 3) := by decide +kernel
theorem dX9_forget_4 : decode cX9_forget 4 = .ok (.invokevirtual 74, 3) := by decide +kernel
theorem dX9_forget_7 : decode cX9_forget 7 = .ok (.ireturn, 1) := by decide +kernel
set_option maxRecDepth 20000 in
theorem ggX9_years_X1_isEmpty : GoodIn wsX9_years wsX1_isEmpty := goodIn_r _ [7, 8, 151, 152, 153, 154, 155, 156, 157, 158, 159, 160] (by decide +kernel) (by decide +kernel)
set_option maxRecDepth 20000 in
theorem gX9_years_X1_isEmpty : GoodIn wsX9_years (wsV RX9 155 RX1 yX1_isEmpty wsX1_isEmpty) := goodIn_app (goodIn_of _ (by decide +kernel)) ggX9_years_X1_isEmpty
set_option maxRecDepth 20000 in
theorem ggX9_years_X1_takeFrom : GoodIn wsX9_years wsX1_takeFrom := goodIn_r _ [12, 13, 14, 15, 16, 17, 18, 8, 19, 20, 21, 22, 23, 24, 25, 26, 27, 28, 29, 30, 31, 151, 152, 153, 154, 155, 156, 157, 158, 159, 160] (by decide +kernel) (by decide +kernel)
set_option maxRecDepth 20000 in
theorem gX9_years_X1_takeFrom : GoodIn wsX9_years (wsV RX9 174 RX1 yX1_takeFrom wsX1_takeFrom) := goodIn_app (goodIn_of _ (by decide +kernel)) ggX9_years_X1_takeFrom
set_option maxRecDepth 20000 in
theorem ggX9_years_X9_nextSeed : GoodIn wsX9_years wsX9_nextSeed := goodIn_r _ [34, 35, 36, 37] (by decide +kernel) (by decide +kernel)
set_option maxRecDepth 20000 in
theorem gX9_years_X9_nextSeed : GoodIn wsX9_years (va_wsS RX9 178 yX9_nextSeed wsX9_nextSeed) := goodIn_app (goodIn_of _ (by decide +kernel)) ggX9_years_X9_nextSeed
set_option maxRecDepth 20000 in
theorem ggX9_years_X9_drawn : GoodIn wsX9_years wsX9_drawn := goodIn_r _ [40, 41] (by decide +kernel) (by decide +kernel)
set_option maxRecDepth 20000 in
theorem gX9_years_X9_drawn : GoodIn wsX9_years (va_wsS RX9 181 yX9_drawn wsX9_drawn) := goodIn_app (goodIn_of _ (by decide +kernel)) ggX9_years_X9_drawn
set_option maxRecDepth 20000 in
theorem ggX9_years_X1_practiseWeek : GoodIn wsX9_years wsX1_practiseWeek := goodIn_r _ [45, 14, 20, 46, 47, 48, 6, 49, 8, 50, 51, 52, 53, 54, 13, 55, 56, 57, 58, 59, 60, 61, 62, 63, 64, 65, 66, 67, 68, 69, 70, 71, 72, 73, 74, 75, 76, 77, 78, 79, 151, 152, 153, 154, 155, 156, 157, 158, 159, 160, 161, 162, 163, 164, 165] (by decide +kernel) (by decide +kernel)
set_option maxRecDepth 20000 in
theorem gX9_years_X1_practiseWeek : GoodIn wsX9_years (wsV RX9 152 RX1 yX1_practiseWeek wsX1_practiseWeek) := goodIn_app (goodIn_of _ (by decide +kernel)) ggX9_years_X1_practiseWeek
set_option maxRecDepth 20000 in
theorem ggX9_years_X1_coldOf : GoodIn wsX9_years wsX1_coldOf := goodIn_r _ [83, 15, 46, 47, 48, 6, 49, 8, 151, 152, 153, 154, 155, 156, 157, 158, 159, 160] (by decide +kernel) (by decide +kernel)
set_option maxRecDepth 20000 in
theorem gX9_years_X1_coldOf : GoodIn wsX9_years (wsV RX9 103 RX1 yX1_coldOf wsX1_coldOf) := goodIn_app (goodIn_of _ (by decide +kernel)) ggX9_years_X1_coldOf
set_option maxRecDepth 20000 in
theorem ggX9_years_X1_setCold : GoodIn wsX9_years wsX1_setCold := goodIn_r _ [87, 15, 46, 47, 48, 6, 49, 8, 151, 152, 153, 154, 155, 156, 157, 158, 159, 160] (by decide +kernel) (by decide +kernel)
set_option maxRecDepth 20000 in
theorem gX9_years_X1_setCold : GoodIn wsX9_years (wsV RX9 141 RX1 yX1_setCold wsX1_setCold) := goodIn_app (goodIn_of _ (by decide +kernel)) ggX9_years_X1_setCold
set_option maxRecDepth 20000 in
theorem ggX9_years_X1_elected : GoodIn wsX9_years wsX1_elected := goodIn_r _ [91, 8, 92, 93, 94, 6, 95, 19, 96, 97, 98, 99, 100, 101, 102, 103, 18, 104, 105, 106, 107, 108, 109, 110, 111, 54, 13, 14, 15, 16, 17, 112, 113, 26, 114, 46, 47, 48, 49, 115, 116, 117, 55, 56, 57, 58, 59, 60, 61, 62, 63, 64, 118, 119, 120, 121, 122, 70, 123, 124, 125, 126, 127, 128, 129, 130, 131, 132, 133, 134, 135, 75, 136, 137, 138, 139, 151, 152, 153, 154, 155, 156, 157, 158, 159, 160, 161, 162, 163, 164, 165] (by decide +kernel) (by decide +kernel)
set_option maxRecDepth 20000 in
theorem gX9_years_X1_elected : GoodIn wsX9_years (wsV RX9 158 RX1 yX1_elected wsX1_elected) := goodIn_app (goodIn_of _ (by decide +kernel)) ggX9_years_X1_elected
theorem dX9_years_0 : decode cX9_years 0 = .ok (.iload_n 1, 1) := by decide +kernel
theorem dX9_years_1 : decode cX9_years 1 = .ok (.iconst 1, 1) := by decide +kernel
theorem dX9_years_2 : decode cX9_years 2 = .ok (.if_icmp .lt 22, 3) := by decide +kernel
theorem dX9_years_5 : decode cX9_years 5 = .ok (.iload_n 1, 1) := by decide +kernel
theorem dX9_years_6 : decode cX9_years 6 = .ok (.bipush 60, 2) := by decide +kernel
theorem dX9_years_8 : decode cX9_years 8 = .ok (.if_icmp .gt 16, 3) := by decide +kernel
theorem dX9_years_11 : decode cX9_years 11 = .ok (.iload_n 2, 1) := by decide +kernel
theorem dX9_years_12 : decode cX9_years 12 = .ok (.ifCond .lt 12, 3) := by decide +kernel
theorem dX9_years_15 : decode cX9_years 15 = .ok (.iload_n 3, 1) := by decide +kernel
theorem dX9_years_16 : decode cX9_years 16 = .ok (.ifCond .lt 8, 3) := by decide +kernel
theorem dX9_years_19 : decode cX9_years 19 = .ok (.iload_n 3, 1) := by decide +kernel
theorem dX9_years_20 : decode cX9_years 20 = .ok (.iconst 3, 1) := by decide +kernel
theorem dX9_years_21 : decode cX9_years 21 = .ok (.if_icmp .lt 6, 3) := by decide +kernel
theorem dX9_years_24 : decode cX9_years 24 = .ok (.bipush (-102), 2) := by decide +kernel
theorem dX9_years_26 : decode cX9_years 26 = .ok (.ireturn, 1) := by decide +kernel
theorem dX9_years_27 : decode cX9_years 27 = .ok (.aload_n 0, 1) := by decide +kernel
theorem dX9_years_28 : decode cX9_years 28 = .ok (.getfield 41, 3) := by decide +kernel
theorem dX9_years_31 : decode cX9_years 31 = .ok (.invokevirtual 155, 3) := by decide +kernel
theorem dX9_years_34 : decode cX9_years 34 = .ok (.ifCond .eq 6, 3) := by decide +kernel
theorem dX9_years_37 : decode cX9_years 37 = .ok (.bipush (-103), 2) := by decide +kernel
theorem dX9_years_39 : decode cX9_years 39 = .ok (.ireturn, 1) := by decide +kernel
theorem dX9_years_40 : decode cX9_years 40 = .ok (.aload_n 0, 1) := by decide +kernel
theorem dX9_years_41 : decode cX9_years 41 = .ok (.getfield 48, 3) := by decide +kernel
theorem dX9_years_44 : decode cX9_years 44 = .ok (.aload_n 0, 1) := by decide +kernel
theorem dX9_years_45 : decode cX9_years 45 = .ok (.getfield 41, 3) := by decide +kernel
theorem dX9_years_48 : decode cX9_years 48 = .ok (.invokevirtual 174, 3) := by decide +kernel
theorem dX9_years_51 : decode cX9_years 51 = .ok (.iload_n 2, 1) := by decide +kernel
theorem dX9_years_52 : decode cX9_years 52 = .ok (.istore 4, 2) := by decide +kernel
theorem dX9_years_54 : decode cX9_years 54 = .ok (.iconst 0, 1) := by decide +kernel
theorem dX9_years_55 : decode cX9_years 55 = .ok (.istore 5, 2) := by decide +kernel
theorem dX9_years_57 : decode cX9_years 57 = .ok (.iconst (-1), 1) := by decide +kernel
theorem dX9_years_58 : decode cX9_years 58 = .ok (.istore 6, 2) := by decide +kernel
theorem dX9_years_60 : decode cX9_years 60 = .ok (.iconst 0, 1) := by decide +kernel
theorem dX9_years_61 : decode cX9_years 61 = .ok (.istore 7, 2) := by decide +kernel
theorem dX9_years_63 : decode cX9_years 63 = .ok (.iload 7, 2) := by decide +kernel
theorem dX9_years_65 : decode cX9_years 65 = .ok (.iload_n 1, 1) := by decide +kernel
theorem dX9_years_66 : decode cX9_years 66 = .ok (.if_icmp .ge 107, 3) := by decide +kernel
theorem dX9_years_69 : decode cX9_years 69 = .ok (.iload 4, 2) := by decide +kernel
theorem dX9_years_71 : decode cX9_years 71 = .ok (.invokestatic 178, 3) := by decide +kernel
theorem dX9_years_74 : decode cX9_years 74 = .ok (.istore 4, 2) := by decide +kernel
theorem dX9_years_76 : decode cX9_years 76 = .ok (.aload_n 0, 1) := by decide +kernel
theorem dX9_years_77 : decode cX9_years 77 = .ok (.getfield 48, 3) := by decide +kernel
theorem dX9_years_80 : decode cX9_years 80 = .ok (.iload 4, 2) := by decide +kernel
theorem dX9_years_82 : decode cX9_years 82 = .ok (.aload_n 0, 1) := by decide +kernel
theorem dX9_years_83 : decode cX9_years 83 = .ok (.getfield 41, 3) := by decide +kernel
theorem dX9_years_86 : decode cX9_years 86 = .ok (.getfield 84, 3) := by decide +kernel
theorem dX9_years_89 : decode cX9_years 89 = .ok (.invokestatic 181, 3) := by decide +kernel
theorem dX9_years_92 : decode cX9_years 92 = .ok (.invokevirtual 152, 3) := by decide +kernel
theorem dX9_years_95 : decode cX9_years 95 = .ok (.pop, 1) := by decide +kernel
theorem dX9_years_96 : decode cX9_years 96 = .ok (.iload 4, 2) := by decide +kernel
theorem dX9_years_98 : decode cX9_years 98 = .ok (.invokestatic 178, 3) := by decide +kernel
theorem dX9_years_101 : decode cX9_years 101 = .ok (.istore 4, 2) := by decide +kernel
theorem dX9_years_103 : decode cX9_years 103 = .ok (.iload 4, 2) := by decide +kernel
theorem dX9_years_105 : decode cX9_years 105 = .ok (.aload_n 0, 1) := by decide +kernel
theorem dX9_years_106 : decode cX9_years 106 = .ok (.getfield 41, 3) := by decide +kernel
theorem dX9_years_109 : decode cX9_years 109 = .ok (.getfield 84, 3) := by decide +kernel
theorem dX9_years_112 : decode cX9_years 112 = .ok (.invokestatic 181, 3) := by decide +kernel
theorem dX9_years_115 : decode cX9_years 115 = .ok (.istore 8, 2) := by decide +kernel
theorem dX9_years_117 : decode cX9_years 117 = .ok (.aload_n 0, 1) := by decide +kernel
theorem dX9_years_118 : decode cX9_years 118 = .ok (.getfield 48, 3) := by decide +kernel
theorem dX9_years_121 : decode cX9_years 121 = .ok (.iload 8, 2) := by decide +kernel
theorem dX9_years_123 : decode cX9_years 123 = .ok (.aload_n 0, 1) := by decide +kernel
theorem dX9_years_124 : decode cX9_years 124 = .ok (.getfield 48, 3) := by decide +kernel
theorem dX9_years_127 : decode cX9_years 127 = .ok (.iload 8, 2) := by decide +kernel
theorem dX9_years_129 : decode cX9_years 129 = .ok (.invokevirtual 103, 3) := by decide +kernel
theorem dX9_years_132 : decode cX9_years 132 = .ok (.ifCond .ne 7, 3) := by decide +kernel
theorem dX9_years_135 : decode cX9_years 135 = .ok (.iconst 1, 1) := by decide +kernel
theorem dX9_years_136 : decode cX9_years 136 = .ok (.goto 4, 3) := by decide +kernel
theorem dX9_years_139 : decode cX9_years 139 = .ok (.iconst 0, 1) := by decide +kernel
theorem dX9_years_140 : decode cX9_years 140 = .ok (.invokevirtual 141, 3) := by decide +kernel
theorem dX9_years_143 : decode cX9_years 143 = .ok (.aload_n 0, 1) := by decide +kernel
theorem dX9_years_144 : decode cX9_years 144 = .ok (.getfield 48, 3) := by decide +kernel
theorem dX9_years_147 : decode cX9_years 147 = .ok (.invokevirtual 158, 3) := by decide +kernel
theorem dX9_years_150 : decode cX9_years 150 = .ok (.istore 6, 2) := by decide +kernel
theorem dX9_years_152 : decode cX9_years 152 = .ok (.iload 5, 2) := by decide +kernel
theorem dX9_years_154 : decode cX9_years 154 = .ok (.iload 6, 2) := by decide +kernel
theorem dX9_years_156 : decode cX9_years 156 = .ok (.ifCond .ne 7, 3) := by decide +kernel
theorem dX9_years_159 : decode cX9_years 159 = .ok (.iconst 1, 1) := by decide +kernel
theorem dX9_years_160 : decode cX9_years 160 = .ok (.goto 4, 3) := by decide +kernel
theorem dX9_years_163 : decode cX9_years 163 = .ok (.iconst 0, 1) := by decide +kernel
theorem dX9_years_164 : decode cX9_years 164 = .ok (.iadd, 1) := by decide +kernel
theorem dX9_years_165 : decode cX9_years 165 = .ok (.istore 5, 2) := by decide +kernel
theorem dX9_years_167 : decode cX9_years 167 = .ok (.iinc 7 1, 3) := by decide +kernel
theorem dX9_years_170 : decode cX9_years 170 = .ok (.goto (-107), 3) := by decide +kernel
theorem dX9_years_173 : decode cX9_years 173 = .ok (.iload_n 3, 1) := by decide +kernel
theorem dX9_years_174 : decode cX9_years 174 = .ok (.lookupswitch 32 #[(0, 26), (1, 29)], 26) := by decide +kernel
theorem dX9_years_200 : decode cX9_years 200 = .ok (.iload 5, 2) := by decide +kernel
theorem dX9_years_202 : decode cX9_years 202 = .ok (.ireturn, 1) := by decide +kernel
theorem dX9_years_203 : decode cX9_years 203 = .ok (.iload 6, 2) := by decide +kernel
theorem dX9_years_205 : decode cX9_years 205 = .ok (.ireturn, 1) := by decide +kernel
theorem dX9_years_206 : decode cX9_years 206 = .ok (.iload 4, 2) := by decide +kernel
theorem dX9_years_208 : decode cX9_years 208 = .ok (.ireturn, 1) := by decide +kernel
set_option maxRecDepth 20000 in
theorem ggX9_image_X1_isEmpty : GoodIn wsX9_image wsX1_isEmpty := goodIn_r _ [10, 11, 56, 57, 58, 59, 60, 61, 62, 63, 64, 65] (by decide +kernel) (by decide +kernel)
set_option maxRecDepth 20000 in
theorem gX9_image_X1_isEmpty : GoodIn wsX9_image (wsV RX9 155 RX1 yX1_isEmpty wsX1_isEmpty) := goodIn_app (goodIn_of _ (by decide +kernel)) ggX9_image_X1_isEmpty
set_option maxRecDepth 20000 in
theorem ggX9_image_X1_takeFrom : GoodIn wsX9_image wsX1_takeFrom := goodIn_r _ [15, 16, 17, 18, 19, 20, 21, 11, 22, 23, 24, 25, 26, 27, 28, 29, 30, 31, 32, 33, 34, 56, 57, 58, 59, 60, 61, 62, 63, 64, 65] (by decide +kernel) (by decide +kernel)
set_option maxRecDepth 20000 in
theorem gX9_image_X1_takeFrom : GoodIn wsX9_image (wsV RX9 174 RX1 yX1_takeFrom wsX1_takeFrom) := goodIn_app (goodIn_of _ (by decide +kernel)) ggX9_image_X1_takeFrom
set_option maxRecDepth 20000 in
theorem ggX9_image_X4_takeFrom : GoodIn wsX9_image wsX4_takeFrom := goodIn_r _ [39, 40, 41, 42, 43, 44, 24, 25, 26, 27, 28, 29, 30, 31, 32, 33, 34, 66, 67, 68, 69, 70] (by decide +kernel) (by decide +kernel)
set_option maxRecDepth 20000 in
theorem gX9_image_X4_takeFrom : GoodIn wsX9_image (wsV RX9 184 RX4 yX4_takeFrom wsX4_takeFrom) := goodIn_app (goodIn_of _ (by decide +kernel)) ggX9_image_X4_takeFrom
theorem dX9_image_0 : decode cX9_image 0 = .ok (.aload_n 0, 1) := by decide +kernel
theorem dX9_image_1 : decode cX9_image 1 = .ok (.getfield 41, 3) := by decide +kernel
theorem dX9_image_4 : decode cX9_image 4 = .ok (.invokevirtual 155, 3) := by decide +kernel
theorem dX9_image_7 : decode cX9_image 7 = .ok (.ifCond .eq 6, 3) := by decide +kernel
theorem dX9_image_10 : decode cX9_image 10 = .ok (.bipush (-103), 2) := by decide +kernel
theorem dX9_image_12 : decode cX9_image 12 = .ok (.ireturn, 1) := by decide +kernel
theorem dX9_image_13 : decode cX9_image 13 = .ok (.aload_n 0, 1) := by decide +kernel
theorem dX9_image_14 : decode cX9_image 14 = .ok (.getfield 45, 3) := by decide +kernel
theorem dX9_image_17 : decode cX9_image 17 = .ok (.aload_n 0, 1) := by decide +kernel
theorem dX9_image_18 : decode cX9_image 18 = .ok (.getfield 41, 3) := by decide +kernel
theorem dX9_image_21 : decode cX9_image 21 = .ok (.invokevirtual 174, 3) := by decide +kernel
theorem dX9_image_24 : decode cX9_image 24 = .ok (.aload_n 0, 1) := by decide +kernel
theorem dX9_image_25 : decode cX9_image 25 = .ok (.getfield 23, 3) := by decide +kernel
theorem dX9_image_28 : decode cX9_image 28 = .ok (.aload_n 0, 1) := by decide +kernel
theorem dX9_image_29 : decode cX9_image 29 = .ok (.getfield 19, 3) := by decide +kernel
theorem dX9_image_32 : decode cX9_image 32 = .ok (.invokevirtual 184, 3) := by decide +kernel
theorem dX9_image_35 : decode cX9_image 35 = .ok (.aload_n 0, 1) := by decide +kernel
theorem dX9_image_36 : decode cX9_image 36 = .ok (.iconst 1, 1) := by decide +kernel
theorem dX9_image_37 : decode cX9_image 37 = .ok (.putfield 77, 3) := by decide +kernel
theorem dX9_image_40 : decode cX9_image 40 = .ok (.aload_n 0, 1) := by decide +kernel
theorem dX9_image_41 : decode cX9_image 41 = .ok (.getfield 41, 3) := by decide +kernel
theorem dX9_image_44 : decode cX9_image 44 = .ok (.getfield 187, 3) := by decide +kernel
theorem dX9_image_47 : decode cX9_image 47 = .ok (.ireturn, 1) := by decide +kernel
set_option maxRecDepth 20000 in
theorem ggX9_restore_X1_takeFrom : GoodIn wsX9_restore wsX1_takeFrom := goodIn_r _ [10, 11, 12, 13, 14, 15, 16, 17, 18, 19, 20, 21, 22, 23, 24, 25, 26, 27, 28, 29, 30, 52, 53, 54, 55, 56, 57, 58, 59, 60, 61] (by decide +kernel) (by decide +kernel)
set_option maxRecDepth 20000 in
theorem gX9_restore_X1_takeFrom : GoodIn wsX9_restore (wsV RX9 174 RX1 yX1_takeFrom wsX1_takeFrom) := goodIn_app (goodIn_of _ (by decide +kernel)) ggX9_restore_X1_takeFrom
set_option maxRecDepth 20000 in
theorem ggX9_restore_X4_takeFrom : GoodIn wsX9_restore wsX4_takeFrom := goodIn_r _ [35, 36, 37, 38, 39, 40, 20, 21, 22, 23, 24, 25, 26, 27, 28, 29, 30, 62, 63, 64, 65, 66] (by decide +kernel) (by decide +kernel)
set_option maxRecDepth 20000 in
theorem gX9_restore_X4_takeFrom : GoodIn wsX9_restore (wsV RX9 184 RX4 yX4_takeFrom wsX4_takeFrom) := goodIn_app (goodIn_of _ (by decide +kernel)) ggX9_restore_X4_takeFrom
theorem dX9_restore_0 : decode cX9_restore 0 = .ok (.aload_n 0, 1) := by decide +kernel
theorem dX9_restore_1 : decode cX9_restore 1 = .ok (.getfield 77, 3) := by decide +kernel
theorem dX9_restore_4 : decode cX9_restore 4 = .ok (.ifCond .ne 6, 3) := by decide +kernel
theorem dX9_restore_7 : decode cX9_restore 7 = .ok (.bipush (-103), 2) := by decide +kernel
theorem dX9_restore_9 : decode cX9_restore 9 = .ok (.ireturn, 1) := by decide +kernel
theorem dX9_restore_10 : decode cX9_restore 10 = .ok (.aload_n 0, 1) := by decide +kernel
theorem dX9_restore_11 : decode cX9_restore 11 = .ok (.getfield 41, 3) := by decide +kernel
theorem dX9_restore_14 : decode cX9_restore 14 = .ok (.aload_n 0, 1) := by decide +kernel
theorem dX9_restore_15 : decode cX9_restore 15 = .ok (.getfield 45, 3) := by decide +kernel
theorem dX9_restore_18 : decode cX9_restore 18 = .ok (.invokevirtual 174, 3) := by decide +kernel
theorem dX9_restore_21 : decode cX9_restore 21 = .ok (.aload_n 0, 1) := by decide +kernel
theorem dX9_restore_22 : decode cX9_restore 22 = .ok (.getfield 19, 3) := by decide +kernel
theorem dX9_restore_25 : decode cX9_restore 25 = .ok (.aload_n 0, 1) := by decide +kernel
theorem dX9_restore_26 : decode cX9_restore 26 = .ok (.getfield 23, 3) := by decide +kernel
theorem dX9_restore_29 : decode cX9_restore 29 = .ok (.invokevirtual 184, 3) := by decide +kernel
theorem dX9_restore_32 : decode cX9_restore 32 = .ok (.aload_n 0, 1) := by decide +kernel
theorem dX9_restore_33 : decode cX9_restore 33 = .ok (.getfield 41, 3) := by decide +kernel
theorem dX9_restore_36 : decode cX9_restore 36 = .ok (.getfield 187, 3) := by decide +kernel
theorem dX9_restore_39 : decode cX9_restore 39 = .ok (.ireturn, 1) := by decide +kernel
set_option maxRecDepth 20000 in
theorem ggX9_count_X1_coldsOfAll : GoodIn wsX9_count wsX1_coldsOfAll := goodIn_r _ [10, 11, 12, 13, 14, 9, 15, 16, 17, 18, 19, 20, 41, 42, 43, 44, 45, 46, 47, 48, 49, 50] (by decide +kernel) (by decide +kernel)
set_option maxRecDepth 20000 in
theorem gX9_count_X1_coldsOfAll : GoodIn wsX9_count (wsV RX9 193 RX1 yX1_coldsOfAll wsX1_coldsOfAll) := goodIn_app (goodIn_of _ (by decide +kernel)) ggX9_count_X1_coldsOfAll
set_option maxRecDepth 20000 in
theorem ggX9_count_X1_honeyOfAll : GoodIn wsX9_count wsX1_honeyOfAll := goodIn_r _ [24, 11, 25, 26, 27, 9, 28, 29, 17, 18, 19, 20, 41, 42, 43, 44, 45, 46, 47, 48, 49, 50] (by decide +kernel) (by decide +kernel)
set_option maxRecDepth 20000 in
theorem gX9_count_X1_honeyOfAll : GoodIn wsX9_count (wsV RX9 196 RX1 yX1_honeyOfAll wsX1_honeyOfAll) := goodIn_app (goodIn_of _ (by decide +kernel)) ggX9_count_X1_honeyOfAll
theorem dX9_count_0 : decode cX9_count 0 = .ok (.iload_n 1, 1) := by decide +kernel
theorem dX9_count_1 : decode cX9_count 1 = .ok (.tableswitch 117 0 8 #[51, 59, 67, 75, 83, 91, 99, 107, 112], 51) := by decide +kernel
theorem dX9_count_52 : decode cX9_count 52 = .ok (.aload_n 0, 1) := by decide +kernel
theorem dX9_count_53 : decode cX9_count 53 = .ok (.getfield 41, 3) := by decide +kernel
theorem dX9_count_56 : decode cX9_count 56 = .ok (.getfield 84, 3) := by decide +kernel
theorem dX9_count_59 : decode cX9_count 59 = .ok (.ireturn, 1) := by decide +kernel
theorem dX9_count_60 : decode cX9_count 60 = .ok (.aload_n 0, 1) := by decide +kernel
theorem dX9_count_61 : decode cX9_count 61 = .ok (.getfield 41, 3) := by decide +kernel
theorem dX9_count_64 : decode cX9_count 64 = .ok (.getfield 190, 3) := by decide +kernel
theorem dX9_count_67 : decode cX9_count 67 = .ok (.ireturn, 1) := by decide +kernel
theorem dX9_count_68 : decode cX9_count 68 = .ok (.aload_n 0, 1) := by decide +kernel
theorem dX9_count_69 : decode cX9_count 69 = .ok (.getfield 41, 3) := by decide +kernel
theorem dX9_count_72 : decode cX9_count 72 = .ok (.invokevirtual 193, 3) := by decide +kernel
theorem dX9_count_75 : decode cX9_count 75 = .ok (.ireturn, 1) := by decide +kernel
theorem dX9_count_76 : decode cX9_count 76 = .ok (.aload_n 0, 1) := by decide +kernel
theorem dX9_count_77 : decode cX9_count 77 = .ok (.getfield 41, 3) := by decide +kernel
theorem dX9_count_80 : decode cX9_count 80 = .ok (.invokevirtual 196, 3) := by decide +kernel
theorem dX9_count_83 : decode cX9_count 83 = .ok (.ireturn, 1) := by decide +kernel
theorem dX9_count_84 : decode cX9_count 84 = .ok (.aload_n 0, 1) := by decide +kernel
theorem dX9_count_85 : decode cX9_count 85 = .ok (.getfield 41, 3) := by decide +kernel
theorem dX9_count_88 : decode cX9_count 88 = .ok (.getfield 187, 3) := by decide +kernel
theorem dX9_count_91 : decode cX9_count 91 = .ok (.ireturn, 1) := by decide +kernel
theorem dX9_count_92 : decode cX9_count 92 = .ok (.aload_n 0, 1) := by decide +kernel
theorem dX9_count_93 : decode cX9_count 93 = .ok (.getfield 19, 3) := by decide +kernel
theorem dX9_count_96 : decode cX9_count 96 = .ok (.getfield 171, 3) := by decide +kernel
theorem dX9_count_99 : decode cX9_count 99 = .ok (.ireturn, 1) := by decide +kernel
theorem dX9_count_100 : decode cX9_count 100 = .ok (.aload_n 0, 1) := by decide +kernel
theorem dX9_count_101 : decode cX9_count 101 = .ok (.getfield 12, 3) := by decide +kernel
theorem dX9_count_104 : decode cX9_count 104 = .ok (.getfield 55, 3) := by decide +kernel
theorem dX9_count_107 : decode cX9_count 107 = .ok (.ireturn, 1) := by decide +kernel
theorem dX9_count_108 : decode cX9_count 108 = .ok (.aload_n 0, 1) := by decide +kernel
theorem dX9_count_109 : decode cX9_count 109 = .ok (.getfield 81, 3) := by decide +kernel
theorem dX9_count_112 : decode cX9_count 112 = .ok (.ireturn, 1) := by decide +kernel
theorem dX9_count_113 : decode cX9_count 113 = .ok (.aload_n 0, 1) := by decide +kernel
theorem dX9_count_114 : decode cX9_count 114 = .ok (.getfield 161, 3) := by decide +kernel
theorem dX9_count_117 : decode cX9_count 117 = .ok (.ireturn, 1) := by decide +kernel
theorem dX9_count_118 : decode cX9_count 118 = .ok (.bipush (-102), 2) := by decide +kernel
theorem dX9_count_120 : decode cX9_count 120 = .ok (.ireturn, 1) := by decide +kernel
set_option maxRecDepth 20000 in
theorem ggX9_digest_X9_singer : GoodIn wsX9_digest wsX9_singer := goodIn_r _ [9, 2, 10, 11, 12, 13, 14, 15, 16, 17, 18, 19, 20, 21, 22, 23, 24, 25, 26, 27, 28, 29, 30, 31, 32, 33, 34, 35, 36, 37, 38, 39, 40, 41, 42, 43, 44, 45, 46, 47, 48, 49, 50, 51, 52, 53, 54, 55, 56, 57, 58, 59, 60, 61, 62, 63, 64, 65, 66, 67, 68, 69, 70, 71, 72, 73, 74, 75, 76, 77, 78, 79, 80, 81, 82, 83, 84, 85, 86, 87, 88, 89, 90, 91, 92, 93, 94, 95, 96, 97, 98, 99, 100, 101, 102, 103, 104, 105, 106, 107, 108, 109, 110, 111, 112, 113, 114, 115, 116, 117, 118, 119, 120, 121, 122, 123, 8, 124, 125, 126, 127, 128, 129, 130, 131, 132, 133, 134, 135, 136, 137, 138, 139, 140, 141, 142, 143, 144, 145, 146, 147, 148, 149, 150, 151, 152, 153, 154, 155, 156, 240, 241, 242, 243, 244, 245, 246, 247, 248, 249, 250, 251, 252, 253, 254, 255, 256, 257, 258, 259, 260, 263, 264, 265, 266, 267] (by decide +kernel) (by decide +kernel)
set_option maxRecDepth 20000 in
theorem gX9_digest_X9_singer : GoodIn wsX9_digest (wsV RX9 204 RX9 yX9_singer wsX9_singer) := goodIn_app (goodIn_of _ (by decide +kernel)) ggX9_digest_X9_singer
set_option maxRecDepth 20000 in
theorem ggX9_digest_X9_mix : GoodIn wsX9_digest wsX9_mix := goodIn_r _ [159, 160] (by decide +kernel) (by decide +kernel)
set_option maxRecDepth 20000 in
theorem gX9_digest_X9_mix : GoodIn wsX9_digest (va_wsS RX9 207 yX9_mix wsX9_mix) := goodIn_app (goodIn_of _ (by decide +kernel)) ggX9_digest_X9_mix
set_option maxRecDepth 20000 in
theorem ggX9_digest_X9_widow : GoodIn wsX9_digest wsX9_widow := goodIn_r _ [164, 2, 165, 72, 73, 13, 74, 61, 166, 67, 68, 69, 70, 71, 167, 63, 64, 65, 15, 66, 75, 76, 77, 78, 20, 21, 79, 80, 81, 82, 83, 84, 85, 86, 22, 11, 12, 14, 87, 88, 89, 23, 24, 25, 26, 27, 28, 29, 30, 31, 32, 90, 91, 92, 93, 94, 38, 95, 96, 97, 98, 43, 99, 100, 101, 47, 102, 103, 104, 105, 52, 106, 107, 55, 108, 156, 168, 169, 170, 8, 171, 172, 173, 174, 175, 176, 177, 178, 179, 180, 181, 182, 183, 184, 185, 186, 187, 188, 189, 190, 191, 192, 193, 194, 195, 196, 197, 198, 199, 240, 241, 242, 243, 244, 245, 246, 247, 248, 249, 250, 251, 252, 253, 254, 255, 256, 257, 258, 259, 260, 263, 264, 265, 266, 267, 268, 269, 270, 271, 272] (by decide +kernel) (by decide +kernel)
set_option maxRecDepth 20000 in
theorem gX9_digest_X9_widow : GoodIn wsX9_digest (wsV RX9 211 RX9 yX9_widow wsX9_widow) := goodIn_app (goodIn_of _ (by decide +kernel)) ggX9_digest_X9_widow
set_option maxRecDepth 20000 in
theorem ggX9_digest_X9_wince : GoodIn wsX9_digest wsX9_wince := goodIn_r _ [203, 2, 165, 72, 73, 13, 74, 61, 10, 11, 12, 14, 15, 166, 67, 68, 69, 70, 71, 156, 76, 77, 78, 20, 21, 79, 80, 81, 82, 83, 84, 85, 86, 22, 87, 88, 89, 23, 24, 25, 26, 27, 28, 29, 30, 31, 32, 90, 91, 92, 93, 94, 38, 95, 96, 97, 98, 43, 99, 100, 101, 47, 102, 103, 104, 105, 52, 106, 107, 55, 108, 240, 241, 242, 243, 244, 245, 246, 247, 248, 249, 250, 251, 252, 253, 254, 255, 256, 257, 258, 259, 260, 263, 264, 265, 266, 267] (by decide +kernel) (by decide +kernel)
set_option maxRecDepth 20000 in
theorem gX9_digest_X9_wince : GoodIn wsX9_digest (wsV RX9 214 RX9 yX9_wince wsX9_wince) := goodIn_app (goodIn_of _ (by decide +kernel)) ggX9_digest_X9_wince
set_option maxRecDepth 20000 in
theorem ggX9_digest_X1_isEmpty : GoodIn wsX9_digest wsX1_isEmpty := goodIn_r _ [207, 15, 251, 252, 253, 254, 255, 256, 257, 258, 259, 260] (by decide +kernel) (by decide +kernel)
set_option maxRecDepth 20000 in
theorem gX9_digest_X1_isEmpty : GoodIn wsX9_digest (wsV RX9 155 RX1 yX1_isEmpty wsX1_isEmpty) := goodIn_app (goodIn_of _ (by decide +kernel)) ggX9_digest_X1_isEmpty
set_option maxRecDepth 20000 in
theorem ggX9_digest_X9_mayor : GoodIn wsX9_digest wsX9_mayor := goodIn_r _ [211, 2, 204, 205, 206, 13, 207, 15, 212, 213, 214, 215, 216, 58, 59, 60, 61, 62, 63, 64, 65, 66, 67, 68, 69, 70, 71, 72, 73, 74, 75, 76, 77, 78, 20, 21, 79, 80, 81, 82, 83, 84, 85, 86, 22, 11, 12, 14, 87, 88, 89, 23, 24, 25, 26, 27, 28, 29, 30, 31, 32, 90, 91, 92, 93, 94, 38, 95, 96, 97, 98, 43, 99, 100, 101, 47, 102, 103, 104, 105, 52, 106, 107, 55, 108, 240, 241, 242, 243, 244, 245, 246, 247, 248, 249, 250, 251, 252, 253, 254, 255, 256, 257, 258, 259, 260, 263, 264, 265, 266, 267] (by decide +kernel) (by decide +kernel)
set_option maxRecDepth 20000 in
theorem gX9_digest_X9_mayor : GoodIn wsX9_digest (wsV RX9 217 RX9 yX9_mayor wsX9_mayor) := goodIn_app (goodIn_of _ (by decide +kernel)) ggX9_digest_X9_mayor
set_option maxRecDepth 20000 in
theorem ggX9_digest_X5_codeAt : GoodIn wsX9_digest wsX5_codeAt := goodIn_r _ [221, 222, 223, 261, 262] (by decide +kernel) (by decide +kernel)
set_option maxRecDepth 20000 in
theorem gX9_digest_X5_codeAt : GoodIn wsX9_digest (wsV RX9 220 RX5 yX5_codeAt wsX5_codeAt) := goodIn_app (goodIn_of _ (by decide +kernel)) ggX9_digest_X5_codeAt
set_option maxRecDepth 20000 in
theorem ggX9_digest_X9_count : GoodIn wsX9_digest wsX9_count := goodIn_r _ [227, 2, 172, 4, 228, 229, 230, 231, 232, 13, 233, 15, 234, 110, 111, 112, 80, 22, 11, 12, 14, 235, 236, 237, 238, 239, 118, 119, 120, 82, 240, 241, 242, 243, 244, 245, 246, 247, 248, 249, 250, 251, 252, 253, 254, 255, 256, 257, 258, 259, 260, 268, 269, 270, 271, 272, 261, 262] (by decide +kernel) (by decide +kernel)
set_option maxRecDepth 20000 in
theorem gX9_digest_X9_count : GoodIn wsX9_digest (wsV RX9 223 RX9 yX9_count wsX9_count) := goodIn_app (goodIn_of _ (by decide +kernel)) ggX9_digest_X9_count
theorem dX9_digest_0 : decode cX9_digest 0 = .ok (.ldc2_w 199, 3) := by decide +kernel
theorem dX9_digest_3 : decode cX9_digest 3 = .ok (.lstore_n 1, 1) := by decide +kernel
theorem dX9_digest_4 : decode cX9_digest 4 = .ok (.iconst 0, 1) := by decide +kernel
theorem dX9_digest_5 : decode cX9_digest 5 = .ok (.istore_n 3, 1) := by decide +kernel
theorem dX9_digest_6 : decode cX9_digest 6 = .ok (.iload_n 3, 1) := by decide +kernel
theorem dX9_digest_7 : decode cX9_digest 7 = .ok (.aload_n 0, 1) := by decide +kernel
theorem dX9_digest_8 : decode cX9_digest 8 = .ok (.getfield 41, 3) := by decide +kernel
theorem dX9_digest_11 : decode cX9_digest 11 = .ok (.getfield 84, 3) := by decide +kernel
theorem dX9_digest_14 : decode cX9_digest 14 = .ok (.if_icmp .ge 55, 3) := by decide +kernel
theorem dX9_digest_17 : decode cX9_digest 17 = .ok (.getstatic 201, 3) := by decide +kernel
theorem dX9_digest_20 : decode cX9_digest 20 = .ok (.astore 4, 2) := by decide +kernel
theorem dX9_digest_22 : decode cX9_digest 22 = .ok (.aload 4, 2) := by decide +kernel
theorem dX9_digest_24 : decode cX9_digest 24 = .ok (.arraylength, 1) := by decide +kernel
theorem dX9_digest_25 : decode cX9_digest 25 = .ok (.istore 5, 2) := by decide +kernel
theorem dX9_digest_27 : decode cX9_digest 27 = .ok (.iconst 0, 1) := by decide +kernel
theorem dX9_digest_28 : decode cX9_digest 28 = .ok (.istore 6, 2) := by decide +kernel
theorem dX9_digest_30 : decode cX9_digest 30 = .ok (.iload 6, 2) := by decide +kernel
theorem dX9_digest_32 : decode cX9_digest 32 = .ok (.iload 5, 2) := by decide +kernel
theorem dX9_digest_34 : decode cX9_digest 34 = .ok (.if_icmp .ge 29, 3) := by decide +kernel
theorem dX9_digest_37 : decode cX9_digest 37 = .ok (.aload 4, 2) := by decide +kernel
theorem dX9_digest_39 : decode cX9_digest 39 = .ok (.iload 6, 2) := by decide +kernel
theorem dX9_digest_41 : decode cX9_digest 41 = .ok (.iaload, 1) := by decide +kernel
theorem dX9_digest_42 : decode cX9_digest 42 = .ok (.istore 7, 2) := by decide +kernel
theorem dX9_digest_44 : decode cX9_digest 44 = .ok (.lload_n 1, 1) := by decide +kernel
theorem dX9_digest_45 : decode cX9_digest 45 = .ok (.aload_n 0, 1) := by decide +kernel
theorem dX9_digest_46 : decode cX9_digest 46 = .ok (.iload_n 3, 1) := by decide +kernel
theorem dX9_digest_47 : decode cX9_digest 47 = .ok (.iload 7, 2) := by decide +kernel
theorem dX9_digest_49 : decode cX9_digest 49 = .ok (.invokevirtual 204, 3) := by decide +kernel
theorem dX9_digest_52 : decode cX9_digest 52 = .ok (.i2l, 1) := by decide +kernel
theorem dX9_digest_53 : decode cX9_digest 53 = .ok (.invokestatic 207, 3) := by decide +kernel
theorem dX9_digest_56 : decode cX9_digest 56 = .ok (.lstore_n 1, 1) := by decide +kernel
theorem dX9_digest_57 : decode cX9_digest 57 = .ok (.iinc 6 1, 3) := by decide +kernel
theorem dX9_digest_60 : decode cX9_digest 60 = .ok (.goto (-30), 3) := by decide +kernel
theorem dX9_digest_63 : decode cX9_digest 63 = .ok (.iinc 3 1, 3) := by decide +kernel
theorem dX9_digest_66 : decode cX9_digest 66 = .ok (.goto (-60), 3) := by decide +kernel
theorem dX9_digest_69 : decode cX9_digest 69 = .ok (.iconst 0, 1) := by decide +kernel
theorem dX9_digest_70 : decode cX9_digest 70 = .ok (.istore_n 3, 1) := by decide +kernel
theorem dX9_digest_71 : decode cX9_digest 71 = .ok (.iload_n 3, 1) := by decide +kernel
theorem dX9_digest_72 : decode cX9_digest 72 = .ok (.aload_n 0, 1) := by decide +kernel
theorem dX9_digest_73 : decode cX9_digest 73 = .ok (.getfield 41, 3) := by decide +kernel
theorem dX9_digest_76 : decode cX9_digest 76 = .ok (.getfield 190, 3) := by decide +kernel
theorem dX9_digest_79 : decode cX9_digest 79 = .ok (.if_icmp .ge 71, 3) := by decide +kernel
theorem dX9_digest_82 : decode cX9_digest 82 = .ok (.iconst 0, 1) := by decide +kernel
theorem dX9_digest_83 : decode cX9_digest 83 = .ok (.istore 4, 2) := by decide +kernel
theorem dX9_digest_85 : decode cX9_digest 85 = .ok (.iload 4, 2) := by decide +kernel
theorem dX9_digest_87 : decode cX9_digest 87 = .ok (.iconst 5, 1) := by decide +kernel
theorem dX9_digest_88 : decode cX9_digest 88 = .ok (.if_icmp .ge 22, 3) := by decide +kernel
theorem dX9_digest_91 : decode cX9_digest 91 = .ok (.lload_n 1, 1) := by decide +kernel
theorem dX9_digest_92 : decode cX9_digest 92 = .ok (.aload_n 0, 1) := by decide +kernel
theorem dX9_digest_93 : decode cX9_digest 93 = .ok (.iload_n 3, 1) := by decide +kernel
theorem dX9_digest_94 : decode cX9_digest 94 = .ok (.iload 4, 2) := by decide +kernel
theorem dX9_digest_96 : decode cX9_digest 96 = .ok (.invokevirtual 211, 3) := by decide +kernel
theorem dX9_digest_99 : decode cX9_digest 99 = .ok (.i2l, 1) := by decide +kernel
theorem dX9_digest_100 : decode cX9_digest 100 = .ok (.invokestatic 207, 3) := by decide +kernel
theorem dX9_digest_103 : decode cX9_digest 103 = .ok (.lstore_n 1, 1) := by decide +kernel
theorem dX9_digest_104 : decode cX9_digest 104 = .ok (.iinc 4 1, 3) := by decide +kernel
theorem dX9_digest_107 : decode cX9_digest 107 = .ok (.goto (-22), 3) := by decide +kernel
theorem dX9_digest_110 : decode cX9_digest 110 = .ok (.iconst 0, 1) := by decide +kernel
theorem dX9_digest_111 : decode cX9_digest 111 = .ok (.istore 4, 2) := by decide +kernel
theorem dX9_digest_113 : decode cX9_digest 113 = .ok (.iload 4, 2) := by decide +kernel
theorem dX9_digest_115 : decode cX9_digest 115 = .ok (.aload_n 0, 1) := by decide +kernel
theorem dX9_digest_116 : decode cX9_digest 116 = .ok (.getfield 41, 3) := by decide +kernel
theorem dX9_digest_119 : decode cX9_digest 119 = .ok (.getfield 84, 3) := by decide +kernel
theorem dX9_digest_122 : decode cX9_digest 122 = .ok (.if_icmp .ge 22, 3) := by decide +kernel
theorem dX9_digest_125 : decode cX9_digest 125 = .ok (.lload_n 1, 1) := by decide +kernel
theorem dX9_digest_126 : decode cX9_digest 126 = .ok (.aload_n 0, 1) := by decide +kernel
theorem dX9_digest_127 : decode cX9_digest 127 = .ok (.iload_n 3, 1) := by decide +kernel
theorem dX9_digest_128 : decode cX9_digest 128 = .ok (.iload 4, 2) := by decide +kernel
theorem dX9_digest_130 : decode cX9_digest 130 = .ok (.invokevirtual 214, 3) := by decide +kernel
theorem dX9_digest_133 : decode cX9_digest 133 = .ok (.i2l, 1) := by decide +kernel
theorem dX9_digest_134 : decode cX9_digest 134 = .ok (.invokestatic 207, 3) := by decide +kernel
theorem dX9_digest_137 : decode cX9_digest 137 = .ok (.lstore_n 1, 1) := by decide +kernel
theorem dX9_digest_138 : decode cX9_digest 138 = .ok (.iinc 4 1, 3) := by decide +kernel
theorem dX9_digest_141 : decode cX9_digest 141 = .ok (.goto (-28), 3) := by decide +kernel
theorem dX9_digest_144 : decode cX9_digest 144 = .ok (.iinc 3 1, 3) := by decide +kernel
theorem dX9_digest_147 : decode cX9_digest 147 = .ok (.goto (-76), 3) := by decide +kernel
theorem dX9_digest_150 : decode cX9_digest 150 = .ok (.aload_n 0, 1) := by decide +kernel
theorem dX9_digest_151 : decode cX9_digest 151 = .ok (.getfield 41, 3) := by decide +kernel
theorem dX9_digest_154 : decode cX9_digest 154 = .ok (.invokevirtual 155, 3) := by decide +kernel
theorem dX9_digest_157 : decode cX9_digest 157 = .ok (.ifCond .ne 13, 3) := by decide +kernel
theorem dX9_digest_160 : decode cX9_digest 160 = .ok (.lload_n 1, 1) := by decide +kernel
theorem dX9_digest_161 : decode cX9_digest 161 = .ok (.aload_n 0, 1) := by decide +kernel
theorem dX9_digest_162 : decode cX9_digest 162 = .ok (.invokevirtual 217, 3) := by decide +kernel
theorem dX9_digest_165 : decode cX9_digest 165 = .ok (.i2l, 1) := by decide +kernel
theorem dX9_digest_166 : decode cX9_digest 166 = .ok (.invokestatic 207, 3) := by decide +kernel
theorem dX9_digest_169 : decode cX9_digest 169 = .ok (.lstore_n 1, 1) := by decide +kernel
theorem dX9_digest_170 : decode cX9_digest 170 = .ok (.iconst 0, 1) := by decide +kernel
theorem dX9_digest_171 : decode cX9_digest 171 = .ok (.istore_n 3, 1) := by decide +kernel
theorem dX9_digest_172 : decode cX9_digest 172 = .ok (.iload_n 3, 1) := by decide +kernel
theorem dX9_digest_173 : decode cX9_digest 173 = .ok (.aload_n 0, 1) := by decide +kernel
theorem dX9_digest_174 : decode cX9_digest 174 = .ok (.getfield 12, 3) := by decide +kernel
theorem dX9_digest_177 : decode cX9_digest 177 = .ok (.getfield 55, 3) := by decide +kernel
theorem dX9_digest_180 : decode cX9_digest 180 = .ok (.if_icmp .ge 23, 3) := by decide +kernel
theorem dX9_digest_183 : decode cX9_digest 183 = .ok (.lload_n 1, 1) := by decide +kernel
theorem dX9_digest_184 : decode cX9_digest 184 = .ok (.aload_n 0, 1) := by decide +kernel
theorem dX9_digest_185 : decode cX9_digest 185 = .ok (.getfield 12, 3) := by decide +kernel
theorem dX9_digest_188 : decode cX9_digest 188 = .ok (.iload_n 3, 1) := by decide +kernel
theorem dX9_digest_189 : decode cX9_digest 189 = .ok (.invokevirtual 220, 3) := by decide +kernel
theorem dX9_digest_192 : decode cX9_digest 192 = .ok (.i2l, 1) := by decide +kernel
theorem dX9_digest_193 : decode cX9_digest 193 = .ok (.invokestatic 207, 3) := by decide +kernel
theorem dX9_digest_196 : decode cX9_digest 196 = .ok (.lstore_n 1, 1) := by decide +kernel
theorem dX9_digest_197 : decode cX9_digest 197 = .ok (.iinc 3 1, 3) := by decide +kernel
theorem dX9_digest_200 : decode cX9_digest 200 = .ok (.goto (-28), 3) := by decide +kernel
theorem dX9_digest_203 : decode cX9_digest 203 = .ok (.iconst 0, 1) := by decide +kernel
theorem dX9_digest_204 : decode cX9_digest 204 = .ok (.istore_n 3, 1) := by decide +kernel
theorem dX9_digest_205 : decode cX9_digest 205 = .ok (.iload_n 3, 1) := by decide +kernel
theorem dX9_digest_206 : decode cX9_digest 206 = .ok (.bipush 9, 2) := by decide +kernel
theorem dX9_digest_208 : decode cX9_digest 208 = .ok (.if_icmp .ge 20, 3) := by decide +kernel
theorem dX9_digest_211 : decode cX9_digest 211 = .ok (.lload_n 1, 1) := by decide +kernel
theorem dX9_digest_212 : decode cX9_digest 212 = .ok (.aload_n 0, 1) := by decide +kernel
theorem dX9_digest_213 : decode cX9_digest 213 = .ok (.iload_n 3, 1) := by decide +kernel
theorem dX9_digest_214 : decode cX9_digest 214 = .ok (.invokevirtual 223, 3) := by decide +kernel
theorem dX9_digest_217 : decode cX9_digest 217 = .ok (.i2l, 1) := by decide +kernel
theorem dX9_digest_218 : decode cX9_digest 218 = .ok (.invokestatic 207, 3) := by decide +kernel
theorem dX9_digest_221 : decode cX9_digest 221 = .ok (.lstore_n 1, 1) := by decide +kernel
theorem dX9_digest_222 : decode cX9_digest 222 = .ok (.iinc 3 1, 3) := by decide +kernel
theorem dX9_digest_225 : decode cX9_digest 225 = .ok (.goto (-20), 3) := by decide +kernel
theorem dX9_digest_228 : decode cX9_digest 228 = .ok (.lload_n 1, 1) := by decide +kernel
theorem dX9_digest_229 : decode cX9_digest 229 = .ok (.lreturn, 1) := by decide +kernel
theorem dX9_mix_0 : decode cX9_mix 0 = .ok (.ldc2_w 226, 3) := by decide +kernel
theorem dX9_mix_3 : decode cX9_mix 3 = .ok (.lload_n 0, 1) := by decide +kernel
theorem dX9_mix_4 : decode cX9_mix 4 = .ok (.lmul, 1) := by decide +kernel
theorem dX9_mix_5 : decode cX9_mix 5 = .ok (.lload_n 2, 1) := by decide +kernel
theorem dX9_mix_6 : decode cX9_mix 6 = .ok (.ladd, 1) := by decide +kernel
theorem dX9_mix_7 : decode cX9_mix 7 = .ok (.lreturn, 1) := by decide +kernel
set_option maxRecDepth 20000 in
theorem ggX9_singersFault_X1_faultOf : GoodIn wsX9_singersFault wsX1_faultOf := goodIn_r _ [6, 7, 8, 9, 10, 5, 11, 12, 13, 14, 15, 74, 75, 76, 77, 78, 79, 80, 81, 82, 83] (by decide +kernel) (by decide +kernel)
set_option maxRecDepth 20000 in
theorem gX9_singersFault_X1_faultOf : GoodIn wsX9_singersFault (wsV RX9 228 RX1 yX1_faultOf wsX1_faultOf) := goodIn_app (goodIn_of _ (by decide +kernel)) ggX9_singersFault_X1_faultOf
set_option maxRecDepth 20000 in
theorem ggX9_singersFault_X1_bad : GoodIn wsX9_singersFault wsX1_bad := goodIn_r _ [19, 20, 21, 7, 22, 23, 24, 25, 26, 27, 28, 8, 9, 10, 5, 11, 12, 13, 14, 15, 29, 30, 31, 32, 33, 34, 35, 36, 37, 38, 39, 40, 41, 42, 43, 44, 45, 46, 47, 48, 49, 50, 51, 52, 53, 54, 55, 56, 57, 58, 59, 60, 61, 62, 74, 75, 76, 77, 78, 79, 80, 81, 82, 83, 84, 85, 86, 87, 88] (by decide +kernel) (by decide +kernel)
set_option maxRecDepth 20000 in
theorem gX9_singersFault_X1_bad : GoodIn wsX9_singersFault (wsV RX9 132 RX1 yX1_bad wsX1_bad) := goodIn_app (goodIn_of _ (by decide +kernel)) ggX9_singersFault_X1_bad
theorem dX9_singersFault_0 : decode cX9_singersFault 0 = .ok (.iload_n 2, 1) := by decide +kernel
theorem dX9_singersFault_1 : decode cX9_singersFault 1 = .ok (.bipush 10, 2) := by decide +kernel
theorem dX9_singersFault_3 : decode cX9_singersFault 3 = .ok (.if_icmp .lt 22, 3) := by decide +kernel
theorem dX9_singersFault_6 : decode cX9_singersFault 6 = .ok (.iload_n 2, 1) := by decide +kernel
theorem dX9_singersFault_7 : decode cX9_singersFault 7 = .ok (.bipush 14, 2) := by decide +kernel
theorem dX9_singersFault_9 : decode cX9_singersFault 9 = .ok (.if_icmp .ge 16, 3) := by decide +kernel
theorem dX9_singersFault_12 : decode cX9_singersFault 12 = .ok (.aload_n 0, 1) := by decide +kernel
theorem dX9_singersFault_13 : decode cX9_singersFault 13 = .ok (.getfield 41, 3) := by decide +kernel
theorem dX9_singersFault_16 : decode cX9_singersFault 16 = .ok (.iload_n 1, 1) := by decide +kernel
theorem dX9_singersFault_17 : decode cX9_singersFault 17 = .ok (.iload_n 2, 1) := by decide +kernel
theorem dX9_singersFault_18 : decode cX9_singersFault 18 = .ok (.bipush 10, 2) := by decide +kernel
theorem dX9_singersFault_20 : decode cX9_singersFault 20 = .ok (.isub, 1) := by decide +kernel
theorem dX9_singersFault_21 : decode cX9_singersFault 21 = .ok (.invokevirtual 228, 3) := by decide +kernel
theorem dX9_singersFault_24 : decode cX9_singersFault 24 = .ok (.ireturn, 1) := by decide +kernel
theorem dX9_singersFault_25 : decode cX9_singersFault 25 = .ok (.iload_n 2, 1) := by decide +kernel
theorem dX9_singersFault_26 : decode cX9_singersFault 26 = .ok (.bipush 20, 2) := by decide +kernel
theorem dX9_singersFault_28 : decode cX9_singersFault 28 = .ok (.if_icmp .lt 22, 3) := by decide +kernel
theorem dX9_singersFault_31 : decode cX9_singersFault 31 = .ok (.iload_n 2, 1) := by decide +kernel
theorem dX9_singersFault_32 : decode cX9_singersFault 32 = .ok (.bipush 24, 2) := by decide +kernel
theorem dX9_singersFault_34 : decode cX9_singersFault 34 = .ok (.if_icmp .ge 16, 3) := by decide +kernel
theorem dX9_singersFault_37 : decode cX9_singersFault 37 = .ok (.aload_n 0, 1) := by decide +kernel
theorem dX9_singersFault_38 : decode cX9_singersFault 38 = .ok (.getfield 41, 3) := by decide +kernel
theorem dX9_singersFault_41 : decode cX9_singersFault 41 = .ok (.iload_n 1, 1) := by decide +kernel
theorem dX9_singersFault_42 : decode cX9_singersFault 42 = .ok (.iload_n 2, 1) := by decide +kernel
theorem dX9_singersFault_43 : decode cX9_singersFault 43 = .ok (.bipush 20, 2) := by decide +kernel
theorem dX9_singersFault_45 : decode cX9_singersFault 45 = .ok (.isub, 1) := by decide +kernel
theorem dX9_singersFault_46 : decode cX9_singersFault 46 = .ok (.invokevirtual 132, 3) := by decide +kernel
theorem dX9_singersFault_49 : decode cX9_singersFault 49 = .ok (.ireturn, 1) := by decide +kernel
theorem dX9_singersFault_50 : decode cX9_singersFault 50 = .ok (.bipush (-102), 2) := by decide +kernel
theorem dX9_singersFault_52 : decode cX9_singersFault 52 = .ok (.ireturn, 1) := by decide +kernel
theorem dX9_isOfKind_0 : decode cX9_isOfKind 0 = .ok (.iload_n 1, 1) := by decide +kernel
theorem dX9_isOfKind_1 : decode cX9_isOfKind 1 = .ok (.tableswitch 57 0 4 #[35, 37, 42, 47, 52], 35) := by decide +kernel
theorem dX9_isOfKind_36 : decode cX9_isOfKind 36 = .ok (.iconst 1, 1) := by decide +kernel
theorem dX9_isOfKind_37 : decode cX9_isOfKind 37 = .ok (.ireturn, 1) := by decide +kernel
theorem dX9_isOfKind_38 : decode cX9_isOfKind 38 = .ok (.aload_n 0, 1) := by decide +kernel
theorem dX9_isOfKind_39 : decode cX9_isOfKind 39 = .ok (.instanceof 231, 3) := by decide +kernel
theorem dX9_isOfKind_42 : decode cX9_isOfKind 42 = .ok (.ireturn, 1) := by decide +kernel
theorem dX9_isOfKind_43 : decode cX9_isOfKind 43 = .ok (.aload_n 0, 1) := by decide +kernel
theorem dX9_isOfKind_44 : decode cX9_isOfKind 44 = .ok (.instanceof 233, 3) := by decide +kernel
theorem dX9_isOfKind_47 : decode cX9_isOfKind 47 = .ok (.ireturn, 1) := by decide +kernel
theorem dX9_isOfKind_48 : decode cX9_isOfKind 48 = .ok (.aload_n 0, 1) := by decide +kernel
theorem dX9_isOfKind_49 : decode cX9_isOfKind 49 = .ok (.instanceof 235, 3) := by decide +kernel
theorem dX9_isOfKind_52 : decode cX9_isOfKind 52 = .ok (.ireturn, 1) := by decide +kernel
theorem dX9_isOfKind_53 : decode cX9_isOfKind 53 = .ok (.aload_n 0, 1) := by decide +kernel
theorem dX9_isOfKind_54 : decode cX9_isOfKind 54 = .ok (.instanceof 237, 3) := by decide +kernel
theorem dX9_isOfKind_57 : decode cX9_isOfKind 57 = .ok (.ireturn, 1) := by decide +kernel
theorem dX9_isOfKind_58 : decode cX9_isOfKind 58 = .ok (.iconst 0, 1) := by decide +kernel
theorem dX9_isOfKind_59 : decode cX9_isOfKind 59 = .ok (.ireturn, 1) := by decide +kernel
set_option maxRecDepth 20000 in
theorem ggX9_worstAndVotes_X1_takeFrom : GoodIn wsX9_worstAndVotes wsX1_takeFrom := goodIn_r _ [7, 8, 9, 10, 11, 12, 13, 14, 15, 16, 17, 18, 19, 20, 21, 22, 23, 24, 25, 26, 27, 112, 113, 114, 115, 116, 117, 118, 119, 120, 121] (by decide +kernel) (by decide +kernel)
set_option maxRecDepth 20000 in
theorem gX9_worstAndVotes_X1_takeFrom : GoodIn wsX9_worstAndVotes (wsV RX9 174 RX1 yX1_takeFrom wsX1_takeFrom) := goodIn_app (goodIn_of _ (by decide +kernel)) ggX9_worstAndVotes_X1_takeFrom
set_option maxRecDepth 20000 in
theorem ggX9_worstAndVotes_X1_setCold : GoodIn wsX9_worstAndVotes wsX1_setCold := goodIn_r _ [31, 10, 32, 33, 34, 6, 35, 14, 112, 113, 114, 115, 116, 117, 118, 119, 120, 121] (by decide +kernel) (by decide +kernel)
set_option maxRecDepth 20000 in
theorem gX9_worstAndVotes_X1_setCold : GoodIn wsX9_worstAndVotes (wsV RX9 141 RX1 yX1_setCold wsX1_setCold) := goodIn_app (goodIn_of _ (by decide +kernel)) ggX9_worstAndVotes_X1_setCold
set_option maxRecDepth 20000 in
theorem ggX9_worstAndVotes_X1_setLeft : GoodIn wsX9_worstAndVotes wsX1_setLeft := goodIn_r _ [39, 11, 32, 33, 34, 6, 35, 14, 112, 113, 114, 115, 116, 117, 118, 119, 120, 121] (by decide +kernel) (by decide +kernel)
set_option maxRecDepth 20000 in
theorem gX9_worstAndVotes_X1_setLeft : GoodIn wsX9_worstAndVotes (wsV RX9 145 RX1 yX1_setLeft wsX1_setLeft) := goodIn_app (goodIn_of _ (by decide +kernel)) ggX9_worstAndVotes_X1_setLeft
set_option maxRecDepth 20000 in
theorem ggX9_worstAndVotes_X1_votes : GoodIn wsX9_worstAndVotes wsX1_votes := goodIn_r _ [43, 15, 44, 45, 46, 6, 47, 14, 48, 49, 50, 51, 13, 52, 53, 54, 55, 56, 57, 58, 59, 60, 8, 9, 10, 11, 12, 61, 62, 22, 63, 32, 33, 34, 35, 64, 65, 66, 67, 68, 69, 70, 71, 72, 73, 74, 75, 76, 77, 78, 79, 80, 81, 82, 83, 84, 85, 86, 87, 88, 89, 90, 91, 92, 93, 94, 95, 96, 97, 98, 99, 100, 112, 113, 114, 115, 116, 117, 118, 119, 120, 121, 122, 123, 124, 125, 126] (by decide +kernel) (by decide +kernel)
set_option maxRecDepth 20000 in
theorem gX9_worstAndVotes_X1_votes : GoodIn wsX9_worstAndVotes (wsV RX9 99 RX1 yX1_votes wsX1_votes) := goodIn_app (goodIn_of _ (by decide +kernel)) ggX9_worstAndVotes_X1_votes
theorem dX9_worstAndVotes_0 : decode cX9_worstAndVotes 0 = .ok (.aload_n 0, 1) := by decide +kernel
theorem dX9_worstAndVotes_1 : decode cX9_worstAndVotes 1 = .ok (.getfield 48, 3) := by decide +kernel
theorem dX9_worstAndVotes_4 : decode cX9_worstAndVotes 4 = .ok (.aload_n 0, 1) := by decide +kernel
theorem dX9_worstAndVotes_5 : decode cX9_worstAndVotes 5 = .ok (.getfield 41, 3) := by decide +kernel
theorem dX9_worstAndVotes_8 : decode cX9_worstAndVotes 8 = .ok (.invokevirtual 174, 3) := by decide +kernel
theorem dX9_worstAndVotes_11 : decode cX9_worstAndVotes 11 = .ok (.iconst 0, 1) := by decide +kernel
theorem dX9_worstAndVotes_12 : decode cX9_worstAndVotes 12 = .ok (.istore_n 2, 1) := by decide +kernel
theorem dX9_worstAndVotes_13 : decode cX9_worstAndVotes 13 = .ok (.iconst (-1), 1) := by decide +kernel
theorem dX9_worstAndVotes_14 : decode cX9_worstAndVotes 14 = .ok (.istore_n 3, 1) := by decide +kernel
theorem dX9_worstAndVotes_15 : decode cX9_worstAndVotes 15 = .ok (.iconst 0, 1) := by decide +kernel
theorem dX9_worstAndVotes_16 : decode cX9_worstAndVotes 16 = .ok (.istore 4, 2) := by decide +kernel
theorem dX9_worstAndVotes_18 : decode cX9_worstAndVotes 18 = .ok (.iload 4, 2) := by decide +kernel
theorem dX9_worstAndVotes_20 : decode cX9_worstAndVotes 20 = .ok (.iconst 4, 1) := by decide +kernel
theorem dX9_worstAndVotes_21 : decode cX9_worstAndVotes 21 = .ok (.if_icmp .ge 71, 3) := by decide +kernel
theorem dX9_worstAndVotes_24 : decode cX9_worstAndVotes 24 = .ok (.aload_n 0, 1) := by decide +kernel
theorem dX9_worstAndVotes_25 : decode cX9_worstAndVotes 25 = .ok (.getfield 48, 3) := by decide +kernel
theorem dX9_worstAndVotes_28 : decode cX9_worstAndVotes 28 = .ok (.iload_n 1, 1) := by decide +kernel
theorem dX9_worstAndVotes_29 : decode cX9_worstAndVotes 29 = .ok (.iload 4, 2) := by decide +kernel
theorem dX9_worstAndVotes_31 : decode cX9_worstAndVotes 31 = .ok (.iconst 2, 1) := by decide +kernel
theorem dX9_worstAndVotes_32 : decode cX9_worstAndVotes 32 = .ok (.iand, 1) := by decide +kernel
theorem dX9_worstAndVotes_33 : decode cX9_worstAndVotes 33 = .ok (.ifCond .eq 7, 3) := by decide +kernel
theorem dX9_worstAndVotes_36 : decode cX9_worstAndVotes 36 = .ok (.iconst 1, 1) := by decide +kernel
theorem dX9_worstAndVotes_37 : decode cX9_worstAndVotes 37 = .ok (.goto 4, 3) := by decide +kernel
theorem dX9_worstAndVotes_40 : decode cX9_worstAndVotes 40 = .ok (.iconst 0, 1) := by decide +kernel
theorem dX9_worstAndVotes_41 : decode cX9_worstAndVotes 41 = .ok (.invokevirtual 141, 3) := by decide +kernel
theorem dX9_worstAndVotes_44 : decode cX9_worstAndVotes 44 = .ok (.aload_n 0, 1) := by decide +kernel
theorem dX9_worstAndVotes_45 : decode cX9_worstAndVotes 45 = .ok (.getfield 48, 3) := by decide +kernel
theorem dX9_worstAndVotes_48 : decode cX9_worstAndVotes 48 = .ok (.iload_n 1, 1) := by decide +kernel
theorem dX9_worstAndVotes_49 : decode cX9_worstAndVotes 49 = .ok (.iload 4, 2) := by decide +kernel
theorem dX9_worstAndVotes_51 : decode cX9_worstAndVotes 51 = .ok (.iconst 1, 1) := by decide +kernel
theorem dX9_worstAndVotes_52 : decode cX9_worstAndVotes 52 = .ok (.iand, 1) := by decide +kernel
theorem dX9_worstAndVotes_53 : decode cX9_worstAndVotes 53 = .ok (.ifCond .eq 7, 3) := by decide +kernel
theorem dX9_worstAndVotes_56 : decode cX9_worstAndVotes 56 = .ok (.iconst 1, 1) := by decide +kernel
theorem dX9_worstAndVotes_57 : decode cX9_worstAndVotes 57 = .ok (.goto 4, 3) := by decide +kernel
theorem dX9_worstAndVotes_60 : decode cX9_worstAndVotes 60 = .ok (.iconst 0, 1) := by decide +kernel
theorem dX9_worstAndVotes_61 : decode cX9_worstAndVotes 61 = .ok (.invokevirtual 145, 3) := by decide +kernel
theorem dX9_worstAndVotes_64 : decode cX9_worstAndVotes 64 = .ok (.aload_n 0, 1) := by decide +kernel
theorem dX9_worstAndVotes_65 : decode cX9_worstAndVotes 65 = .ok (.getfield 48, 3) := by decide +kernel
theorem dX9_worstAndVotes_68 : decode cX9_worstAndVotes 68 = .ok (.iload_n 1, 1) := by decide +kernel
theorem dX9_worstAndVotes_69 : decode cX9_worstAndVotes 69 = .ok (.invokevirtual 99, 3) := by decide +kernel
theorem dX9_worstAndVotes_72 : decode cX9_worstAndVotes 72 = .ok (.istore 5, 2) := by decide +kernel
theorem dX9_worstAndVotes_74 : decode cX9_worstAndVotes 74 = .ok (.iload 5, 2) := by decide +kernel
theorem dX9_worstAndVotes_76 : decode cX9_worstAndVotes 76 = .ok (.iload_n 3, 1) := by decide +kernel
theorem dX9_worstAndVotes_77 : decode cX9_worstAndVotes 77 = .ok (.if_icmp .le 9, 3) := by decide +kernel
theorem dX9_worstAndVotes_80 : decode cX9_worstAndVotes 80 = .ok (.iload 5, 2) := by decide +kernel
theorem dX9_worstAndVotes_82 : decode cX9_worstAndVotes 82 = .ok (.istore_n 3, 1) := by decide +kernel
theorem dX9_worstAndVotes_83 : decode cX9_worstAndVotes 83 = .ok (.iload 4, 2) := by decide +kernel
theorem dX9_worstAndVotes_85 : decode cX9_worstAndVotes 85 = .ok (.istore_n 2, 1) := by decide +kernel
theorem dX9_worstAndVotes_86 : decode cX9_worstAndVotes 86 = .ok (.iinc 4 1, 3) := by decide +kernel
theorem dX9_worstAndVotes_89 : decode cX9_worstAndVotes 89 = .ok (.goto (-71), 3) := by decide +kernel
theorem dX9_worstAndVotes_92 : decode cX9_worstAndVotes 92 = .ok (.iconst 4, 1) := by decide +kernel
theorem dX9_worstAndVotes_93 : decode cX9_worstAndVotes 93 = .ok (.iload_n 3, 1) := by decide +kernel
theorem dX9_worstAndVotes_94 : decode cX9_worstAndVotes 94 = .ok (.imul, 1) := by decide +kernel
theorem dX9_worstAndVotes_95 : decode cX9_worstAndVotes 95 = .ok (.iload_n 2, 1) := by decide +kernel
theorem dX9_worstAndVotes_96 : decode cX9_worstAndVotes 96 = .ok (.iadd, 1) := by decide +kernel
theorem dX9_worstAndVotes_97 : decode cX9_worstAndVotes 97 = .ok (.ireturn, 1) := by decide +kernel
set_option maxRecDepth 20000 in
theorem ggX9_pourLeast_X1_takeFrom : GoodIn wsX9_pourLeast wsX1_takeFrom := goodIn_r _ [9, 10, 11, 12, 13, 14, 15, 16, 17, 18, 19, 20, 21, 22, 23, 24, 25, 26, 27, 28, 29, 124, 125, 126, 127, 128, 129, 130, 131, 132, 133] (by decide +kernel) (by decide +kernel)
set_option maxRecDepth 20000 in
theorem gX9_pourLeast_X1_takeFrom : GoodIn wsX9_pourLeast (wsV RX9 174 RX1 yX1_takeFrom wsX1_takeFrom) := goodIn_app (goodIn_of _ (by decide +kernel)) ggX9_pourLeast_X1_takeFrom
set_option maxRecDepth 20000 in
theorem ggX9_pourLeast_X9_pour : GoodIn wsX9_pourLeast wsX9_pour := goodIn_r _ [33, 3, 2, 1, 34, 35, 36, 8, 37, 16, 38, 39, 40, 41, 14, 42, 43, 44, 45, 46, 113, 114, 115, 116, 117, 118, 119, 120, 121, 122, 123, 124, 125, 126, 127, 128, 129, 130, 131, 132, 133] (by decide +kernel) (by decide +kernel)
set_option maxRecDepth 20000 in
theorem gX9_pourLeast_X9_pour : GoodIn wsX9_pourLeast (wsV RX9 239 RX9 yX9_pour wsX9_pour) := goodIn_app (goodIn_of _ (by decide +kernel)) ggX9_pourLeast_X9_pour
set_option maxRecDepth 20000 in
theorem ggX9_pourLeast_X1_elected : GoodIn wsX9_pourLeast wsX1_elected := goodIn_r _ [50, 16, 51, 52, 53, 8, 54, 17, 55, 56, 57, 58, 59, 60, 61, 62, 15, 63, 64, 65, 66, 67, 68, 69, 70, 71, 10, 11, 12, 13, 14, 72, 73, 24, 74, 42, 35, 36, 37, 75, 76, 77, 78, 79, 80, 81, 82, 83, 84, 85, 86, 87, 88, 89, 90, 91, 92, 93, 94, 95, 96, 97, 98, 99, 100, 101, 102, 103, 104, 105, 106, 107, 108, 109, 110, 111, 124, 125, 126, 127, 128, 129, 130, 131, 132, 133, 134, 135, 136, 137, 138] (by decide +kernel) (by decide +kernel)
set_option maxRecDepth 20000 in
theorem gX9_pourLeast_X1_elected : GoodIn wsX9_pourLeast (wsV RX9 158 RX1 yX1_elected wsX1_elected) := goodIn_app (goodIn_of _ (by decide +kernel)) ggX9_pourLeast_X1_elected
set_option maxRecDepth 20000 in
theorem ggX9_pourLeast_X9_copyRow : GoodIn wsX9_pourLeast wsX9_copyRow := goodIn_r _ [21, 22, 23, 24, 25, 26, 27, 28, 29] (by decide +kernel) (by decide +kernel)
set_option maxRecDepth 20000 in
theorem gX9_pourLeast_X9_copyRow : GoodIn wsX9_pourLeast (va_wsS RX9 242 yX9_copyRow wsX9_copyRow) := goodIn_app (goodIn_of _ (by decide +kernel)) ggX9_pourLeast_X9_copyRow
theorem dX9_pourLeast_0 : decode cX9_pourLeast 0 = .ok (.aload_n 0, 1) := by decide +kernel
theorem dX9_pourLeast_1 : decode cX9_pourLeast 1 = .ok (.getfield 48, 3) := by decide +kernel
theorem dX9_pourLeast_4 : decode cX9_pourLeast 4 = .ok (.aload_n 0, 1) := by decide +kernel
theorem dX9_pourLeast_5 : decode cX9_pourLeast 5 = .ok (.getfield 41, 3) := by decide +kernel
theorem dX9_pourLeast_8 : decode cX9_pourLeast 8 = .ok (.invokevirtual 174, 3) := by decide +kernel
theorem dX9_pourLeast_11 : decode cX9_pourLeast 11 = .ok (.iconst 1, 1) := by decide +kernel
theorem dX9_pourLeast_12 : decode cX9_pourLeast 12 = .ok (.istore_n 2, 1) := by decide +kernel
theorem dX9_pourLeast_13 : decode cX9_pourLeast 13 = .ok (.iconst 1, 1) := by decide +kernel
theorem dX9_pourLeast_14 : decode cX9_pourLeast 14 = .ok (.istore_n 3, 1) := by decide +kernel
theorem dX9_pourLeast_15 : decode cX9_pourLeast 15 = .ok (.iload_n 3, 1) := by decide +kernel
theorem dX9_pourLeast_16 : decode cX9_pourLeast 16 = .ok (.aload_n 0, 1) := by decide +kernel
theorem dX9_pourLeast_17 : decode cX9_pourLeast 17 = .ok (.getfield 41, 3) := by decide +kernel
theorem dX9_pourLeast_20 : decode cX9_pourLeast 20 = .ok (.getfield 84, 3) := by decide +kernel
theorem dX9_pourLeast_23 : decode cX9_pourLeast 23 = .ok (.if_icmp .ge 14, 3) := by decide +kernel
theorem dX9_pourLeast_26 : decode cX9_pourLeast 26 = .ok (.iload_n 2, 1) := by decide +kernel
theorem dX9_pourLeast_27 : decode cX9_pourLeast 27 = .ok (.bipush 10, 2) := by decide +kernel
theorem dX9_pourLeast_29 : decode cX9_pourLeast 29 = .ok (.imul, 1) := by decide +kernel
theorem dX9_pourLeast_30 : decode cX9_pourLeast 30 = .ok (.istore_n 2, 1) := by decide +kernel
theorem dX9_pourLeast_31 : decode cX9_pourLeast 31 = .ok (.iinc 3 1, 3) := by decide +kernel
theorem dX9_pourLeast_34 : decode cX9_pourLeast 34 = .ok (.goto (-19), 3) := by decide +kernel
theorem dX9_pourLeast_37 : decode cX9_pourLeast 37 = .ok (.iconst (-1), 1) := by decide +kernel
theorem dX9_pourLeast_38 : decode cX9_pourLeast 38 = .ok (.istore_n 3, 1) := by decide +kernel
theorem dX9_pourLeast_39 : decode cX9_pourLeast 39 = .ok (.iconst 0, 1) := by decide +kernel
theorem dX9_pourLeast_40 : decode cX9_pourLeast 40 = .ok (.istore 4, 2) := by decide +kernel
theorem dX9_pourLeast_42 : decode cX9_pourLeast 42 = .ok (.iload 4, 2) := by decide +kernel
theorem dX9_pourLeast_44 : decode cX9_pourLeast 44 = .ok (.iload_n 2, 1) := by decide +kernel
theorem dX9_pourLeast_45 : decode cX9_pourLeast 45 = .ok (.if_icmp .ge 72, 3) := by decide +kernel
theorem dX9_pourLeast_48 : decode cX9_pourLeast 48 = .ok (.aload_n 0, 1) := by decide +kernel
theorem dX9_pourLeast_49 : decode cX9_pourLeast 49 = .ok (.iload_n 1, 1) := by decide +kernel
theorem dX9_pourLeast_50 : decode cX9_pourLeast 50 = .ok (.iload 4, 2) := by decide +kernel
theorem dX9_pourLeast_52 : decode cX9_pourLeast 52 = .ok (.invokevirtual 239, 3) := by decide +kernel
theorem dX9_pourLeast_55 : decode cX9_pourLeast 55 = .ok (.istore 5, 2) := by decide +kernel
theorem dX9_pourLeast_57 : decode cX9_pourLeast 57 = .ok (.iload 5, 2) := by decide +kernel
theorem dX9_pourLeast_59 : decode cX9_pourLeast 59 = .ok (.iconst (-1), 1) := by decide +kernel
theorem dX9_pourLeast_60 : decode cX9_pourLeast 60 = .ok (.if_icmp .eq 18, 3) := by decide +kernel
theorem dX9_pourLeast_63 : decode cX9_pourLeast 63 = .ok (.iload_n 3, 1) := by decide +kernel
theorem dX9_pourLeast_64 : decode cX9_pourLeast 64 = .ok (.iconst (-1), 1) := by decide +kernel
theorem dX9_pourLeast_65 : decode cX9_pourLeast 65 = .ok (.if_icmp .eq 9, 3) := by decide +kernel
theorem dX9_pourLeast_68 : decode cX9_pourLeast 68 = .ok (.iload 5, 2) := by decide +kernel
theorem dX9_pourLeast_70 : decode cX9_pourLeast 70 = .ok (.iload_n 3, 1) := by decide +kernel
theorem dX9_pourLeast_71 : decode cX9_pourLeast 71 = .ok (.if_icmp .ge 7, 3) := by decide +kernel
theorem dX9_pourLeast_74 : decode cX9_pourLeast 74 = .ok (.iconst 1, 1) := by decide +kernel
theorem dX9_pourLeast_75 : decode cX9_pourLeast 75 = .ok (.goto 4, 3) := by decide +kernel
theorem dX9_pourLeast_78 : decode cX9_pourLeast 78 = .ok (.iconst 0, 1) := by decide +kernel
theorem dX9_pourLeast_79 : decode cX9_pourLeast 79 = .ok (.istore 6, 2) := by decide +kernel
theorem dX9_pourLeast_81 : decode cX9_pourLeast 81 = .ok (.iload 6, 2) := by decide +kernel
theorem dX9_pourLeast_83 : decode cX9_pourLeast 83 = .ok (.ifCond .eq 28, 3) := by decide +kernel
theorem dX9_pourLeast_86 : decode cX9_pourLeast 86 = .ok (.aload_n 0, 1) := by decide +kernel
theorem dX9_pourLeast_87 : decode cX9_pourLeast 87 = .ok (.getfield 48, 3) := by decide +kernel
theorem dX9_pourLeast_90 : decode cX9_pourLeast 90 = .ok (.invokevirtual 158, 3) := by decide +kernel
theorem dX9_pourLeast_93 : decode cX9_pourLeast 93 = .ok (.iload_n 1, 1) := by decide +kernel
theorem dX9_pourLeast_94 : decode cX9_pourLeast 94 = .ok (.if_icmp .ne 17, 3) := by decide +kernel
theorem dX9_pourLeast_97 : decode cX9_pourLeast 97 = .ok (.iload 5, 2) := by decide +kernel
theorem dX9_pourLeast_99 : decode cX9_pourLeast 99 = .ok (.istore_n 3, 1) := by decide +kernel
theorem dX9_pourLeast_100 : decode cX9_pourLeast 100 = .ok (.aload_n 0, 1) := by decide +kernel
theorem dX9_pourLeast_101 : decode cX9_pourLeast 101 = .ok (.getfield 26, 3) := by decide +kernel
theorem dX9_pourLeast_104 : decode cX9_pourLeast 104 = .ok (.aload_n 0, 1) := by decide +kernel
theorem dX9_pourLeast_105 : decode cX9_pourLeast 105 = .ok (.getfield 30, 3) := by decide +kernel
theorem dX9_pourLeast_108 : decode cX9_pourLeast 108 = .ok (.invokestatic 242, 3) := by decide +kernel
theorem dX9_pourLeast_111 : decode cX9_pourLeast 111 = .ok (.iinc 4 1, 3) := by decide +kernel
theorem dX9_pourLeast_114 : decode cX9_pourLeast 114 = .ok (.goto (-72), 3) := by decide +kernel
theorem dX9_pourLeast_117 : decode cX9_pourLeast 117 = .ok (.iload_n 3, 1) := by decide +kernel
theorem dX9_pourLeast_118 : decode cX9_pourLeast 118 = .ok (.ireturn, 1) := by decide +kernel
set_option maxRecDepth 20000 in
theorem ggX9_pour_X1_hasSinger : GoodIn wsX9_pour wsX1_hasSinger := goodIn_r _ [8, 9, 31, 32, 33, 34, 35, 36, 37, 38, 39, 40] (by decide +kernel) (by decide +kernel)
set_option maxRecDepth 20000 in
theorem gX9_pour_X1_hasSinger : GoodIn wsX9_pour (wsV RX9 87 RX1 yX1_hasSinger wsX1_hasSinger) := goodIn_app (goodIn_of _ (by decide +kernel)) ggX9_pour_X1_hasSinger
set_option maxRecDepth 20000 in
theorem ggX9_pour_X1_honeyOf : GoodIn wsX9_pour wsX1_honeyOf := goodIn_r _ [13, 14, 15, 5, 6, 7, 8, 9, 31, 32, 33, 34, 35, 36, 37, 38, 39, 40] (by decide +kernel) (by decide +kernel)
set_option maxRecDepth 20000 in
theorem gX9_pour_X1_honeyOf : GoodIn wsX9_pour (wsV RX9 109 RX1 yX1_honeyOf wsX1_honeyOf) := goodIn_app (goodIn_of _ (by decide +kernel)) ggX9_pour_X1_honeyOf
set_option maxRecDepth 20000 in
theorem ggX9_pour_X1_setHoney : GoodIn wsX9_pour wsX1_setHoney := goodIn_r _ [19, 14, 15, 5, 6, 7, 8, 9, 31, 32, 33, 34, 35, 36, 37, 38, 39, 40] (by decide +kernel) (by decide +kernel)
set_option maxRecDepth 20000 in
theorem gX9_pour_X1_setHoney : GoodIn wsX9_pour (wsV RX9 148 RX1 yX1_setHoney wsX1_setHoney) := goodIn_app (goodIn_of _ (by decide +kernel)) ggX9_pour_X1_setHoney
theorem dX9_pour_0 : decode cX9_pour 0 = .ok (.iload_n 2, 1) := by decide +kernel
theorem dX9_pour_1 : decode cX9_pour 1 = .ok (.istore_n 3, 1) := by decide +kernel
theorem dX9_pour_2 : decode cX9_pour 2 = .ok (.iconst 0, 1) := by decide +kernel
theorem dX9_pour_3 : decode cX9_pour 3 = .ok (.istore 4, 2) := by decide +kernel
theorem dX9_pour_5 : decode cX9_pour 5 = .ok (.iconst 0, 1) := by decide +kernel
theorem dX9_pour_6 : decode cX9_pour 6 = .ok (.istore 5, 2) := by decide +kernel
theorem dX9_pour_8 : decode cX9_pour 8 = .ok (.iconst 3, 1) := by decide +kernel
theorem dX9_pour_9 : decode cX9_pour 9 = .ok (.istore 6, 2) := by decide +kernel
theorem dX9_pour_11 : decode cX9_pour 11 = .ok (.iload 6, 2) := by decide +kernel
theorem dX9_pour_13 : decode cX9_pour 13 = .ok (.ifCond .lt 103, 3) := by decide +kernel
theorem dX9_pour_16 : decode cX9_pour 16 = .ok (.aload_n 0, 1) := by decide +kernel
theorem dX9_pour_17 : decode cX9_pour 17 = .ok (.getfield 26, 3) := by decide +kernel
theorem dX9_pour_20 : decode cX9_pour 20 = .ok (.iload 6, 2) := by decide +kernel
theorem dX9_pour_22 : decode cX9_pour 22 = .ok (.iconst 0, 1) := by decide +kernel
theorem dX9_pour_23 : decode cX9_pour 23 = .ok (.iastore, 1) := by decide +kernel
theorem dX9_pour_24 : decode cX9_pour 24 = .ok (.iload 6, 2) := by decide +kernel
theorem dX9_pour_26 : decode cX9_pour 26 = .ok (.iload_n 1, 1) := by decide +kernel
theorem dX9_pour_27 : decode cX9_pour 27 = .ok (.if_icmp .eq 83, 3) := by decide +kernel
theorem dX9_pour_30 : decode cX9_pour 30 = .ok (.aload_n 0, 1) := by decide +kernel
theorem dX9_pour_31 : decode cX9_pour 31 = .ok (.getfield 41, 3) := by decide +kernel
theorem dX9_pour_34 : decode cX9_pour 34 = .ok (.iload 6, 2) := by decide +kernel
theorem dX9_pour_36 : decode cX9_pour 36 = .ok (.invokevirtual 87, 3) := by decide +kernel
theorem dX9_pour_39 : decode cX9_pour 39 = .ok (.ifCond .eq 71, 3) := by decide +kernel
theorem dX9_pour_42 : decode cX9_pour 42 = .ok (.aload_n 0, 1) := by decide +kernel
theorem dX9_pour_43 : decode cX9_pour 43 = .ok (.getfield 26, 3) := by decide +kernel
theorem dX9_pour_46 : decode cX9_pour 46 = .ok (.iload 6, 2) := by decide +kernel
theorem dX9_pour_48 : decode cX9_pour 48 = .ok (.iload_n 3, 1) := by decide +kernel
theorem dX9_pour_49 : decode cX9_pour 49 = .ok (.bipush 10, 2) := by decide +kernel
theorem dX9_pour_51 : decode cX9_pour 51 = .ok (.irem, 1) := by decide +kernel
theorem dX9_pour_52 : decode cX9_pour 52 = .ok (.iastore, 1) := by decide +kernel
theorem dX9_pour_53 : decode cX9_pour 53 = .ok (.iload_n 3, 1) := by decide +kernel
theorem dX9_pour_54 : decode cX9_pour 54 = .ok (.bipush 10, 2) := by decide +kernel
theorem dX9_pour_56 : decode cX9_pour 56 = .ok (.idiv, 1) := by decide +kernel
theorem dX9_pour_57 : decode cX9_pour 57 = .ok (.istore_n 3, 1) := by decide +kernel
theorem dX9_pour_58 : decode cX9_pour 58 = .ok (.iload 4, 2) := by decide +kernel
theorem dX9_pour_60 : decode cX9_pour 60 = .ok (.aload_n 0, 1) := by decide +kernel
theorem dX9_pour_61 : decode cX9_pour 61 = .ok (.getfield 26, 3) := by decide +kernel
theorem dX9_pour_64 : decode cX9_pour 64 = .ok (.iload 6, 2) := by decide +kernel
theorem dX9_pour_66 : decode cX9_pour 66 = .ok (.iaload, 1) := by decide +kernel
theorem dX9_pour_67 : decode cX9_pour 67 = .ok (.iadd, 1) := by decide +kernel
theorem dX9_pour_68 : decode cX9_pour 68 = .ok (.istore 4, 2) := by decide +kernel
theorem dX9_pour_70 : decode cX9_pour 70 = .ok (.aload_n 0, 1) := by decide +kernel
theorem dX9_pour_71 : decode cX9_pour 71 = .ok (.getfield 41, 3) := by decide +kernel
theorem dX9_pour_74 : decode cX9_pour 74 = .ok (.iload 6, 2) := by decide +kernel
theorem dX9_pour_76 : decode cX9_pour 76 = .ok (.invokevirtual 109, 3) := by decide +kernel
theorem dX9_pour_79 : decode cX9_pour 79 = .ok (.aload_n 0, 1) := by decide +kernel
theorem dX9_pour_80 : decode cX9_pour 80 = .ok (.getfield 26, 3) := by decide +kernel
theorem dX9_pour_83 : decode cX9_pour 83 = .ok (.iload 6, 2) := by decide +kernel
theorem dX9_pour_85 : decode cX9_pour 85 = .ok (.iaload, 1) := by decide +kernel
theorem dX9_pour_86 : decode cX9_pour 86 = .ok (.iadd, 1) := by decide +kernel
theorem dX9_pour_87 : decode cX9_pour 87 = .ok (.istore 7, 2) := by decide +kernel
theorem dX9_pour_89 : decode cX9_pour 89 = .ok (.iload 7, 2) := by decide +kernel
theorem dX9_pour_91 : decode cX9_pour 91 = .ok (.bipush 9, 2) := by decide +kernel
theorem dX9_pour_93 : decode cX9_pour 93 = .ok (.if_icmp .le 6, 3) := by decide +kernel
theorem dX9_pour_96 : decode cX9_pour 96 = .ok (.iconst 1, 1) := by decide +kernel
theorem dX9_pour_97 : decode cX9_pour 97 = .ok (.istore 5, 2) := by decide +kernel
theorem dX9_pour_99 : decode cX9_pour 99 = .ok (.aload_n 0, 1) := by decide +kernel
theorem dX9_pour_100 : decode cX9_pour 100 = .ok (.getfield 48, 3) := by decide +kernel
theorem dX9_pour_103 : decode cX9_pour 103 = .ok (.iload 6, 2) := by decide +kernel
theorem dX9_pour_105 : decode cX9_pour 105 = .ok (.iload 7, 2) := by decide +kernel
theorem dX9_pour_107 : decode cX9_pour 107 = .ok (.invokevirtual 148, 3) := by decide +kernel
theorem dX9_pour_110 : decode cX9_pour 110 = .ok (.iinc 6 (-1), 3) := by decide +kernel
theorem dX9_pour_113 : decode cX9_pour 113 = .ok (.goto (-102), 3) := by decide +kernel
theorem dX9_pour_116 : decode cX9_pour 116 = .ok (.iload 5, 2) := by decide +kernel
theorem dX9_pour_118 : decode cX9_pour 118 = .ok (.ifCond .eq 7, 3) := by decide +kernel
theorem dX9_pour_121 : decode cX9_pour 121 = .ok (.iconst (-1), 1) := by decide +kernel
theorem dX9_pour_122 : decode cX9_pour 122 = .ok (.goto 5, 3) := by decide +kernel
theorem dX9_pour_125 : decode cX9_pour 125 = .ok (.iload 4, 2) := by decide +kernel
theorem dX9_pour_127 : decode cX9_pour 127 = .ok (.ireturn, 1) := by decide +kernel
set_option maxRecDepth 20000 in
theorem ggX9_canMind_X4_wouldBeSo : GoodIn wsX9_canMind wsX4_wouldBeSo := goodIn_r _ [7, 8, 9, 10, 11, 12, 13, 14, 15, 16, 17, 18, 19, 20, 21, 22, 23, 24, 25, 26, 27, 28, 29, 30, 31, 32, 33, 34, 35, 36, 37, 38, 39, 40, 41, 42, 43, 44, 45, 46, 47, 48, 49, 50, 51, 52, 53, 54, 55, 56, 57, 58, 59, 60, 61, 62, 63, 64, 65, 66, 67, 68, 69, 81, 82, 83, 84, 85, 86, 87, 88, 89, 90, 91, 92, 93, 94, 95, 96, 97, 98, 99, 100] (by decide +kernel) (by decide +kernel)
set_option maxRecDepth 20000 in
theorem gX9_canMind_X4_wouldBeSo : GoodIn wsX9_canMind (wsV RX9 246 RX4 yX4_wouldBeSo wsX4_wouldBeSo) := goodIn_app (goodIn_of _ (by decide +kernel)) ggX9_canMind_X4_wouldBeSo
theorem dX9_canMind_0 : decode cX9_canMind 0 = .ok (.iconst 0, 1) := by decide +kernel
theorem dX9_canMind_1 : decode cX9_canMind 1 = .ok (.istore_n 2, 1) := by decide +kernel
theorem dX9_canMind_2 : decode cX9_canMind 2 = .ok (.iconst 0, 1) := by decide +kernel
theorem dX9_canMind_3 : decode cX9_canMind 3 = .ok (.istore_n 3, 1) := by decide +kernel
theorem dX9_canMind_4 : decode cX9_canMind 4 = .ok (.iload_n 3, 1) := by decide +kernel
theorem dX9_canMind_5 : decode cX9_canMind 5 = .ok (.iconst 4, 1) := by decide +kernel
theorem dX9_canMind_6 : decode cX9_canMind 6 = .ok (.if_icmp .ge 31, 3) := by decide +kernel
theorem dX9_canMind_9 : decode cX9_canMind 9 = .ok (.aload_n 0, 1) := by decide +kernel
theorem dX9_canMind_10 : decode cX9_canMind 10 = .ok (.getfield 19, 3) := by decide +kernel
theorem dX9_canMind_13 : decode cX9_canMind 13 = .ok (.aload_n 0, 1) := by decide +kernel
theorem dX9_canMind_14 : decode cX9_canMind 14 = .ok (.getfield 41, 3) := by decide +kernel
theorem dX9_canMind_17 : decode cX9_canMind 17 = .ok (.iload_n 1, 1) := by decide +kernel
theorem dX9_canMind_18 : decode cX9_canMind 18 = .ok (.iload_n 3, 1) := by decide +kernel
theorem dX9_canMind_19 : decode cX9_canMind 19 = .ok (.invokevirtual 246, 3) := by decide +kernel
theorem dX9_canMind_22 : decode cX9_canMind 22 = .ok (.ifCond .eq 9, 3) := by decide +kernel
theorem dX9_canMind_25 : decode cX9_canMind 25 = .ok (.iload_n 2, 1) := by decide +kernel
theorem dX9_canMind_26 : decode cX9_canMind 26 = .ok (.iconst 1, 1) := by decide +kernel
theorem dX9_canMind_27 : decode cX9_canMind 27 = .ok (.iload_n 3, 1) := by decide +kernel
theorem dX9_canMind_28 : decode cX9_canMind 28 = .ok (.ishl, 1) := by decide +kernel
theorem dX9_canMind_29 : decode cX9_canMind 29 = .ok (.ior, 1) := by decide +kernel
theorem dX9_canMind_30 : decode cX9_canMind 30 = .ok (.istore_n 2, 1) := by decide +kernel
theorem dX9_canMind_31 : decode cX9_canMind 31 = .ok (.iinc 3 1, 3) := by decide +kernel
theorem dX9_canMind_34 : decode cX9_canMind 34 = .ok (.goto (-30), 3) := by decide +kernel
theorem dX9_canMind_37 : decode cX9_canMind 37 = .ok (.iload_n 2, 1) := by decide +kernel
theorem dX9_canMind_38 : decode cX9_canMind 38 = .ok (.ireturn, 1) := by decide +kernel
set_option maxRecDepth 20000 in
theorem ggX9_bestAsk_X9_canMind : GoodIn wsX9_bestAsk wsX9_canMind := goodIn_r _ [6, 7, 1, 8, 9, 10, 11, 12, 13, 14, 15, 16, 17, 18, 19, 20, 21, 22, 23, 24, 25, 26, 27, 28, 29, 30, 31, 32, 33, 34, 35, 36, 37, 38, 39, 40, 41, 42, 43, 44, 45, 46, 47, 48, 49, 50, 51, 52, 53, 54, 55, 56, 57, 58, 59, 60, 61, 62, 63, 64, 65, 66, 67, 68, 69, 70, 71, 72, 73, 74, 88, 89, 90, 91, 92, 93, 94, 95, 96, 97, 98, 109, 110, 111, 112, 113, 99, 100, 101, 102, 103, 104, 105, 106, 107, 108, 114, 115, 116, 117, 118] (by decide +kernel) (by decide +kernel)
set_option maxRecDepth 20000 in
theorem gX9_bestAsk_X9_canMind : GoodIn wsX9_bestAsk (wsV RX9 135 RX9 yX9_canMind wsX9_canMind) := goodIn_app (goodIn_of _ (by decide +kernel)) ggX9_bestAsk_X9_canMind
set_option maxRecDepth 20000 in
theorem ggX9_bestAsk_X9_leftAtWorst : GoodIn wsX9_bestAsk wsX9_leftAtWorst := goodIn_r _ [78, 1, 79, 30, 31, 32, 80, 19, 20, 21, 22, 23, 24, 25, 26, 27, 28, 29, 33, 34, 35, 36, 37, 38, 39, 40, 41, 42, 43, 44, 45, 46, 47, 48, 49, 50, 51, 52, 53, 54, 55, 56, 57, 58, 59, 60, 61, 62, 63, 64, 65, 66, 67, 68, 69, 70, 71, 72, 73, 74, 81, 82, 83, 84, 85, 86, 87, 88, 89, 90, 91, 92, 93, 94, 95, 96, 97, 98, 99, 100, 101, 102, 103, 104, 105, 106, 107, 108, 114, 115, 116, 117, 118] (by decide +kernel) (by decide +kernel)
set_option maxRecDepth 20000 in
theorem gX9_bestAsk_X9_leftAtWorst : GoodIn wsX9_bestAsk (wsV RX9 250 RX9 yX9_leftAtWorst wsX9_leftAtWorst) := goodIn_app (goodIn_of _ (by decide +kernel)) ggX9_bestAsk_X9_leftAtWorst
theorem dX9_bestAsk_0 : decode cX9_bestAsk 0 = .ok (.aload_n 0, 1) := by decide +kernel
theorem dX9_bestAsk_1 : decode cX9_bestAsk 1 = .ok (.iload_n 1, 1) := by decide +kernel
theorem dX9_bestAsk_2 : decode cX9_bestAsk 2 = .ok (.invokevirtual 135, 3) := by decide +kernel
theorem dX9_bestAsk_5 : decode cX9_bestAsk 5 = .ok (.istore_n 2, 1) := by decide +kernel
theorem dX9_bestAsk_6 : decode cX9_bestAsk 6 = .ok (.iload_n 2, 1) := by decide +kernel
theorem dX9_bestAsk_7 : decode cX9_bestAsk 7 = .ok (.ifCond .ne 5, 3) := by decide +kernel
theorem dX9_bestAsk_10 : decode cX9_bestAsk 10 = .ok (.iconst (-1), 1) := by decide +kernel
theorem dX9_bestAsk_11 : decode cX9_bestAsk 11 = .ok (.ireturn, 1) := by decide +kernel
theorem dX9_bestAsk_12 : decode cX9_bestAsk 12 = .ok (.iconst (-1), 1) := by decide +kernel
theorem dX9_bestAsk_13 : decode cX9_bestAsk 13 = .ok (.istore_n 3, 1) := by decide +kernel
theorem dX9_bestAsk_14 : decode cX9_bestAsk 14 = .ok (.iconst 5, 1) := by decide +kernel
theorem dX9_bestAsk_15 : decode cX9_bestAsk 15 = .ok (.istore 4, 2) := by decide +kernel
theorem dX9_bestAsk_17 : decode cX9_bestAsk 17 = .ok (.iconst 0, 1) := by decide +kernel
theorem dX9_bestAsk_18 : decode cX9_bestAsk 18 = .ok (.istore 5, 2) := by decide +kernel
theorem dX9_bestAsk_20 : decode cX9_bestAsk 20 = .ok (.iload 5, 2) := by decide +kernel
theorem dX9_bestAsk_22 : decode cX9_bestAsk 22 = .ok (.aload_n 0, 1) := by decide +kernel
theorem dX9_bestAsk_23 : decode cX9_bestAsk 23 = .ok (.getfield 41, 3) := by decide +kernel
theorem dX9_bestAsk_26 : decode cX9_bestAsk 26 = .ok (.getfield 84, 3) := by decide +kernel
theorem dX9_bestAsk_29 : decode cX9_bestAsk 29 = .ok (.if_icmp .ge 71, 3) := by decide +kernel
theorem dX9_bestAsk_32 : decode cX9_bestAsk 32 = .ok (.iconst 0, 1) := by decide +kernel
theorem dX9_bestAsk_33 : decode cX9_bestAsk 33 = .ok (.istore 6, 2) := by decide +kernel
theorem dX9_bestAsk_35 : decode cX9_bestAsk 35 = .ok (.iload 6, 2) := by decide +kernel
theorem dX9_bestAsk_37 : decode cX9_bestAsk 37 = .ok (.aload_n 0, 1) := by decide +kernel
theorem dX9_bestAsk_38 : decode cX9_bestAsk 38 = .ok (.getfield 41, 3) := by decide +kernel
theorem dX9_bestAsk_41 : decode cX9_bestAsk 41 = .ok (.getfield 84, 3) := by decide +kernel
theorem dX9_bestAsk_44 : decode cX9_bestAsk 44 = .ok (.if_icmp .ge 50, 3) := by decide +kernel
theorem dX9_bestAsk_47 : decode cX9_bestAsk 47 = .ok (.iload 5, 2) := by decide +kernel
theorem dX9_bestAsk_49 : decode cX9_bestAsk 49 = .ok (.iload 6, 2) := by decide +kernel
theorem dX9_bestAsk_51 : decode cX9_bestAsk 51 = .ok (.if_icmp .ne 7, 3) := by decide +kernel
theorem dX9_bestAsk_54 : decode cX9_bestAsk 54 = .ok (.iconst 5, 1) := by decide +kernel
theorem dX9_bestAsk_55 : decode cX9_bestAsk 55 = .ok (.goto 12, 3) := by decide +kernel
theorem dX9_bestAsk_58 : decode cX9_bestAsk 58 = .ok (.aload_n 0, 1) := by decide +kernel
theorem dX9_bestAsk_59 : decode cX9_bestAsk 59 = .ok (.iload_n 2, 1) := by decide +kernel
theorem dX9_bestAsk_60 : decode cX9_bestAsk 60 = .ok (.iload 5, 2) := by decide +kernel
theorem dX9_bestAsk_62 : decode cX9_bestAsk 62 = .ok (.iload 6, 2) := by decide +kernel
theorem dX9_bestAsk_64 : decode cX9_bestAsk 64 = .ok (.invokevirtual 250, 3) := by decide +kernel
theorem dX9_bestAsk_67 : decode cX9_bestAsk 67 = .ok (.istore 7, 2) := by decide +kernel
theorem dX9_bestAsk_69 : decode cX9_bestAsk 69 = .ok (.iload 7, 2) := by decide +kernel
theorem dX9_bestAsk_71 : decode cX9_bestAsk 71 = .ok (.iload 4, 2) := by decide +kernel
theorem dX9_bestAsk_73 : decode cX9_bestAsk 73 = .ok (.if_icmp .ge 15, 3) := by decide +kernel
theorem dX9_bestAsk_76 : decode cX9_bestAsk 76 = .ok (.iload 7, 2) := by decide +kernel
theorem dX9_bestAsk_78 : decode cX9_bestAsk 78 = .ok (.istore 4, 2) := by decide +kernel
theorem dX9_bestAsk_80 : decode cX9_bestAsk 80 = .ok (.iconst 4, 1) := by decide +kernel
theorem dX9_bestAsk_81 : decode cX9_bestAsk 81 = .ok (.iload 5, 2) := by decide +kernel
theorem dX9_bestAsk_83 : decode cX9_bestAsk 83 = .ok (.imul, 1) := by decide +kernel
theorem dX9_bestAsk_84 : decode cX9_bestAsk 84 = .ok (.iload 6, 2) := by decide +kernel
theorem dX9_bestAsk_86 : decode cX9_bestAsk 86 = .ok (.iadd, 1) := by decide +kernel
theorem dX9_bestAsk_87 : decode cX9_bestAsk 87 = .ok (.istore_n 3, 1) := by decide +kernel
theorem dX9_bestAsk_88 : decode cX9_bestAsk 88 = .ok (.iinc 6 1, 3) := by decide +kernel
theorem dX9_bestAsk_91 : decode cX9_bestAsk 91 = .ok (.goto (-56), 3) := by decide +kernel
theorem dX9_bestAsk_94 : decode cX9_bestAsk 94 = .ok (.iinc 5 1, 3) := by decide +kernel
theorem dX9_bestAsk_97 : decode cX9_bestAsk 97 = .ok (.goto (-77), 3) := by decide +kernel
theorem dX9_bestAsk_100 : decode cX9_bestAsk 100 = .ok (.iload_n 3, 1) := by decide +kernel
