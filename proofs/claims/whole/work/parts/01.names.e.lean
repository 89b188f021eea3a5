theorem dX9_bestAsk_101 : decode cX9_bestAsk 101 = .ok (.ireturn, 1) := by decide +kernel
set_option maxRecDepth 20000 in
theorem ggX9_leftAtWorst_X1_bad : GoodIn wsX9_leftAtWorst wsX1_bad := goodIn_r _ [10, 11, 12, 13, 14, 15, 16, 17, 3, 4, 5, 18, 19, 20, 9, 21, 22, 23, 24, 25, 26, 27, 28, 29, 30, 31, 32, 33, 34, 35, 36, 37, 38, 39, 40, 41, 42, 43, 44, 45, 46, 47, 48, 49, 50, 51, 52, 53, 54, 55, 56, 57, 58, 59, 78, 79, 80, 81, 82, 83, 84, 85, 86, 87, 88, 89, 90, 91, 92] (by decide +kernel) (by decide +kernel)
set_option maxRecDepth 20000 in
theorem gX9_leftAtWorst_X1_bad : GoodIn wsX9_leftAtWorst (wsV RX9 132 RX1 yX1_bad wsX1_bad) := goodIn_app (goodIn_of _ (by decide +kernel)) ggX9_leftAtWorst_X1_bad
set_option maxRecDepth 20000 in
theorem ggX9_leftAtWorst_J6_bitCount_0f7a4 : GoodIn wsX9_leftAtWorst wsJ6_bitCount_0f7a4 := goodIn_r _ [63, 64, 65, 66] (by decide +kernel) (by decide +kernel)
set_option maxRecDepth 20000 in
theorem gX9_leftAtWorst_J6_bitCount_0f7a4 : GoodIn wsX9_leftAtWorst (va_wsS RX9 254 yJ6_bitCount_0f7a4 wsJ6_bitCount_0f7a4) := goodIn_app (goodIn_of _ (by decide +kernel)) ggX9_leftAtWorst_J6_bitCount_0f7a4
theorem dX9_leftAtWorst_0 : decode cX9_leftAtWorst 0 = .ok (.iconst 0, 1) := by decide +kernel
theorem dX9_leftAtWorst_1 : decode cX9_leftAtWorst 1 = .ok (.istore 4, 2) := by decide +kernel
theorem dX9_leftAtWorst_3 : decode cX9_leftAtWorst 3 = .ok (.iconst 0, 1) := by decide +kernel
theorem dX9_leftAtWorst_4 : decode cX9_leftAtWorst 4 = .ok (.istore 5, 2) := by decide +kernel
theorem dX9_leftAtWorst_6 : decode cX9_leftAtWorst 6 = .ok (.iload 5, 2) := by decide +kernel
theorem dX9_leftAtWorst_8 : decode cX9_leftAtWorst 8 = .ok (.iconst 4, 1) := by decide +kernel
theorem dX9_leftAtWorst_9 : decode cX9_leftAtWorst 9 = .ok (.if_icmp .ge 41, 3) := by decide +kernel
theorem dX9_leftAtWorst_12 : decode cX9_leftAtWorst 12 = .ok (.aload_n 0, 1) := by decide +kernel
theorem dX9_leftAtWorst_13 : decode cX9_leftAtWorst 13 = .ok (.getfield 41, 3) := by decide +kernel
theorem dX9_leftAtWorst_16 : decode cX9_leftAtWorst 16 = .ok (.iload_n 2, 1) := by decide +kernel
theorem dX9_leftAtWorst_17 : decode cX9_leftAtWorst 17 = .ok (.iload 5, 2) := by decide +kernel
theorem dX9_leftAtWorst_19 : decode cX9_leftAtWorst 19 = .ok (.invokevirtual 132, 3) := by decide +kernel
theorem dX9_leftAtWorst_22 : decode cX9_leftAtWorst 22 = .ok (.aload_n 0, 1) := by decide +kernel
theorem dX9_leftAtWorst_23 : decode cX9_leftAtWorst 23 = .ok (.getfield 41, 3) := by decide +kernel
theorem dX9_leftAtWorst_26 : decode cX9_leftAtWorst 26 = .ok (.iload_n 3, 1) := by decide +kernel
theorem dX9_leftAtWorst_27 : decode cX9_leftAtWorst 27 = .ok (.iload 5, 2) := by decide +kernel
theorem dX9_leftAtWorst_29 : decode cX9_leftAtWorst 29 = .ok (.invokevirtual 132, 3) := by decide +kernel
theorem dX9_leftAtWorst_32 : decode cX9_leftAtWorst 32 = .ok (.if_icmp .le 12, 3) := by decide +kernel
theorem dX9_leftAtWorst_35 : decode cX9_leftAtWorst 35 = .ok (.iload 4, 2) := by decide +kernel
theorem dX9_leftAtWorst_37 : decode cX9_leftAtWorst 37 = .ok (.iconst 1, 1) := by decide +kernel
theorem dX9_leftAtWorst_38 : decode cX9_leftAtWorst 38 = .ok (.iload 5, 2) := by decide +kernel
theorem dX9_leftAtWorst_40 : decode cX9_leftAtWorst 40 = .ok (.ishl, 1) := by decide +kernel
theorem dX9_leftAtWorst_41 : decode cX9_leftAtWorst 41 = .ok (.ior, 1) := by decide +kernel
theorem dX9_leftAtWorst_42 : decode cX9_leftAtWorst 42 = .ok (.istore 4, 2) := by decide +kernel
theorem dX9_leftAtWorst_44 : decode cX9_leftAtWorst 44 = .ok (.iinc 5 1, 3) := by decide +kernel
theorem dX9_leftAtWorst_47 : decode cX9_leftAtWorst 47 = .ok (.goto (-41), 3) := by decide +kernel
theorem dX9_leftAtWorst_50 : decode cX9_leftAtWorst 50 = .ok (.iload_n 1, 1) := by decide +kernel
theorem dX9_leftAtWorst_51 : decode cX9_leftAtWorst 51 = .ok (.iload 4, 2) := by decide +kernel
theorem dX9_leftAtWorst_53 : decode cX9_leftAtWorst 53 = .ok (.iand, 1) := by decide +kernel
theorem dX9_leftAtWorst_54 : decode cX9_leftAtWorst 54 = .ok (.invokestatic 254, 3) := by decide +kernel
theorem dX9_leftAtWorst_57 : decode cX9_leftAtWorst 57 = .ok (.iload_n 1, 1) := by decide +kernel
theorem dX9_leftAtWorst_58 : decode cX9_leftAtWorst 58 = .ok (.iload 4, 2) := by decide +kernel
theorem dX9_leftAtWorst_60 : decode cX9_leftAtWorst 60 = .ok (.iconst (-1), 1) := by decide +kernel
theorem dX9_leftAtWorst_61 : decode cX9_leftAtWorst 61 = .ok (.ixor, 1) := by decide +kernel
theorem dX9_leftAtWorst_62 : decode cX9_leftAtWorst 62 = .ok (.iand, 1) := by decide +kernel
theorem dX9_leftAtWorst_63 : decode cX9_leftAtWorst 63 = .ok (.invokestatic 254, 3) := by decide +kernel
theorem dX9_leftAtWorst_66 : decode cX9_leftAtWorst 66 = .ok (.invokestatic 259, 3) := by decide +kernel
theorem dX9_leftAtWorst_69 : decode cX9_leftAtWorst 69 = .ok (.ireturn, 1) := by decide +kernel
theorem dX9_copyRow_0 : decode cX9_copyRow 0 = .ok (.aload_n 0, 1) := by decide +kernel
theorem dX9_copyRow_1 : decode cX9_copyRow 1 = .ok (.iconst 0, 1) := by decide +kernel
theorem dX9_copyRow_2 : decode cX9_copyRow 2 = .ok (.aload_n 1, 1) := by decide +kernel
theorem dX9_copyRow_3 : decode cX9_copyRow 3 = .ok (.iconst 0, 1) := by decide +kernel
theorem dX9_copyRow_4 : decode cX9_copyRow 4 = .ok (.aload_n 0, 1) := by decide +kernel
theorem dX9_copyRow_5 : decode cX9_copyRow 5 = .ok (.arraylength, 1) := by decide +kernel
theorem dX9_copyRow_6 : decode cX9_copyRow 6 = .ok (.aload_n 1, 1) := by decide +kernel
theorem dX9_copyRow_7 : decode cX9_copyRow 7 = .ok (.arraylength, 1) := by decide +kernel
theorem dX9_copyRow_8 : decode cX9_copyRow 8 = .ok (.invokestatic 264, 3) := by decide +kernel
theorem dX9_copyRow_11 : decode cX9_copyRow 11 = .ok (.invokestatic 267, 3) := by decide +kernel
theorem dX9_copyRow_14 : decode cX9_copyRow 14 = .ok (.return_, 1) := by decide +kernel
theorem dX9_nextSeed_0 : decode cX9_nextSeed 0 = .ok (.ldc2_w 273, 3) := by decide +kernel
theorem dX9_nextSeed_3 : decode cX9_nextSeed 3 = .ok (.iload_n 0, 1) := by decide +kernel
theorem dX9_nextSeed_4 : decode cX9_nextSeed 4 = .ok (.i2l, 1) := by decide +kernel
theorem dX9_nextSeed_5 : decode cX9_nextSeed 5 = .ok (.lmul, 1) := by decide +kernel
theorem dX9_nextSeed_6 : decode cX9_nextSeed 6 = .ok (.ldc2_w 275, 3) := by decide +kernel
theorem dX9_nextSeed_9 : decode cX9_nextSeed 9 = .ok (.ladd, 1) := by decide +kernel
theorem dX9_nextSeed_10 : decode cX9_nextSeed 10 = .ok (.ldc2_w 277, 3) := by decide +kernel
theorem dX9_nextSeed_13 : decode cX9_nextSeed 13 = .ok (.land, 1) := by decide +kernel
theorem dX9_nextSeed_14 : decode cX9_nextSeed 14 = .ok (.l2i, 1) := by decide +kernel
theorem dX9_nextSeed_15 : decode cX9_nextSeed 15 = .ok (.ireturn, 1) := by decide +kernel
theorem dX9_drawn_0 : decode cX9_drawn 0 = .ok (.iload_n 1, 1) := by decide +kernel
theorem dX9_drawn_1 : decode cX9_drawn 1 = .ok (.iconst 1, 1) := by decide +kernel
theorem dX9_drawn_2 : decode cX9_drawn 2 = .ok (.if_icmp .ge 7, 3) := by decide +kernel
theorem dX9_drawn_5 : decode cX9_drawn 5 = .ok (.iconst 0, 1) := by decide +kernel
theorem dX9_drawn_6 : decode cX9_drawn 6 = .ok (.goto 10, 3) := by decide +kernel
theorem dX9_drawn_9 : decode cX9_drawn 9 = .ok (.iload_n 0, 1) := by decide +kernel
theorem dX9_drawn_10 : decode cX9_drawn 10 = .ok (.ldc_w 279, 3) := by decide +kernel
theorem dX9_drawn_13 : decode cX9_drawn 13 = .ok (.idiv, 1) := by decide +kernel
theorem dX9_drawn_14 : decode cX9_drawn 14 = .ok (.iload_n 1, 1) := by decide +kernel
theorem dX9_drawn_15 : decode cX9_drawn 15 = .ok (.irem, 1) := by decide +kernel
theorem dX9_drawn_16 : decode cX9_drawn 16 = .ok (.ireturn, 1) := by decide +kernel
theorem dX10_init_0 : decode cX10_init 0 = .ok (.aload_n 0, 1) := by decide +kernel
theorem dX10_init_1 : decode cX10_init 1 = .ok (.invokespecial 1, 3) := by decide +kernel
theorem dX10_init_4 : decode cX10_init 4 = .ok (.aload_n 0, 1) := by decide +kernel
theorem dX10_init_5 : decode cX10_init 5 = .ok (.bipush 32, 2) := by decide +kernel
theorem dX10_init_7 : decode cX10_init 7 = .ok (.newarray .int, 2) := by decide +kernel
theorem dX10_init_9 : decode cX10_init 9 = .ok (.putfield 7, 3) := by decide +kernel
theorem dX10_init_12 : decode cX10_init 12 = .ok (.aload_n 0, 1) := by decide +kernel
theorem dX10_init_13 : decode cX10_init 13 = .ok (.bipush 20, 2) := by decide +kernel
theorem dX10_init_15 : decode cX10_init 15 = .ok (.newarray .int, 2) := by decide +kernel
theorem dX10_init_17 : decode cX10_init 17 = .ok (.putfield 13, 3) := by decide +kernel
theorem dX10_init_20 : decode cX10_init 20 = .ok (.aload_n 0, 1) := by decide +kernel
theorem dX10_init_21 : decode cX10_init 21 = .ok (.iconst 5, 1) := by decide +kernel
theorem dX10_init_22 : decode cX10_init 22 = .ok (.newarray .int, 2) := by decide +kernel
theorem dX10_init_24 : decode cX10_init 24 = .ok (.putfield 16, 3) := by decide +kernel
theorem dX10_init_27 : decode cX10_init 27 = .ok (.aload_n 0, 1) := by decide +kernel
theorem dX10_init_28 : decode cX10_init 28 = .ok (.bipush 32, 2) := by decide +kernel
theorem dX10_init_30 : decode cX10_init 30 = .ok (.newarray .int, 2) := by decide +kernel
theorem dX10_init_32 : decode cX10_init 32 = .ok (.putfield 19, 3) := by decide +kernel
theorem dX10_init_35 : decode cX10_init 35 = .ok (.aload_n 0, 1) := by decide +kernel
theorem dX10_init_36 : decode cX10_init 36 = .ok (.iconst 5, 1) := by decide +kernel
theorem dX10_init_37 : decode cX10_init 37 = .ok (.newarray .int, 2) := by decide +kernel
theorem dX10_init_39 : decode cX10_init 39 = .ok (.putfield 22, 3) := by decide +kernel
theorem dX10_init_42 : decode cX10_init 42 = .ok (.aload_n 0, 1) := by decide +kernel
theorem dX10_init_43 : decode cX10_init 43 = .ok (.iconst 4, 1) := by decide +kernel
theorem dX10_init_44 : decode cX10_init 44 = .ok (.newarray .int, 2) := by decide +kernel
theorem dX10_init_46 : decode cX10_init 46 = .ok (.putfield 25, 3) := by decide +kernel
theorem dX10_init_49 : decode cX10_init 49 = .ok (.aload_n 0, 1) := by decide +kernel
theorem dX10_init_50 : decode cX10_init 50 = .ok (.iconst 4, 1) := by decide +kernel
theorem dX10_init_51 : decode cX10_init 51 = .ok (.newarray .int, 2) := by decide +kernel
theorem dX10_init_53 : decode cX10_init 53 = .ok (.putfield 28, 3) := by decide +kernel
theorem dX10_init_56 : decode cX10_init 56 = .ok (.aload_n 0, 1) := by decide +kernel
theorem dX10_init_57 : decode cX10_init 57 = .ok (.bipush 32, 2) := by decide +kernel
theorem dX10_init_59 : decode cX10_init 59 = .ok (.newarray .int, 2) := by decide +kernel
theorem dX10_init_61 : decode cX10_init 61 = .ok (.putfield 31, 3) := by decide +kernel
theorem dX10_init_64 : decode cX10_init 64 = .ok (.aload_n 0, 1) := by decide +kernel
theorem dX10_init_65 : decode cX10_init 65 = .ok (.bipush 32, 2) := by decide +kernel
theorem dX10_init_67 : decode cX10_init 67 = .ok (.newarray .int, 2) := by decide +kernel
theorem dX10_init_69 : decode cX10_init 69 = .ok (.putfield 34, 3) := by decide +kernel
theorem dX10_init_72 : decode cX10_init 72 = .ok (.aload_n 0, 1) := by decide +kernel
theorem dX10_init_73 : decode cX10_init 73 = .ok (.bipush 32, 2) := by decide +kernel
theorem dX10_init_75 : decode cX10_init 75 = .ok (.newarray .int, 2) := by decide +kernel
theorem dX10_init_77 : decode cX10_init 77 = .ok (.putfield 37, 3) := by decide +kernel
theorem dX10_init_80 : decode cX10_init 80 = .ok (.aload_n 0, 1) := by decide +kernel
theorem dX10_init_81 : decode cX10_init 81 = .ok (.bipush 32, 2) := by decide +kernel
theorem dX10_init_83 : decode cX10_init 83 = .ok (.newarray .int, 2) := by decide +kernel
theorem dX10_init_85 : decode cX10_init 85 = .ok (.putfield 40, 3) := by decide +kernel
theorem dX10_init_88 : decode cX10_init 88 = .ok (.aload_n 0, 1) := by decide +kernel
theorem dX10_init_89 : decode cX10_init 89 = .ok (.iconst (-1), 1) := by decide +kernel
theorem dX10_init_90 : decode cX10_init 90 = .ok (.putfield 43, 3) := by decide +kernel
theorem dX10_init_93 : decode cX10_init 93 = .ok (.return_, 1) := by decide +kernel
theorem dX10_in_0 : decode cX10_in 0 = .ok (.lload_n 0, 1) := by decide +kernel
theorem dX10_in_1 : decode cX10_in 1 = .ok (.lload_n 2, 1) := by decide +kernel
theorem dX10_in_2 : decode cX10_in 2 = .ok (.lcmp, 1) := by decide +kernel
theorem dX10_in_3 : decode cX10_in 3 = .ok (.ifCond .lt 14, 3) := by decide +kernel
theorem dX10_in_6 : decode cX10_in 6 = .ok (.lload_n 0, 1) := by decide +kernel
theorem dX10_in_7 : decode cX10_in 7 = .ok (.lload 4, 2) := by decide +kernel
theorem dX10_in_9 : decode cX10_in 9 = .ok (.lcmp, 1) := by decide +kernel
theorem dX10_in_10 : decode cX10_in 10 = .ok (.ifCond .gt 7, 3) := by decide +kernel
theorem dX10_in_13 : decode cX10_in 13 = .ok (.iconst 1, 1) := by decide +kernel
theorem dX10_in_14 : decode cX10_in 14 = .ok (.goto 4, 3) := by decide +kernel
theorem dX10_in_17 : decode cX10_in 17 = .ok (.iconst 0, 1) := by decide +kernel
theorem dX10_in_18 : decode cX10_in 18 = .ok (.ireturn, 1) := by decide +kernel
theorem dX10_copy_0 : decode cX10_copy 0 = .ok (.iconst 0, 1) := by decide +kernel
theorem dX10_copy_1 : decode cX10_copy 1 = .ok (.istore_n 2, 1) := by decide +kernel
theorem dX10_copy_2 : decode cX10_copy 2 = .ok (.iload_n 2, 1) := by decide +kernel
theorem dX10_copy_3 : decode cX10_copy 3 = .ok (.aload_n 0, 1) := by decide +kernel
theorem dX10_copy_4 : decode cX10_copy 4 = .ok (.arraylength, 1) := by decide +kernel
theorem dX10_copy_5 : decode cX10_copy 5 = .ok (.if_icmp .ge 15, 3) := by decide +kernel
theorem dX10_copy_8 : decode cX10_copy 8 = .ok (.aload_n 1, 1) := by decide +kernel
theorem dX10_copy_9 : decode cX10_copy 9 = .ok (.iload_n 2, 1) := by decide +kernel
theorem dX10_copy_10 : decode cX10_copy 10 = .ok (.aload_n 0, 1) := by decide +kernel
theorem dX10_copy_11 : decode cX10_copy 11 = .ok (.iload_n 2, 1) := by decide +kernel
theorem dX10_copy_12 : decode cX10_copy 12 = .ok (.iaload, 1) := by decide +kernel
theorem dX10_copy_13 : decode cX10_copy 13 = .ok (.iastore, 1) := by decide +kernel
theorem dX10_copy_14 : decode cX10_copy 14 = .ok (.iinc 2 1, 3) := by decide +kernel
theorem dX10_copy_17 : decode cX10_copy 17 = .ok (.goto (-15), 3) := by decide +kernel
theorem dX10_copy_20 : decode cX10_copy 20 = .ok (.return_, 1) := by decide +kernel
set_option maxRecDepth 20000 in
theorem ggX10_letter_X10_in : GoodIn wsX10_letter wsX10_in := goodIn_r _ [7] (by decide +kernel) (by decide +kernel)
set_option maxRecDepth 20000 in
theorem gX10_letter_X10_in : GoodIn wsX10_letter (va_wsS RX10 49 yX10_in wsX10_in) := goodIn_app (goodIn_of _ (by decide +kernel)) ggX10_letter_X10_in
theorem dX10_letter_0 : decode cX10_letter 0 = .ok (.iload_n 1, 1) := by decide +kernel
theorem dX10_letter_1 : decode cX10_letter 1 = .ok (.i2l, 1) := by decide +kernel
theorem dX10_letter_2 : decode cX10_letter 2 = .ok (.lconst 1, 1) := by decide +kernel
theorem dX10_letter_3 : decode cX10_letter 3 = .ok (.ldc2_w 47, 3) := by decide +kernel
theorem dX10_letter_6 : decode cX10_letter 6 = .ok (.invokestatic 49, 3) := by decide +kernel
theorem dX10_letter_9 : decode cX10_letter 9 = .ok (.ifCond .ne 6, 3) := by decide +kernel
theorem dX10_letter_12 : decode cX10_letter 12 = .ok (.bipush (-102), 2) := by decide +kernel
theorem dX10_letter_14 : decode cX10_letter 14 = .ok (.ireturn, 1) := by decide +kernel
theorem dX10_letter_15 : decode cX10_letter 15 = .ok (.aload_n 0, 1) := by decide +kernel
theorem dX10_letter_16 : decode cX10_letter 16 = .ok (.getfield 53, 3) := by decide +kernel
theorem dX10_letter_19 : decode cX10_letter 19 = .ok (.bipush 32, 2) := by decide +kernel
theorem dX10_letter_21 : decode cX10_letter 21 = .ok (.if_icmp .ne 6, 3) := by decide +kernel
theorem dX10_letter_24 : decode cX10_letter 24 = .ok (.bipush (-104), 2) := by decide +kernel
theorem dX10_letter_26 : decode cX10_letter 26 = .ok (.ireturn, 1) := by decide +kernel
theorem dX10_letter_27 : decode cX10_letter 27 = .ok (.aload_n 0, 1) := by decide +kernel
theorem dX10_letter_28 : decode cX10_letter 28 = .ok (.getfield 7, 3) := by decide +kernel
theorem dX10_letter_31 : decode cX10_letter 31 = .ok (.aload_n 0, 1) := by decide +kernel
theorem dX10_letter_32 : decode cX10_letter 32 = .ok (.getfield 53, 3) := by decide +kernel
theorem dX10_letter_35 : decode cX10_letter 35 = .ok (.iload_n 1, 1) := by decide +kernel
theorem dX10_letter_36 : decode cX10_letter 36 = .ok (.iastore, 1) := by decide +kernel
theorem dX10_letter_37 : decode cX10_letter 37 = .ok (.aload_n 0, 1) := by decide +kernel
theorem dX10_letter_38 : decode cX10_letter 38 = .ok (.dup, 1) := by decide +kernel
theorem dX10_letter_39 : decode cX10_letter 39 = .ok (.getfield 53, 3) := by decide +kernel
theorem dX10_letter_42 : decode cX10_letter 42 = .ok (.iconst 1, 1) := by decide +kernel
theorem dX10_letter_43 : decode cX10_letter 43 = .ok (.iadd, 1) := by decide +kernel
theorem dX10_letter_44 : decode cX10_letter 44 = .ok (.putfield 53, 3) := by decide +kernel
theorem dX10_letter_47 : decode cX10_letter 47 = .ok (.aload_n 0, 1) := by decide +kernel
theorem dX10_letter_48 : decode cX10_letter 48 = .ok (.getfield 53, 3) := by decide +kernel
theorem dX10_letter_51 : decode cX10_letter 51 = .ok (.ireturn, 1) := by decide +kernel
theorem dX10_blank_0 : decode cX10_blank 0 = .ok (.aload_n 0, 1) := by decide +kernel
theorem dX10_blank_1 : decode cX10_blank 1 = .ok (.getfield 53, 3) := by decide +kernel
theorem dX10_blank_4 : decode cX10_blank 4 = .ok (.istore_n 1, 1) := by decide +kernel
theorem dX10_blank_5 : decode cX10_blank 5 = .ok (.aload_n 0, 1) := by decide +kernel
theorem dX10_blank_6 : decode cX10_blank 6 = .ok (.iconst 0, 1) := by decide +kernel
theorem dX10_blank_7 : decode cX10_blank 7 = .ok (.putfield 53, 3) := by decide +kernel
theorem dX10_blank_10 : decode cX10_blank 10 = .ok (.iload_n 1, 1) := by decide +kernel
theorem dX10_blank_11 : decode cX10_blank 11 = .ok (.ireturn, 1) := by decide +kernel
theorem dX10_kindBy_0 : decode cX10_kindBy 0 = .ok (.iload_n 0, 1) := by decide +kernel
theorem dX10_kindBy_1 : decode cX10_kindBy 1 = .ok (.bipush 115, 2) := by decide +kernel
theorem dX10_kindBy_3 : decode cX10_kindBy 3 = .ok (.if_icmp .ne 7, 3) := by decide +kernel
theorem dX10_kindBy_6 : decode cX10_kindBy 6 = .ok (.iconst 0, 1) := by decide +kernel
theorem dX10_kindBy_7 : decode cX10_kindBy 7 = .ok (.goto 44, 3) := by decide +kernel
theorem dX10_kindBy_10 : decode cX10_kindBy 10 = .ok (.iload_n 0, 1) := by decide +kernel
theorem dX10_kindBy_11 : decode cX10_kindBy 11 = .ok (.bipush 116, 2) := by decide +kernel
theorem dX10_kindBy_13 : decode cX10_kindBy 13 = .ok (.if_icmp .ne 7, 3) := by decide +kernel
theorem dX10_kindBy_16 : decode cX10_kindBy 16 = .ok (.iconst 1, 1) := by decide +kernel
theorem dX10_kindBy_17 : decode cX10_kindBy 17 = .ok (.goto 34, 3) := by decide +kernel
theorem dX10_kindBy_20 : decode cX10_kindBy 20 = .ok (.iload_n 0, 1) := by decide +kernel
theorem dX10_kindBy_21 : decode cX10_kindBy 21 = .ok (.bipush 98, 2) := by decide +kernel
theorem dX10_kindBy_23 : decode cX10_kindBy 23 = .ok (.if_icmp .ne 7, 3) := by decide +kernel
theorem dX10_kindBy_26 : decode cX10_kindBy 26 = .ok (.iconst 2, 1) := by decide +kernel
theorem dX10_kindBy_27 : decode cX10_kindBy 27 = .ok (.goto 24, 3) := by decide +kernel
theorem dX10_kindBy_30 : decode cX10_kindBy 30 = .ok (.iload_n 0, 1) := by decide +kernel
theorem dX10_kindBy_31 : decode cX10_kindBy 31 = .ok (.bipush 100, 2) := by decide +kernel
theorem dX10_kindBy_33 : decode cX10_kindBy 33 = .ok (.if_icmp .ne 7, 3) := by decide +kernel
theorem dX10_kindBy_36 : decode cX10_kindBy 36 = .ok (.iconst 3, 1) := by decide +kernel
theorem dX10_kindBy_37 : decode cX10_kindBy 37 = .ok (.goto 14, 3) := by decide +kernel
theorem dX10_kindBy_40 : decode cX10_kindBy 40 = .ok (.iload_n 0, 1) := by decide +kernel
theorem dX10_kindBy_41 : decode cX10_kindBy 41 = .ok (.bipush 99, 2) := by decide +kernel
theorem dX10_kindBy_43 : decode cX10_kindBy 43 = .ok (.if_icmp .ne 7, 3) := by decide +kernel
theorem dX10_kindBy_46 : decode cX10_kindBy 46 = .ok (.iconst 4, 1) := by decide +kernel
theorem dX10_kindBy_47 : decode cX10_kindBy 47 = .ok (.goto 4, 3) := by decide +kernel
theorem dX10_kindBy_50 : decode cX10_kindBy 50 = .ok (.iconst (-1), 1) := by decide +kernel
theorem dX10_kindBy_51 : decode cX10_kindBy 51 = .ok (.ireturn, 1) := by decide +kernel
set_option maxRecDepth 20000 in
theorem ggX10_go_X10_kindBy : GoodIn wsX10_go wsX10_kindBy := goodIn_r _ [11] (by decide +kernel) (by decide +kernel)
set_option maxRecDepth 20000 in
theorem gX10_go_X10_kindBy : GoodIn wsX10_go (va_wsS RX10 62 yX10_kindBy wsX10_kindBy) := goodIn_app (goodIn_of _ (by decide +kernel)) ggX10_go_X10_kindBy
set_option maxRecDepth 20000 in
theorem ggX10_go_X10_in : GoodIn wsX10_go wsX10_in := goodIn_r _ [14] (by decide +kernel) (by decide +kernel)
set_option maxRecDepth 20000 in
theorem gX10_go_X10_in : GoodIn wsX10_go (va_wsS RX10 49 yX10_in wsX10_in) := goodIn_app (goodIn_of _ (by decide +kernel)) ggX10_go_X10_in
theorem dX10_go_0 : decode cX10_go 0 = .ok (.iload_n 1, 1) := by decide +kernel
theorem dX10_go_1 : decode cX10_go 1 = .ok (.bipush 48, 2) := by decide +kernel
theorem dX10_go_3 : decode cX10_go 3 = .ok (.isub, 1) := by decide +kernel
theorem dX10_go_4 : decode cX10_go 4 = .ok (.istore_n 2, 1) := by decide +kernel
theorem dX10_go_5 : decode cX10_go 5 = .ok (.aload_n 0, 1) := by decide +kernel
theorem dX10_go_6 : decode cX10_go 6 = .ok (.getfield 56, 3) := by decide +kernel
theorem dX10_go_9 : decode cX10_go 9 = .ok (.ifCond .ne 37, 3) := by decide +kernel
theorem dX10_go_12 : decode cX10_go 12 = .ok (.aload_n 0, 1) := by decide +kernel
theorem dX10_go_13 : decode cX10_go 13 = .ok (.getfield 13, 3) := by decide +kernel
theorem dX10_go_16 : decode cX10_go 16 = .ok (.iconst 5, 1) := by decide +kernel
theorem dX10_go_17 : decode cX10_go 17 = .ok (.aload_n 0, 1) := by decide +kernel
theorem dX10_go_18 : decode cX10_go 18 = .ok (.getfield 59, 3) := by decide +kernel
theorem dX10_go_21 : decode cX10_go 21 = .ok (.imul, 1) := by decide +kernel
theorem dX10_go_22 : decode cX10_go 22 = .ok (.iload_n 1, 1) := by decide +kernel
theorem dX10_go_23 : decode cX10_go 23 = .ok (.invokestatic 62, 3) := by decide +kernel
theorem dX10_go_26 : decode cX10_go 26 = .ok (.iastore, 1) := by decide +kernel
theorem dX10_go_27 : decode cX10_go 27 = .ok (.aload_n 0, 1) := by decide +kernel
theorem dX10_go_28 : decode cX10_go 28 = .ok (.iconst 1, 1) := by decide +kernel
theorem dX10_go_29 : decode cX10_go 29 = .ok (.putfield 56, 3) := by decide +kernel
theorem dX10_go_32 : decode cX10_go 32 = .ok (.iload_n 1, 1) := by decide +kernel
theorem dX10_go_33 : decode cX10_go 33 = .ok (.invokestatic 62, 3) := by decide +kernel
theorem dX10_go_36 : decode cX10_go 36 = .ok (.iconst (-1), 1) := by decide +kernel
theorem dX10_go_37 : decode cX10_go 37 = .ok (.if_icmp .eq 7, 3) := by decide +kernel
theorem dX10_go_40 : decode cX10_go 40 = .ok (.iconst 1, 1) := by decide +kernel
theorem dX10_go_41 : decode cX10_go 41 = .ok (.goto 4, 3) := by decide +kernel
theorem dX10_go_44 : decode cX10_go 44 = .ok (.iconst 0, 1) := by decide +kernel
theorem dX10_go_45 : decode cX10_go 45 = .ok (.ireturn, 1) := by decide +kernel
theorem dX10_go_46 : decode cX10_go 46 = .ok (.aload_n 0, 1) := by decide +kernel
theorem dX10_go_47 : decode cX10_go 47 = .ok (.getfield 56, 3) := by decide +kernel
theorem dX10_go_50 : decode cX10_go 50 = .ok (.iconst 5, 1) := by decide +kernel
theorem dX10_go_51 : decode cX10_go 51 = .ok (.if_icmp .ge 62, 3) := by decide +kernel
theorem dX10_go_54 : decode cX10_go 54 = .ok (.aload_n 0, 1) := by decide +kernel
theorem dX10_go_55 : decode cX10_go 55 = .ok (.getfield 13, 3) := by decide +kernel
theorem dX10_go_58 : decode cX10_go 58 = .ok (.iconst 5, 1) := by decide +kernel
theorem dX10_go_59 : decode cX10_go 59 = .ok (.aload_n 0, 1) := by decide +kernel
theorem dX10_go_60 : decode cX10_go 60 = .ok (.getfield 59, 3) := by decide +kernel
theorem dX10_go_63 : decode cX10_go 63 = .ok (.imul, 1) := by decide +kernel
theorem dX10_go_64 : decode cX10_go 64 = .ok (.aload_n 0, 1) := by decide +kernel
theorem dX10_go_65 : decode cX10_go 65 = .ok (.getfield 56, 3) := by decide +kernel
theorem dX10_go_68 : decode cX10_go 68 = .ok (.iadd, 1) := by decide +kernel
theorem dX10_go_69 : decode cX10_go 69 = .ok (.iload_n 2, 1) := by decide +kernel
theorem dX10_go_70 : decode cX10_go 70 = .ok (.iastore, 1) := by decide +kernel
theorem dX10_go_71 : decode cX10_go 71 = .ok (.aload_n 0, 1) := by decide +kernel
theorem dX10_go_72 : decode cX10_go 72 = .ok (.dup, 1) := by decide +kernel
theorem dX10_go_73 : decode cX10_go 73 = .ok (.getfield 56, 3) := by decide +kernel
theorem dX10_go_76 : decode cX10_go 76 = .ok (.iconst 1, 1) := by decide +kernel
theorem dX10_go_77 : decode cX10_go 77 = .ok (.iadd, 1) := by decide +kernel
theorem dX10_go_78 : decode cX10_go 78 = .ok (.putfield 56, 3) := by decide +kernel
theorem dX10_go_81 : decode cX10_go 81 = .ok (.aload_n 0, 1) := by decide +kernel
theorem dX10_go_82 : decode cX10_go 82 = .ok (.dup, 1) := by decide +kernel
theorem dX10_go_83 : decode cX10_go 83 = .ok (.getfield 59, 3) := by decide +kernel
theorem dX10_go_86 : decode cX10_go 86 = .ok (.aload_n 0, 1) := by decide +kernel
theorem dX10_go_87 : decode cX10_go 87 = .ok (.getfield 56, 3) := by decide +kernel
theorem dX10_go_90 : decode cX10_go 90 = .ok (.iconst 5, 1) := by decide +kernel
theorem dX10_go_91 : decode cX10_go 91 = .ok (.if_icmp .ne 7, 3) := by decide +kernel
theorem dX10_go_94 : decode cX10_go 94 = .ok (.iconst 1, 1) := by decide +kernel
theorem dX10_go_95 : decode cX10_go 95 = .ok (.goto 4, 3) := by decide +kernel
theorem dX10_go_98 : decode cX10_go 98 = .ok (.iconst 0, 1) := by decide +kernel
theorem dX10_go_99 : decode cX10_go 99 = .ok (.iadd, 1) := by decide +kernel
theorem dX10_go_100 : decode cX10_go 100 = .ok (.putfield 59, 3) := by decide +kernel
theorem dX10_go_103 : decode cX10_go 103 = .ok (.iload_n 2, 1) := by decide +kernel
theorem dX10_go_104 : decode cX10_go 104 = .ok (.i2l, 1) := by decide +kernel
theorem dX10_go_105 : decode cX10_go 105 = .ok (.lconst 0, 1) := by decide +kernel
theorem dX10_go_106 : decode cX10_go 106 = .ok (.ldc2_w 66, 3) := by decide +kernel
theorem dX10_go_109 : decode cX10_go 109 = .ok (.invokestatic 49, 3) := by decide +kernel
theorem dX10_go_112 : decode cX10_go 112 = .ok (.ireturn, 1) := by decide +kernel
theorem dX10_go_113 : decode cX10_go 113 = .ok (.aload_n 0, 1) := by decide +kernel
theorem dX10_go_114 : decode cX10_go 114 = .ok (.getfield 56, 3) := by decide +kernel
theorem dX10_go_117 : decode cX10_go 117 = .ok (.iconst 5, 1) := by decide +kernel
theorem dX10_go_118 : decode cX10_go 118 = .ok (.if_icmp .ne 61, 3) := by decide +kernel
theorem dX10_go_121 : decode cX10_go 121 = .ok (.aload_n 0, 1) := by decide +kernel
theorem dX10_go_122 : decode cX10_go 122 = .ok (.iload_n 1, 1) := by decide +kernel
theorem dX10_go_123 : decode cX10_go 123 = .ok (.bipush 44, 2) := by decide +kernel
theorem dX10_go_125 : decode cX10_go 125 = .ok (.if_icmp .ne 7, 3) := by decide +kernel
theorem dX10_go_128 : decode cX10_go 128 = .ok (.iconst 0, 1) := by decide +kernel
theorem dX10_go_129 : decode cX10_go 129 = .ok (.goto 5, 3) := by decide +kernel
theorem dX10_go_132 : decode cX10_go 132 = .ok (.bipush 6, 2) := by decide +kernel
theorem dX10_go_134 : decode cX10_go 134 = .ok (.putfield 56, 3) := by decide +kernel
theorem dX10_go_137 : decode cX10_go 137 = .ok (.iload_n 1, 1) := by decide +kernel
theorem dX10_go_138 : decode cX10_go 138 = .ok (.bipush 44, 2) := by decide +kernel
theorem dX10_go_140 : decode cX10_go 140 = .ok (.if_icmp .ne 19, 3) := by decide +kernel
theorem dX10_go_143 : decode cX10_go 143 = .ok (.aload_n 0, 1) := by decide +kernel
theorem dX10_go_144 : decode cX10_go 144 = .ok (.getfield 59, 3) := by decide +kernel
theorem dX10_go_147 : decode cX10_go 147 = .ok (.iconst 4, 1) := by decide +kernel
theorem dX10_go_148 : decode cX10_go 148 = .ok (.if_icmp .ge 7, 3) := by decide +kernel
theorem dX10_go_151 : decode cX10_go 151 = .ok (.iconst 1, 1) := by decide +kernel
theorem dX10_go_152 : decode cX10_go 152 = .ok (.goto 26, 3) := by decide +kernel
theorem dX10_go_155 : decode cX10_go 155 = .ok (.iconst 0, 1) := by decide +kernel
theorem dX10_go_156 : decode cX10_go 156 = .ok (.goto 22, 3) := by decide +kernel
theorem dX10_go_159 : decode cX10_go 159 = .ok (.iload_n 1, 1) := by decide +kernel
theorem dX10_go_160 : decode cX10_go 160 = .ok (.bipush 59, 2) := by decide +kernel
theorem dX10_go_162 : decode cX10_go 162 = .ok (.if_icmp .ne 15, 3) := by decide +kernel
theorem dX10_go_165 : decode cX10_go 165 = .ok (.aload_n 0, 1) := by decide +kernel
theorem dX10_go_166 : decode cX10_go 166 = .ok (.getfield 59, 3) := by decide +kernel
theorem dX10_go_169 : decode cX10_go 169 = .ok (.iconst 1, 1) := by decide +kernel
theorem dX10_go_170 : decode cX10_go 170 = .ok (.if_icmp .le 7, 3) := by decide +kernel
theorem dX10_go_173 : decode cX10_go 173 = .ok (.iconst 1, 1) := by decide +kernel
theorem dX10_go_174 : decode cX10_go 174 = .ok (.goto 4, 3) := by decide +kernel
theorem dX10_go_177 : decode cX10_go 177 = .ok (.iconst 0, 1) := by decide +kernel
theorem dX10_go_178 : decode cX10_go 178 = .ok (.ireturn, 1) := by decide +kernel
theorem dX10_go_179 : decode cX10_go 179 = .ok (.aload_n 0, 1) := by decide +kernel
theorem dX10_go_180 : decode cX10_go 180 = .ok (.getfield 68, 3) := by decide +kernel
theorem dX10_go_183 : decode cX10_go 183 = .ok (.iconst 5, 1) := by decide +kernel
theorem dX10_go_184 : decode cX10_go 184 = .ok (.if_icmp .eq 15, 3) := by decide +kernel
theorem dX10_go_187 : decode cX10_go 187 = .ok (.iload_n 2, 1) := by decide +kernel
theorem dX10_go_188 : decode cX10_go 188 = .ok (.i2l, 1) := by decide +kernel
theorem dX10_go_189 : decode cX10_go 189 = .ok (.lconst 0, 1) := by decide +kernel
theorem dX10_go_190 : decode cX10_go 190 = .ok (.ldc2_w 71, 3) := by decide +kernel
theorem dX10_go_193 : decode cX10_go 193 = .ok (.invokestatic 49, 3) := by decide +kernel
theorem dX10_go_196 : decode cX10_go 196 = .ok (.ifCond .ne 5, 3) := by decide +kernel
theorem dX10_go_199 : decode cX10_go 199 = .ok (.iconst 0, 1) := by decide +kernel
theorem dX10_go_200 : decode cX10_go 200 = .ok (.ireturn, 1) := by decide +kernel
theorem dX10_go_201 : decode cX10_go 201 = .ok (.aload_n 0, 1) := by decide +kernel
theorem dX10_go_202 : decode cX10_go 202 = .ok (.getfield 16, 3) := by decide +kernel
theorem dX10_go_205 : decode cX10_go 205 = .ok (.aload_n 0, 1) := by decide +kernel
theorem dX10_go_206 : decode cX10_go 206 = .ok (.getfield 68, 3) := by decide +kernel
theorem dX10_go_209 : decode cX10_go 209 = .ok (.iload_n 2, 1) := by decide +kernel
theorem dX10_go_210 : decode cX10_go 210 = .ok (.iastore, 1) := by decide +kernel
theorem dX10_go_211 : decode cX10_go 211 = .ok (.aload_n 0, 1) := by decide +kernel
theorem dX10_go_212 : decode cX10_go 212 = .ok (.dup, 1) := by decide +kernel
theorem dX10_go_213 : decode cX10_go 213 = .ok (.getfield 68, 3) := by decide +kernel
theorem dX10_go_216 : decode cX10_go 216 = .ok (.iconst 1, 1) := by decide +kernel
theorem dX10_go_217 : decode cX10_go 217 = .ok (.iadd, 1) := by decide +kernel
theorem dX10_go_218 : decode cX10_go 218 = .ok (.putfield 68, 3) := by decide +kernel
theorem dX10_go_221 : decode cX10_go 221 = .ok (.iconst 1, 1) := by decide +kernel
theorem dX10_go_222 : decode cX10_go 222 = .ok (.ireturn, 1) := by decide +kernel
set_option maxRecDepth 20000 in
theorem ggX10_faultOf_X10_go : GoodIn wsX10_faultOf wsX10_go := goodIn_r _ [10, 3, 11, 1, 12, 2, 13, 14, 15, 16, 9, 17, 18, 19, 20, 21, 22, 23, 24, 25, 26, 27, 28, 29, 30, 31, 32, 33, 34, 35, 36, 37, 38, 39, 40, 41, 42, 43, 44, 45, 46] (by decide +kernel) (by decide +kernel)
set_option maxRecDepth 20000 in
theorem gX10_faultOf_X10_go : GoodIn wsX10_faultOf (wsV RX10 73 RX10 yX10_go wsX10_go) := goodIn_app (goodIn_of _ (by decide +kernel)) ggX10_faultOf_X10_go
theorem dX10_faultOf_0 : decode cX10_faultOf 0 = .ok (.aload_n 0, 1) := by decide +kernel
theorem dX10_faultOf_1 : decode cX10_faultOf 1 = .ok (.iconst 0, 1) := by decide +kernel
theorem dX10_faultOf_2 : decode cX10_faultOf 2 = .ok (.putfield 59, 3) := by decide +kernel
theorem dX10_faultOf_5 : decode cX10_faultOf 5 = .ok (.aload_n 0, 1) := by decide +kernel
theorem dX10_faultOf_6 : decode cX10_faultOf 6 = .ok (.iconst 0, 1) := by decide +kernel
theorem dX10_faultOf_7 : decode cX10_faultOf 7 = .ok (.putfield 68, 3) := by decide +kernel
theorem dX10_faultOf_10 : decode cX10_faultOf 10 = .ok (.aload_n 0, 1) := by decide +kernel
theorem dX10_faultOf_11 : decode cX10_faultOf 11 = .ok (.iconst 0, 1) := by decide +kernel
theorem dX10_faultOf_12 : decode cX10_faultOf 12 = .ok (.putfield 56, 3) := by decide +kernel
theorem dX10_faultOf_15 : decode cX10_faultOf 15 = .ok (.iconst 0, 1) := by decide +kernel
theorem dX10_faultOf_16 : decode cX10_faultOf 16 = .ok (.istore_n 1, 1) := by decide +kernel
theorem dX10_faultOf_17 : decode cX10_faultOf 17 = .ok (.iload_n 1, 1) := by decide +kernel
theorem dX10_faultOf_18 : decode cX10_faultOf 18 = .ok (.aload_n 0, 1) := by decide +kernel
theorem dX10_faultOf_19 : decode cX10_faultOf 19 = .ok (.getfield 53, 3) := by decide +kernel
theorem dX10_faultOf_22 : decode cX10_faultOf 22 = .ok (.if_icmp .ge 22, 3) := by decide +kernel
theorem dX10_faultOf_25 : decode cX10_faultOf 25 = .ok (.aload_n 0, 1) := by decide +kernel
theorem dX10_faultOf_26 : decode cX10_faultOf 26 = .ok (.aload_n 0, 1) := by decide +kernel
theorem dX10_faultOf_27 : decode cX10_faultOf 27 = .ok (.getfield 7, 3) := by decide +kernel
theorem dX10_faultOf_30 : decode cX10_faultOf 30 = .ok (.iload_n 1, 1) := by decide +kernel
theorem dX10_faultOf_31 : decode cX10_faultOf 31 = .ok (.iaload, 1) := by decide +kernel
theorem dX10_faultOf_32 : decode cX10_faultOf 32 = .ok (.invokevirtual 73, 3) := by decide +kernel
theorem dX10_faultOf_35 : decode cX10_faultOf 35 = .ok (.ifCond .eq 9, 3) := by decide +kernel
theorem dX10_faultOf_38 : decode cX10_faultOf 38 = .ok (.iinc 1 1, 3) := by decide +kernel
theorem dX10_faultOf_41 : decode cX10_faultOf 41 = .ok (.goto (-24), 3) := by decide +kernel
theorem dX10_faultOf_44 : decode cX10_faultOf 44 = .ok (.iload_n 1, 1) := by decide +kernel
theorem dX10_faultOf_45 : decode cX10_faultOf 45 = .ok (.ireturn, 1) := by decide +kernel
set_option maxRecDepth 20000 in
theorem ggX10_fault_X10_faultOf : GoodIn wsX10_fault wsX10_faultOf := goodIn_r _ [5, 6, 7, 8, 9, 10, 11, 12, 13, 4, 14, 15, 16, 17, 18, 19, 20, 21, 22, 23, 24, 25, 26, 27, 28, 29, 30, 31, 32, 33, 34, 35, 36, 37, 38, 39, 40, 41, 42, 43, 44, 45, 46, 47, 48, 49, 50] (by decide +kernel) (by decide +kernel)
set_option maxRecDepth 20000 in
theorem gX10_fault_X10_faultOf : GoodIn wsX10_fault (wsV RX10 77 RX10 yX10_faultOf wsX10_faultOf) := goodIn_app (goodIn_of _ (by decide +kernel)) ggX10_fault_X10_faultOf
theorem dX10_fault_0 : decode cX10_fault 0 = .ok (.aload_n 0, 1) := by decide +kernel
theorem dX10_fault_1 : decode cX10_fault 1 = .ok (.invokevirtual 77, 3) := by decide +kernel
theorem dX10_fault_4 : decode cX10_fault 4 = .ok (.ireturn, 1) := by decide +kernel
set_option maxRecDepth 20000 in
theorem ggX10_town_X10_faultOf : GoodIn wsX10_town wsX10_faultOf := goodIn_r _ [18, 4, 3, 2, 1, 19, 20, 21, 22, 17, 23, 10, 24, 25, 7, 26, 27, 28, 29, 30, 31, 35, 36, 37, 38, 39, 40, 41, 42, 43, 44, 45, 46, 47, 48, 49, 50, 51, 52, 53, 54, 55, 56, 57, 58, 59, 60] (by decide +kernel) (by decide +kernel)
set_option maxRecDepth 20000 in
theorem gX10_town_X10_faultOf : GoodIn wsX10_town (wsV RX10 77 RX10 yX10_faultOf wsX10_faultOf) := goodIn_app (goodIn_of _ (by decide +kernel)) ggX10_town_X10_faultOf
set_option maxRecDepth 20000 in
theorem ggX10_town_X10_copy : GoodIn wsX10_town wsX10_copy := goodIn_r _ [34] (by decide +kernel) (by decide +kernel)
set_option maxRecDepth 20000 in
theorem gX10_town_X10_copy : GoodIn wsX10_town (va_wsS RX10 87 yX10_copy wsX10_copy) := goodIn_app (goodIn_of _ (by decide +kernel)) ggX10_town_X10_copy
theorem dX10_town_0 : decode cX10_town 0 = .ok (.aload_n 0, 1) := by decide +kernel
theorem dX10_town_1 : decode cX10_town 1 = .ok (.invokevirtual 77, 3) := by decide +kernel
theorem dX10_town_4 : decode cX10_town 4 = .ok (.aload_n 0, 1) := by decide +kernel
theorem dX10_town_5 : decode cX10_town 5 = .ok (.getfield 53, 3) := by decide +kernel
theorem dX10_town_8 : decode cX10_town 8 = .ok (.if_icmp .lt 19, 3) := by decide +kernel
theorem dX10_town_11 : decode cX10_town 11 = .ok (.aload_n 0, 1) := by decide +kernel
theorem dX10_town_12 : decode cX10_town 12 = .ok (.getfield 56, 3) := by decide +kernel
theorem dX10_town_15 : decode cX10_town 15 = .ok (.bipush 6, 2) := by decide +kernel
theorem dX10_town_17 : decode cX10_town 17 = .ok (.if_icmp .ne 10, 3) := by decide +kernel
theorem dX10_town_20 : decode cX10_town 20 = .ok (.aload_n 0, 1) := by decide +kernel
theorem dX10_town_21 : decode cX10_town 21 = .ok (.getfield 68, 3) := by decide +kernel
theorem dX10_town_24 : decode cX10_town 24 = .ok (.ifCond .ne 6, 3) := by decide +kernel
theorem dX10_town_27 : decode cX10_town 27 = .ok (.bipush (-103), 2) := by decide +kernel
theorem dX10_town_29 : decode cX10_town 29 = .ok (.ireturn, 1) := by decide +kernel
theorem dX10_town_30 : decode cX10_town 30 = .ok (.aload_n 0, 1) := by decide +kernel
theorem dX10_town_31 : decode cX10_town 31 = .ok (.aload_n 0, 1) := by decide +kernel
theorem dX10_town_32 : decode cX10_town 32 = .ok (.getfield 59, 3) := by decide +kernel
theorem dX10_town_35 : decode cX10_town 35 = .ok (.putfield 81, 3) := by decide +kernel
theorem dX10_town_38 : decode cX10_town 38 = .ok (.aload_n 0, 1) := by decide +kernel
theorem dX10_town_39 : decode cX10_town 39 = .ok (.aload_n 0, 1) := by decide +kernel
theorem dX10_town_40 : decode cX10_town 40 = .ok (.getfield 68, 3) := by decide +kernel
theorem dX10_town_43 : decode cX10_town 43 = .ok (.putfield 84, 3) := by decide +kernel
theorem dX10_town_46 : decode cX10_town 46 = .ok (.aload_n 0, 1) := by decide +kernel
theorem dX10_town_47 : decode cX10_town 47 = .ok (.getfield 16, 3) := by decide +kernel
theorem dX10_town_50 : decode cX10_town 50 = .ok (.aload_n 0, 1) := by decide +kernel
theorem dX10_town_51 : decode cX10_town 51 = .ok (.getfield 22, 3) := by decide +kernel
theorem dX10_town_54 : decode cX10_town 54 = .ok (.invokestatic 87, 3) := by decide +kernel
theorem dX10_town_57 : decode cX10_town 57 = .ok (.iconst 0, 1) := by decide +kernel
theorem dX10_town_58 : decode cX10_town 58 = .ok (.istore_n 1, 1) := by decide +kernel
theorem dX10_town_59 : decode cX10_town 59 = .ok (.iload_n 1, 1) := by decide +kernel
theorem dX10_town_60 : decode cX10_town 60 = .ok (.aload_n 0, 1) := by decide +kernel
theorem dX10_town_61 : decode cX10_town 61 = .ok (.getfield 81, 3) := by decide +kernel
theorem dX10_town_64 : decode cX10_town 64 = .ok (.if_icmp .ge 53, 3) := by decide +kernel
theorem dX10_town_67 : decode cX10_town 67 = .ok (.iconst 0, 1) := by decide +kernel
theorem dX10_town_68 : decode cX10_town 68 = .ok (.istore_n 2, 1) := by decide +kernel
theorem dX10_town_69 : decode cX10_town 69 = .ok (.iload_n 2, 1) := by decide +kernel
theorem dX10_town_70 : decode cX10_town 70 = .ok (.bipush 8, 2) := by decide +kernel
theorem dX10_town_72 : decode cX10_town 72 = .ok (.if_icmp .ge 39, 3) := by decide +kernel
theorem dX10_town_75 : decode cX10_town 75 = .ok (.aload_n 0, 1) := by decide +kernel
theorem dX10_town_76 : decode cX10_town 76 = .ok (.getfield 19, 3) := by decide +kernel
theorem dX10_town_79 : decode cX10_town 79 = .ok (.bipush 8, 2) := by decide +kernel
theorem dX10_town_81 : decode cX10_town 81 = .ok (.iload_n 1, 1) := by decide +kernel
theorem dX10_town_82 : decode cX10_town 82 = .ok (.imul, 1) := by decide +kernel
theorem dX10_town_83 : decode cX10_town 83 = .ok (.iload_n 2, 1) := by decide +kernel
theorem dX10_town_84 : decode cX10_town 84 = .ok (.iadd, 1) := by decide +kernel
theorem dX10_town_85 : decode cX10_town 85 = .ok (.iload_n 2, 1) := by decide +kernel
theorem dX10_town_86 : decode cX10_town 86 = .ok (.iconst 5, 1) := by decide +kernel
theorem dX10_town_87 : decode cX10_town 87 = .ok (.if_icmp .ge 16, 3) := by decide +kernel
theorem dX10_town_90 : decode cX10_town 90 = .ok (.aload_n 0, 1) := by decide +kernel
theorem dX10_town_91 : decode cX10_town 91 = .ok (.getfield 13, 3) := by decide +kernel
theorem dX10_town_94 : decode cX10_town 94 = .ok (.iconst 5, 1) := by decide +kernel
theorem dX10_town_95 : decode cX10_town 95 = .ok (.iload_n 1, 1) := by decide +kernel
theorem dX10_town_96 : decode cX10_town 96 = .ok (.imul, 1) := by decide +kernel
theorem dX10_town_97 : decode cX10_town 97 = .ok (.iload_n 2, 1) := by decide +kernel
theorem dX10_town_98 : decode cX10_town 98 = .ok (.iadd, 1) := by decide +kernel
theorem dX10_town_99 : decode cX10_town 99 = .ok (.iaload, 1) := by decide +kernel
theorem dX10_town_100 : decode cX10_town 100 = .ok (.goto 4, 3) := by decide +kernel
theorem dX10_town_103 : decode cX10_town 103 = .ok (.iconst 0, 1) := by decide +kernel
theorem dX10_town_104 : decode cX10_town 104 = .ok (.iastore, 1) := by decide +kernel
theorem dX10_town_105 : decode cX10_town 105 = .ok (.iinc 2 1, 3) := by decide +kernel
theorem dX10_town_108 : decode cX10_town 108 = .ok (.goto (-39), 3) := by decide +kernel
theorem dX10_town_111 : decode cX10_town 111 = .ok (.iinc 1 1, 3) := by decide +kernel
theorem dX10_town_114 : decode cX10_town 114 = .ok (.goto (-55), 3) := by decide +kernel
theorem dX10_town_117 : decode cX10_town 117 = .ok (.aload_n 0, 1) := by decide +kernel
theorem dX10_town_118 : decode cX10_town 118 = .ok (.iconst 0, 1) := by decide +kernel
theorem dX10_town_119 : decode cX10_town 119 = .ok (.putfield 91, 3) := by decide +kernel
theorem dX10_town_122 : decode cX10_town 122 = .ok (.aload_n 0, 1) := by decide +kernel
theorem dX10_town_123 : decode cX10_town 123 = .ok (.iconst 0, 1) := by decide +kernel
theorem dX10_town_124 : decode cX10_town 124 = .ok (.putfield 94, 3) := by decide +kernel
theorem dX10_town_127 : decode cX10_town 127 = .ok (.aload_n 0, 1) := by decide +kernel
theorem dX10_town_128 : decode cX10_town 128 = .ok (.dup, 1) := by decide +kernel
theorem dX10_town_129 : decode cX10_town 129 = .ok (.getfield 97, 3) := by decide +kernel
theorem dX10_town_132 : decode cX10_town 132 = .ok (.iconst 1, 1) := by decide +kernel
theorem dX10_town_133 : decode cX10_town 133 = .ok (.iadd, 1) := by decide +kernel
theorem dX10_town_134 : decode cX10_town 134 = .ok (.putfield 97, 3) := by decide +kernel
theorem dX10_town_137 : decode cX10_town 137 = .ok (.aload_n 0, 1) := by decide +kernel
theorem dX10_town_138 : decode cX10_town 138 = .ok (.iconst 0, 1) := by decide +kernel
theorem dX10_town_139 : decode cX10_town 139 = .ok (.putfield 53, 3) := by decide +kernel
theorem dX10_town_142 : decode cX10_town 142 = .ok (.aload_n 0, 1) := by decide +kernel
theorem dX10_town_143 : decode cX10_town 143 = .ok (.getfield 81, 3) := by decide +kernel
theorem dX10_town_146 : decode cX10_town 146 = .ok (.ireturn, 1) := by decide +kernel
set_option maxRecDepth 20000 in
theorem ggX10_isSinger_X10_in : GoodIn wsX10_isSinger wsX10_in := goodIn_r _ [5] (by decide +kernel) (by decide +kernel)
set_option maxRecDepth 20000 in
theorem gX10_isSinger_X10_in : GoodIn wsX10_isSinger (va_wsS RX10 49 yX10_in wsX10_in) := goodIn_app (goodIn_of _ (by decide +kernel)) ggX10_isSinger_X10_in
theorem dX10_isSinger_0 : decode cX10_isSinger 0 = .ok (.iload_n 1, 1) := by decide +kernel
theorem dX10_isSinger_1 : decode cX10_isSinger 1 = .ok (.i2l, 1) := by decide +kernel
theorem dX10_isSinger_2 : decode cX10_isSinger 2 = .ok (.lconst 0, 1) := by decide +kernel
theorem dX10_isSinger_3 : decode cX10_isSinger 3 = .ok (.aload_n 0, 1) := by decide +kernel
theorem dX10_isSinger_4 : decode cX10_isSinger 4 = .ok (.getfield 81, 3) := by decide +kernel
theorem dX10_isSinger_7 : decode cX10_isSinger 7 = .ok (.iconst 1, 1) := by decide +kernel
theorem dX10_isSinger_8 : decode cX10_isSinger 8 = .ok (.isub, 1) := by decide +kernel
theorem dX10_isSinger_9 : decode cX10_isSinger 9 = .ok (.i2l, 1) := by decide +kernel
theorem dX10_isSinger_10 : decode cX10_isSinger 10 = .ok (.invokestatic 49, 3) := by decide +kernel
theorem dX10_isSinger_13 : decode cX10_isSinger 13 = .ok (.ireturn, 1) := by decide +kernel
set_option maxRecDepth 20000 in
theorem ggX10_isWidow_X10_in : GoodIn wsX10_isWidow wsX10_in := goodIn_r _ [5] (by decide +kernel) (by decide +kernel)
set_option maxRecDepth 20000 in
theorem gX10_isWidow_X10_in : GoodIn wsX10_isWidow (va_wsS RX10 49 yX10_in wsX10_in) := goodIn_app (goodIn_of _ (by decide +kernel)) ggX10_isWidow_X10_in
theorem dX10_isWidow_0 : decode cX10_isWidow 0 = .ok (.iload_n 1, 1) := by decide +kernel
theorem dX10_isWidow_1 : decode cX10_isWidow 1 = .ok (.i2l, 1) := by decide +kernel
theorem dX10_isWidow_2 : decode cX10_isWidow 2 = .ok (.lconst 0, 1) := by decide +kernel
theorem dX10_isWidow_3 : decode cX10_isWidow 3 = .ok (.aload_n 0, 1) := by decide +kernel
theorem dX10_isWidow_4 : decode cX10_isWidow 4 = .ok (.getfield 84, 3) := by decide +kernel
theorem dX10_isWidow_7 : decode cX10_isWidow 7 = .ok (.iconst 1, 1) := by decide +kernel
theorem dX10_isWidow_8 : decode cX10_isWidow 8 = .ok (.isub, 1) := by decide +kernel
theorem dX10_isWidow_9 : decode cX10_isWidow 9 = .ok (.i2l, 1) := by decide +kernel
theorem dX10_isWidow_10 : decode cX10_isWidow 10 = .ok (.invokestatic 49, 3) := by decide +kernel
theorem dX10_isWidow_13 : decode cX10_isWidow 13 = .ok (.ireturn, 1) := by decide +kernel
theorem dX10_badOf_0 : decode cX10_badOf 0 = .ok (.aload_n 0, 1) := by decide +kernel
theorem dX10_badOf_1 : decode cX10_badOf 1 = .ok (.getfield 19, 3) := by decide +kernel
theorem dX10_badOf_4 : decode cX10_badOf 4 = .ok (.bipush 8, 2) := by decide +kernel
theorem dX10_badOf_6 : decode cX10_badOf 6 = .ok (.iload_n 1, 1) := by decide +kernel
theorem dX10_badOf_7 : decode cX10_badOf 7 = .ok (.imul, 1) := by decide +kernel
theorem dX10_badOf_8 : decode cX10_badOf 8 = .ok (.iaload, 1) := by decide +kernel
theorem dX10_badOf_9 : decode cX10_badOf 9 = .ok (.istore_n 3, 1) := by decide +kernel
theorem dX10_badOf_10 : decode cX10_badOf 10 = .ok (.aload_n 0, 1) := by decide +kernel
theorem dX10_badOf_11 : decode cX10_badOf 11 = .ok (.getfield 19, 3) := by decide +kernel
theorem dX10_badOf_14 : decode cX10_badOf 14 = .ok (.bipush 8, 2) := by decide +kernel
theorem dX10_badOf_16 : decode cX10_badOf 16 = .ok (.iload_n 1, 1) := by decide +kernel
theorem dX10_badOf_17 : decode cX10_badOf 17 = .ok (.imul, 1) := by decide +kernel
theorem dX10_badOf_18 : decode cX10_badOf 18 = .ok (.iconst 1, 1) := by decide +kernel
theorem dX10_badOf_19 : decode cX10_badOf 19 = .ok (.iadd, 1) := by decide +kernel
theorem dX10_badOf_20 : decode cX10_badOf 20 = .ok (.iload_n 2, 1) := by decide +kernel
theorem dX10_badOf_21 : decode cX10_badOf 21 = .ok (.iadd, 1) := by decide +kernel
theorem dX10_badOf_22 : decode cX10_badOf 22 = .ok (.iaload, 1) := by decide +kernel
theorem dX10_badOf_23 : decode cX10_badOf 23 = .ok (.istore 4, 2) := by decide +kernel
theorem dX10_badOf_25 : decode cX10_badOf 25 = .ok (.iload_n 2, 1) := by decide +kernel
theorem dX10_badOf_26 : decode cX10_badOf 26 = .ok (.ifCond .ne 34, 3) := by decide +kernel
theorem dX10_badOf_29 : decode cX10_badOf 29 = .ok (.iload_n 3, 1) := by decide +kernel
theorem dX10_badOf_30 : decode cX10_badOf 30 = .ok (.iconst 1, 1) := by decide +kernel
theorem dX10_badOf_31 : decode cX10_badOf 31 = .ok (.if_icmp .eq 8, 3) := by decide +kernel
theorem dX10_badOf_34 : decode cX10_badOf 34 = .ok (.iload_n 3, 1) := by decide +kernel
theorem dX10_badOf_35 : decode cX10_badOf 35 = .ok (.iconst 4, 1) := by decide +kernel
theorem dX10_badOf_36 : decode cX10_badOf 36 = .ok (.if_icmp .ne 10, 3) := by decide +kernel
theorem dX10_badOf_39 : decode cX10_badOf 39 = .ok (.iload 4, 2) := by decide +kernel
theorem dX10_badOf_41 : decode cX10_badOf 41 = .ok (.iconst 2, 1) := by decide +kernel
theorem dX10_badOf_42 : decode cX10_badOf 42 = .ok (.idiv, 1) := by decide +kernel
theorem dX10_badOf_43 : decode cX10_badOf 43 = .ok (.goto 15, 3) := by decide +kernel
theorem dX10_badOf_46 : decode cX10_badOf 46 = .ok (.iload_n 3, 1) := by decide +kernel
theorem dX10_badOf_47 : decode cX10_badOf 47 = .ok (.iconst 3, 1) := by decide +kernel
theorem dX10_badOf_48 : decode cX10_badOf 48 = .ok (.if_icmp .ne 8, 3) := by decide +kernel
theorem dX10_badOf_51 : decode cX10_badOf 51 = .ok (.bipush 9, 2) := by decide +kernel
theorem dX10_badOf_53 : decode cX10_badOf 53 = .ok (.goto 5, 3) := by decide +kernel
theorem dX10_badOf_56 : decode cX10_badOf 56 = .ok (.iload 4, 2) := by decide +kernel
theorem dX10_badOf_58 : decode cX10_badOf 58 = .ok (.istore 4, 2) := by decide +kernel
theorem dX10_badOf_60 : decode cX10_badOf 60 = .ok (.iload_n 2, 1) := by decide +kernel
theorem dX10_badOf_61 : decode cX10_badOf 61 = .ok (.iconst 1, 1) := by decide +kernel
theorem dX10_badOf_62 : decode cX10_badOf 62 = .ok (.if_icmp .ne 15, 3) := by decide +kernel
theorem dX10_badOf_65 : decode cX10_badOf 65 = .ok (.iload_n 3, 1) := by decide +kernel
theorem dX10_badOf_66 : decode cX10_badOf 66 = .ok (.iconst 4, 1) := by decide +kernel
theorem dX10_badOf_67 : decode cX10_badOf 67 = .ok (.if_icmp .ne 10, 3) := by decide +kernel
theorem dX10_badOf_70 : decode cX10_badOf 70 = .ok (.iload 4, 2) := by decide +kernel
theorem dX10_badOf_72 : decode cX10_badOf 72 = .ok (.iconst 2, 1) := by decide +kernel
theorem dX10_badOf_73 : decode cX10_badOf 73 = .ok (.idiv, 1) := by decide +kernel
theorem dX10_badOf_74 : decode cX10_badOf 74 = .ok (.goto 5, 3) := by decide +kernel
theorem dX10_badOf_77 : decode cX10_badOf 77 = .ok (.iload 4, 2) := by decide +kernel
theorem dX10_badOf_79 : decode cX10_badOf 79 = .ok (.istore 4, 2) := by decide +kernel
theorem dX10_badOf_81 : decode cX10_badOf 81 = .ok (.iload_n 2, 1) := by decide +kernel
theorem dX10_badOf_82 : decode cX10_badOf 82 = .ok (.iconst 3, 1) := by decide +kernel
theorem dX10_badOf_83 : decode cX10_badOf 83 = .ok (.if_icmp .ne 15, 3) := by decide +kernel
theorem dX10_badOf_86 : decode cX10_badOf 86 = .ok (.iload_n 3, 1) := by decide +kernel
theorem dX10_badOf_87 : decode cX10_badOf 87 = .ok (.iconst 2, 1) := by decide +kernel
theorem dX10_badOf_88 : decode cX10_badOf 88 = .ok (.if_icmp .ne 10, 3) := by decide +kernel
theorem dX10_badOf_91 : decode cX10_badOf 91 = .ok (.iconst 2, 1) := by decide +kernel
theorem dX10_badOf_92 : decode cX10_badOf 92 = .ok (.iload 4, 2) := by decide +kernel
theorem dX10_badOf_94 : decode cX10_badOf 94 = .ok (.imul, 1) := by decide +kernel
theorem dX10_badOf_95 : decode cX10_badOf 95 = .ok (.goto 5, 3) := by decide +kernel
theorem dX10_badOf_98 : decode cX10_badOf 98 = .ok (.iload 4, 2) := by decide +kernel
theorem dX10_badOf_100 : decode cX10_badOf 100 = .ok (.istore 4, 2) := by decide +kernel
theorem dX10_badOf_102 : decode cX10_badOf 102 = .ok (.iload 4, 2) := by decide +kernel
theorem dX10_badOf_104 : decode cX10_badOf 104 = .ok (.aload_n 0, 1) := by decide +kernel
theorem dX10_badOf_105 : decode cX10_badOf 105 = .ok (.getfield 19, 3) := by decide +kernel
theorem dX10_badOf_108 : decode cX10_badOf 108 = .ok (.bipush 8, 2) := by decide +kernel
theorem dX10_badOf_110 : decode cX10_badOf 110 = .ok (.iload_n 1, 1) := by decide +kernel
theorem dX10_badOf_111 : decode cX10_badOf 111 = .ok (.imul, 1) := by decide +kernel
theorem dX10_badOf_112 : decode cX10_badOf 112 = .ok (.iconst 5, 1) := by decide +kernel
theorem dX10_badOf_113 : decode cX10_badOf 113 = .ok (.iadd, 1) := by decide +kernel
theorem dX10_badOf_114 : decode cX10_badOf 114 = .ok (.iaload, 1) := by decide +kernel
theorem dX10_badOf_115 : decode cX10_badOf 115 = .ok (.iconst 1, 1) := by decide +kernel
theorem dX10_badOf_116 : decode cX10_badOf 116 = .ok (.if_icmp .ne 16, 3) := by decide +kernel
theorem dX10_badOf_119 : decode cX10_badOf 119 = .ok (.iload_n 2, 1) := by decide +kernel
theorem dX10_badOf_120 : decode cX10_badOf 120 = .ok (.ifCond .eq 8, 3) := by decide +kernel
theorem dX10_badOf_123 : decode cX10_badOf 123 = .ok (.iload_n 2, 1) := by decide +kernel
theorem dX10_badOf_124 : decode cX10_badOf 124 = .ok (.iconst 1, 1) := by decide +kernel
theorem dX10_badOf_125 : decode cX10_badOf 125 = .ok (.if_icmp .ne 7, 3) := by decide +kernel
theorem dX10_badOf_128 : decode cX10_badOf 128 = .ok (.iconst 3, 1) := by decide +kernel
theorem dX10_badOf_129 : decode cX10_badOf 129 = .ok (.goto 4, 3) := by decide +kernel
theorem dX10_badOf_132 : decode cX10_badOf 132 = .ok (.iconst 0, 1) := by decide +kernel
theorem dX10_badOf_133 : decode cX10_badOf 133 = .ok (.iadd, 1) := by decide +kernel
theorem dX10_badOf_134 : decode cX10_badOf 134 = .ok (.istore 4, 2) := by decide +kernel
theorem dX10_badOf_136 : decode cX10_badOf 136 = .ok (.iload 4, 2) := by decide +kernel
theorem dX10_badOf_138 : decode cX10_badOf 138 = .ok (.aload_n 0, 1) := by decide +kernel
theorem dX10_badOf_139 : decode cX10_badOf 139 = .ok (.getfield 19, 3) := by decide +kernel
theorem dX10_badOf_142 : decode cX10_badOf 142 = .ok (.bipush 8, 2) := by decide +kernel
theorem dX10_badOf_144 : decode cX10_badOf 144 = .ok (.iload_n 1, 1) := by decide +kernel
theorem dX10_badOf_145 : decode cX10_badOf 145 = .ok (.imul, 1) := by decide +kernel
theorem dX10_badOf_146 : decode cX10_badOf 146 = .ok (.bipush 6, 2) := by decide +kernel
theorem dX10_badOf_148 : decode cX10_badOf 148 = .ok (.iadd, 1) := by decide +kernel
theorem dX10_badOf_149 : decode cX10_badOf 149 = .ok (.iaload, 1) := by decide +kernel
theorem dX10_badOf_150 : decode cX10_badOf 150 = .ok (.aload_n 0, 1) := by decide +kernel
theorem dX10_badOf_151 : decode cX10_badOf 151 = .ok (.getfield 19, 3) := by decide +kernel
theorem dX10_badOf_154 : decode cX10_badOf 154 = .ok (.bipush 8, 2) := by decide +kernel
theorem dX10_badOf_156 : decode cX10_badOf 156 = .ok (.iload_n 1, 1) := by decide +kernel
theorem dX10_badOf_157 : decode cX10_badOf 157 = .ok (.imul, 1) := by decide +kernel
theorem dX10_badOf_158 : decode cX10_badOf 158 = .ok (.bipush 7, 2) := by decide +kernel
theorem dX10_badOf_160 : decode cX10_badOf 160 = .ok (.iadd, 1) := by decide +kernel
theorem dX10_badOf_161 : decode cX10_badOf 161 = .ok (.iaload, 1) := by decide +kernel
theorem dX10_badOf_162 : decode cX10_badOf 162 = .ok (.iadd, 1) := by decide +kernel
theorem dX10_badOf_163 : decode cX10_badOf 163 = .ok (.isub, 1) := by decide +kernel
theorem dX10_badOf_164 : decode cX10_badOf 164 = .ok (.istore 4, 2) := by decide +kernel
theorem dX10_badOf_166 : decode cX10_badOf 166 = .ok (.iload 4, 2) := by decide +kernel
theorem dX10_badOf_168 : decode cX10_badOf 168 = .ok (.ifCond .ge 7, 3) := by decide +kernel
theorem dX10_badOf_171 : decode cX10_badOf 171 = .ok (.iconst 0, 1) := by decide +kernel
theorem dX10_badOf_172 : decode cX10_badOf 172 = .ok (.goto 5, 3) := by decide +kernel
theorem dX10_badOf_175 : decode cX10_badOf 175 = .ok (.iload 4, 2) := by decide +kernel
theorem dX10_badOf_177 : decode cX10_badOf 177 = .ok (.ireturn, 1) := by decide +kernel
set_option maxRecDepth 20000 in
theorem ggX10_forWhom_X10_badOf : GoodIn wsX10_forWhom wsX10_badOf := goodIn_r _ [7, 8, 9, 10, 11, 12, 13, 14, 15, 16, 17, 18, 19, 20, 21, 22, 23, 24, 25, 26, 27, 28, 29, 30, 31, 32, 33, 34] (by decide +kernel) (by decide +kernel)
set_option maxRecDepth 20000 in
theorem gX10_forWhom_X10_badOf : GoodIn wsX10_forWhom (wsV RX10 100 RX10 yX10_badOf wsX10_badOf) := goodIn_app (goodIn_of _ (by decide +kernel)) ggX10_forWhom_X10_badOf
theorem dX10_forWhom_0 : decode cX10_forWhom 0 = .ok (.iconst 0, 1) := by decide +kernel
theorem dX10_forWhom_1 : decode cX10_forWhom 1 = .ok (.istore_n 2, 1) := by decide +kernel
theorem dX10_forWhom_2 : decode cX10_forWhom 2 = .ok (.iconst 1, 1) := by decide +kernel
theorem dX10_forWhom_3 : decode cX10_forWhom 3 = .ok (.istore_n 3, 1) := by decide +kernel
theorem dX10_forWhom_4 : decode cX10_forWhom 4 = .ok (.iload_n 3, 1) := by decide +kernel
theorem dX10_forWhom_5 : decode cX10_forWhom 5 = .ok (.aload_n 0, 1) := by decide +kernel
theorem dX10_forWhom_6 : decode cX10_forWhom 6 = .ok (.getfield 81, 3) := by decide +kernel
theorem dX10_forWhom_9 : decode cX10_forWhom 9 = .ok (.if_icmp .ge 40, 3) := by decide +kernel
theorem dX10_forWhom_12 : decode cX10_forWhom 12 = .ok (.aload_n 0, 1) := by decide +kernel
theorem dX10_forWhom_13 : decode cX10_forWhom 13 = .ok (.iload_n 3, 1) := by decide +kernel
theorem dX10_forWhom_14 : decode cX10_forWhom 14 = .ok (.aload_n 0, 1) := by decide +kernel
theorem dX10_forWhom_15 : decode cX10_forWhom 15 = .ok (.getfield 22, 3) := by decide +kernel
theorem dX10_forWhom_18 : decode cX10_forWhom 18 = .ok (.iload_n 1, 1) := by decide +kernel
theorem dX10_forWhom_19 : decode cX10_forWhom 19 = .ok (.iaload, 1) := by decide +kernel
theorem dX10_forWhom_20 : decode cX10_forWhom 20 = .ok (.invokevirtual 100, 3) := by decide +kernel
theorem dX10_forWhom_23 : decode cX10_forWhom 23 = .ok (.aload_n 0, 1) := by decide +kernel
theorem dX10_forWhom_24 : decode cX10_forWhom 24 = .ok (.iload_n 2, 1) := by decide +kernel
theorem dX10_forWhom_25 : decode cX10_forWhom 25 = .ok (.aload_n 0, 1) := by decide +kernel
theorem dX10_forWhom_26 : decode cX10_forWhom 26 = .ok (.getfield 22, 3) := by decide +kernel
theorem dX10_forWhom_29 : decode cX10_forWhom 29 = .ok (.iload_n 1, 1) := by decide +kernel
theorem dX10_forWhom_30 : decode cX10_forWhom 30 = .ok (.iaload, 1) := by decide +kernel
theorem dX10_forWhom_31 : decode cX10_forWhom 31 = .ok (.invokevirtual 100, 3) := by decide +kernel
theorem dX10_forWhom_34 : decode cX10_forWhom 34 = .ok (.if_icmp .le 7, 3) := by decide +kernel
theorem dX10_forWhom_37 : decode cX10_forWhom 37 = .ok (.iload_n 3, 1) := by decide +kernel
theorem dX10_forWhom_38 : decode cX10_forWhom 38 = .ok (.goto 4, 3) := by decide +kernel
theorem dX10_forWhom_41 : decode cX10_forWhom 41 = .ok (.iload_n 2, 1) := by decide +kernel
theorem dX10_forWhom_42 : decode cX10_forWhom 42 = .ok (.istore_n 2, 1) := by decide +kernel
theorem dX10_forWhom_43 : decode cX10_forWhom 43 = .ok (.iinc 3 1, 3) := by decide +kernel
theorem dX10_forWhom_46 : decode cX10_forWhom 46 = .ok (.goto (-42), 3) := by decide +kernel
theorem dX10_forWhom_49 : decode cX10_forWhom 49 = .ok (.iload_n 2, 1) := by decide +kernel
theorem dX10_forWhom_50 : decode cX10_forWhom 50 = .ok (.ireturn, 1) := by decide +kernel
set_option maxRecDepth 20000 in
theorem ggX10_votesOf_X10_forWhom : GoodIn wsX10_votesOf wsX10_forWhom := goodIn_r _ [6, 7, 8, 9, 10, 11, 5, 12, 13, 14, 15, 16, 17, 18, 19, 20, 21, 22, 23, 24, 25, 26, 27, 28, 29, 30, 31, 32, 33, 34, 35, 36, 37, 38, 39] (by decide +kernel) (by decide +kernel)
set_option maxRecDepth 20000 in
theorem gX10_votesOf_X10_forWhom : GoodIn wsX10_votesOf (wsV RX10 104 RX10 yX10_forWhom wsX10_forWhom) := goodIn_app (goodIn_of _ (by decide +kernel)) ggX10_votesOf_X10_forWhom
theorem dX10_votesOf_0 : decode cX10_votesOf 0 = .ok (.iconst 0, 1) := by decide +kernel
theorem dX10_votesOf_1 : decode cX10_votesOf 1 = .ok (.istore_n 2, 1) := by decide +kernel
theorem dX10_votesOf_2 : decode cX10_votesOf 2 = .ok (.iconst 0, 1) := by decide +kernel
theorem dX10_votesOf_3 : decode cX10_votesOf 3 = .ok (.istore_n 3, 1) := by decide +kernel
theorem dX10_votesOf_4 : decode cX10_votesOf 4 = .ok (.iload_n 3, 1) := by decide +kernel
theorem dX10_votesOf_5 : decode cX10_votesOf 5 = .ok (.aload_n 0, 1) := by decide +kernel
theorem dX10_votesOf_6 : decode cX10_votesOf 6 = .ok (.getfield 84, 3) := by decide +kernel
theorem dX10_votesOf_9 : decode cX10_votesOf 9 = .ok (.if_icmp .ge 26, 3) := by decide +kernel
theorem dX10_votesOf_12 : decode cX10_votesOf 12 = .ok (.iload_n 2, 1) := by decide +kernel
theorem dX10_votesOf_13 : decode cX10_votesOf 13 = .ok (.aload_n 0, 1) := by decide +kernel
theorem dX10_votesOf_14 : decode cX10_votesOf 14 = .ok (.iload_n 3, 1) := by decide +kernel
theorem dX10_votesOf_15 : decode cX10_votesOf 15 = .ok (.invokevirtual 104, 3) := by decide +kernel
theorem dX10_votesOf_18 : decode cX10_votesOf 18 = .ok (.iload_n 1, 1) := by decide +kernel
theorem dX10_votesOf_19 : decode cX10_votesOf 19 = .ok (.if_icmp .ne 7, 3) := by decide +kernel
theorem dX10_votesOf_22 : decode cX10_votesOf 22 = .ok (.iconst 1, 1) := by decide +kernel
theorem dX10_votesOf_23 : decode cX10_votesOf 23 = .ok (.goto 4, 3) := by decide +kernel
theorem dX10_votesOf_26 : decode cX10_votesOf 26 = .ok (.iconst 0, 1) := by decide +kernel
theorem dX10_votesOf_27 : decode cX10_votesOf 27 = .ok (.iadd, 1) := by decide +kernel
theorem dX10_votesOf_28 : decode cX10_votesOf 28 = .ok (.istore_n 2, 1) := by decide +kernel
theorem dX10_votesOf_29 : decode cX10_votesOf 29 = .ok (.iinc 3 1, 3) := by decide +kernel
theorem dX10_votesOf_32 : decode cX10_votesOf 32 = .ok (.goto (-28), 3) := by decide +kernel
theorem dX10_votesOf_35 : decode cX10_votesOf 35 = .ok (.iload_n 2, 1) := by decide +kernel
theorem dX10_votesOf_36 : decode cX10_votesOf 36 = .ok (.ireturn, 1) := by decide +kernel
set_option maxRecDepth 20000 in
theorem ggX10_mayorOf_X10_votesOf : GoodIn wsX10_mayorOf wsX10_votesOf := goodIn_r _ [6, 7, 8, 9, 10, 5, 11, 1, 12, 13, 14, 15, 16, 17, 18, 19, 20, 21, 22, 23, 24, 25, 26, 27, 28, 29, 30, 31, 32, 33, 34, 35, 36, 37, 38, 39, 40, 41, 42, 43] (by decide +kernel) (by decide +kernel)
set_option maxRecDepth 20000 in
theorem gX10_mayorOf_X10_votesOf : GoodIn wsX10_mayorOf (wsV RX10 107 RX10 yX10_votesOf wsX10_votesOf) := goodIn_app (goodIn_of _ (by decide +kernel)) ggX10_mayorOf_X10_votesOf
theorem dX10_mayorOf_0 : decode cX10_mayorOf 0 = .ok (.iconst 0, 1) := by decide +kernel
theorem dX10_mayorOf_1 : decode cX10_mayorOf 1 = .ok (.istore_n 1, 1) := by decide +kernel
theorem dX10_mayorOf_2 : decode cX10_mayorOf 2 = .ok (.iconst 1, 1) := by decide +kernel
theorem dX10_mayorOf_3 : decode cX10_mayorOf 3 = .ok (.istore_n 2, 1) := by decide +kernel
theorem dX10_mayorOf_4 : decode cX10_mayorOf 4 = .ok (.iload_n 2, 1) := by decide +kernel
theorem dX10_mayorOf_5 : decode cX10_mayorOf 5 = .ok (.aload_n 0, 1) := by decide +kernel
theorem dX10_mayorOf_6 : decode cX10_mayorOf 6 = .ok (.getfield 81, 3) := by decide +kernel
theorem dX10_mayorOf_9 : decode cX10_mayorOf 9 = .ok (.if_icmp .ge 28, 3) := by decide +kernel
theorem dX10_mayorOf_12 : decode cX10_mayorOf 12 = .ok (.aload_n 0, 1) := by decide +kernel
theorem dX10_mayorOf_13 : decode cX10_mayorOf 13 = .ok (.iload_n 2, 1) := by decide +kernel
theorem dX10_mayorOf_14 : decode cX10_mayorOf 14 = .ok (.invokevirtual 107, 3) := by decide +kernel
theorem dX10_mayorOf_17 : decode cX10_mayorOf 17 = .ok (.aload_n 0, 1) := by decide +kernel
theorem dX10_mayorOf_18 : decode cX10_mayorOf 18 = .ok (.iload_n 1, 1) := by decide +kernel
theorem dX10_mayorOf_19 : decode cX10_mayorOf 19 = .ok (.invokevirtual 107, 3) := by decide +kernel
theorem dX10_mayorOf_22 : decode cX10_mayorOf 22 = .ok (.if_icmp .le 7, 3) := by decide +kernel
theorem dX10_mayorOf_25 : decode cX10_mayorOf 25 = .ok (.iload_n 2, 1) := by decide +kernel
theorem dX10_mayorOf_26 : decode cX10_mayorOf 26 = .ok (.goto 4, 3) := by decide +kernel
theorem dX10_mayorOf_29 : decode cX10_mayorOf 29 = .ok (.iload_n 1, 1) := by decide +kernel
theorem dX10_mayorOf_30 : decode cX10_mayorOf 30 = .ok (.istore_n 1, 1) := by decide +kernel
theorem dX10_mayorOf_31 : decode cX10_mayorOf 31 = .ok (.iinc 2 1, 3) := by decide +kernel
theorem dX10_mayorOf_34 : decode cX10_mayorOf 34 = .ok (.goto (-30), 3) := by decide +kernel
theorem dX10_mayorOf_37 : decode cX10_mayorOf 37 = .ok (.iload_n 1, 1) := by decide +kernel
theorem dX10_mayorOf_38 : decode cX10_mayorOf 38 = .ok (.ireturn, 1) := by decide +kernel
set_option maxRecDepth 20000 in
theorem ggX10_worstOf_X10_votesOf : GoodIn wsX10_worstOf wsX10_votesOf := goodIn_r _ [6, 7, 8, 9, 10, 5, 11, 12, 13, 14, 15, 16, 17, 1, 18, 19, 20, 21, 22, 23, 24, 25, 26, 27, 28, 29, 30, 31, 32, 33, 34, 35, 36, 37, 38, 39, 40, 41, 42, 43] (by decide +kernel) (by decide +kernel)
set_option maxRecDepth 20000 in
theorem gX10_worstOf_X10_votesOf : GoodIn wsX10_worstOf (wsV RX10 107 RX10 yX10_votesOf wsX10_votesOf) := goodIn_app (goodIn_of _ (by decide +kernel)) ggX10_worstOf_X10_votesOf
theorem dX10_worstOf_0 : decode cX10_worstOf 0 = .ok (.aload_n 0, 1) := by decide +kernel
theorem dX10_worstOf_1 : decode cX10_worstOf 1 = .ok (.getfield 19, 3) := by decide +kernel
theorem dX10_worstOf_4 : decode cX10_worstOf 4 = .ok (.bipush 8, 2) := by decide +kernel
theorem dX10_worstOf_6 : decode cX10_worstOf 6 = .ok (.iload_n 1, 1) := by decide +kernel
theorem dX10_worstOf_7 : decode cX10_worstOf 7 = .ok (.imul, 1) := by decide +kernel
theorem dX10_worstOf_8 : decode cX10_worstOf 8 = .ok (.iconst 5, 1) := by decide +kernel
theorem dX10_worstOf_9 : decode cX10_worstOf 9 = .ok (.iadd, 1) := by decide +kernel
theorem dX10_worstOf_10 : decode cX10_worstOf 10 = .ok (.iaload, 1) := by decide +kernel
theorem dX10_worstOf_11 : decode cX10_worstOf 11 = .ok (.istore_n 3, 1) := by decide +kernel
theorem dX10_worstOf_12 : decode cX10_worstOf 12 = .ok (.aload_n 0, 1) := by decide +kernel
theorem dX10_worstOf_13 : decode cX10_worstOf 13 = .ok (.getfield 19, 3) := by decide +kernel
theorem dX10_worstOf_16 : decode cX10_worstOf 16 = .ok (.bipush 8, 2) := by decide +kernel
theorem dX10_worstOf_18 : decode cX10_worstOf 18 = .ok (.iload_n 1, 1) := by decide +kernel
theorem dX10_worstOf_19 : decode cX10_worstOf 19 = .ok (.imul, 1) := by decide +kernel
theorem dX10_worstOf_20 : decode cX10_worstOf 20 = .ok (.bipush 6, 2) := by decide +kernel
theorem dX10_worstOf_22 : decode cX10_worstOf 22 = .ok (.iadd, 1) := by decide +kernel
theorem dX10_worstOf_23 : decode cX10_worstOf 23 = .ok (.iaload, 1) := by decide +kernel
theorem dX10_worstOf_24 : decode cX10_worstOf 24 = .ok (.istore 4, 2) := by decide +kernel
theorem dX10_worstOf_26 : decode cX10_worstOf 26 = .ok (.iconst (-1), 1) := by decide +kernel
theorem dX10_worstOf_27 : decode cX10_worstOf 27 = .ok (.istore 5, 2) := by decide +kernel
theorem dX10_worstOf_29 : decode cX10_worstOf 29 = .ok (.iconst (-1), 1) := by decide +kernel
theorem dX10_worstOf_30 : decode cX10_worstOf 30 = .ok (.istore 6, 2) := by decide +kernel
theorem dX10_worstOf_32 : decode cX10_worstOf 32 = .ok (.iconst 0, 1) := by decide +kernel
theorem dX10_worstOf_33 : decode cX10_worstOf 33 = .ok (.istore 7, 2) := by decide +kernel
theorem dX10_worstOf_35 : decode cX10_worstOf 35 = .ok (.iload 7, 2) := by decide +kernel
theorem dX10_worstOf_37 : decode cX10_worstOf 37 = .ok (.iconst 4, 1) := by decide +kernel
theorem dX10_worstOf_38 : decode cX10_worstOf 38 = .ok (.if_icmp .ge 79, 3) := by decide +kernel
theorem dX10_worstOf_41 : decode cX10_worstOf 41 = .ok (.aload_n 0, 1) := by decide +kernel
theorem dX10_worstOf_42 : decode cX10_worstOf 42 = .ok (.getfield 19, 3) := by decide +kernel
theorem dX10_worstOf_45 : decode cX10_worstOf 45 = .ok (.bipush 8, 2) := by decide +kernel
theorem dX10_worstOf_47 : decode cX10_worstOf 47 = .ok (.iload_n 1, 1) := by decide +kernel
theorem dX10_worstOf_48 : decode cX10_worstOf 48 = .ok (.imul, 1) := by decide +kernel
theorem dX10_worstOf_49 : decode cX10_worstOf 49 = .ok (.iconst 5, 1) := by decide +kernel
theorem dX10_worstOf_50 : decode cX10_worstOf 50 = .ok (.iadd, 1) := by decide +kernel
theorem dX10_worstOf_51 : decode cX10_worstOf 51 = .ok (.iload 7, 2) := by decide +kernel
theorem dX10_worstOf_53 : decode cX10_worstOf 53 = .ok (.iconst 2, 1) := by decide +kernel
theorem dX10_worstOf_54 : decode cX10_worstOf 54 = .ok (.idiv, 1) := by decide +kernel
theorem dX10_worstOf_55 : decode cX10_worstOf 55 = .ok (.iastore, 1) := by decide +kernel
theorem dX10_worstOf_56 : decode cX10_worstOf 56 = .ok (.aload_n 0, 1) := by decide +kernel
theorem dX10_worstOf_57 : decode cX10_worstOf 57 = .ok (.getfield 19, 3) := by decide +kernel
theorem dX10_worstOf_60 : decode cX10_worstOf 60 = .ok (.bipush 8, 2) := by decide +kernel
theorem dX10_worstOf_62 : decode cX10_worstOf 62 = .ok (.iload_n 1, 1) := by decide +kernel
theorem dX10_worstOf_63 : decode cX10_worstOf 63 = .ok (.imul, 1) := by decide +kernel
theorem dX10_worstOf_64 : decode cX10_worstOf 64 = .ok (.bipush 6, 2) := by decide +kernel
theorem dX10_worstOf_66 : decode cX10_worstOf 66 = .ok (.iadd, 1) := by decide +kernel
theorem dX10_worstOf_67 : decode cX10_worstOf 67 = .ok (.iload 7, 2) := by decide +kernel
theorem dX10_worstOf_69 : decode cX10_worstOf 69 = .ok (.iconst 2, 1) := by decide +kernel
theorem dX10_worstOf_70 : decode cX10_worstOf 70 = .ok (.irem, 1) := by decide +kernel
theorem dX10_worstOf_71 : decode cX10_worstOf 71 = .ok (.iastore, 1) := by decide +kernel
theorem dX10_worstOf_72 : decode cX10_worstOf 72 = .ok (.aload_n 0, 1) := by decide +kernel
theorem dX10_worstOf_73 : decode cX10_worstOf 73 = .ok (.iload_n 1, 1) := by decide +kernel
theorem dX10_worstOf_74 : decode cX10_worstOf 74 = .ok (.invokevirtual 107, 3) := by decide +kernel
theorem dX10_worstOf_77 : decode cX10_worstOf 77 = .ok (.istore 8, 2) := by decide +kernel
theorem dX10_worstOf_79 : decode cX10_worstOf 79 = .ok (.iload 8, 2) := by decide +kernel
theorem dX10_worstOf_81 : decode cX10_worstOf 81 = .ok (.iload 6, 2) := by decide +kernel
theorem dX10_worstOf_83 : decode cX10_worstOf 83 = .ok (.if_icmp .le 8, 3) := by decide +kernel
theorem dX10_worstOf_86 : decode cX10_worstOf 86 = .ok (.iload 7, 2) := by decide +kernel
theorem dX10_worstOf_88 : decode cX10_worstOf 88 = .ok (.goto 5, 3) := by decide +kernel
theorem dX10_worstOf_91 : decode cX10_worstOf 91 = .ok (.iload 5, 2) := by decide +kernel
theorem dX10_worstOf_93 : decode cX10_worstOf 93 = .ok (.istore 5, 2) := by decide +kernel
theorem dX10_worstOf_95 : decode cX10_worstOf 95 = .ok (.iload 8, 2) := by decide +kernel
theorem dX10_worstOf_97 : decode cX10_worstOf 97 = .ok (.iload 6, 2) := by decide +kernel
theorem dX10_worstOf_99 : decode cX10_worstOf 99 = .ok (.if_icmp .le 8, 3) := by decide +kernel
theorem dX10_worstOf_102 : decode cX10_worstOf 102 = .ok (.iload 8, 2) := by decide +kernel
theorem dX10_worstOf_104 : decode cX10_worstOf 104 = .ok (.goto 5, 3) := by decide +kernel
theorem dX10_worstOf_107 : decode cX10_worstOf 107 = .ok (.iload 6, 2) := by decide +kernel
theorem dX10_worstOf_109 : decode cX10_worstOf 109 = .ok (.istore 6, 2) := by decide +kernel
theorem dX10_worstOf_111 : decode cX10_worstOf 111 = .ok (.iinc 7 1, 3) := by decide +kernel
theorem dX10_worstOf_114 : decode cX10_worstOf 114 = .ok (.goto (-79), 3) := by decide +kernel
theorem dX10_worstOf_117 : decode cX10_worstOf 117 = .ok (.aload_n 0, 1) := by decide +kernel
theorem dX10_worstOf_118 : decode cX10_worstOf 118 = .ok (.getfield 19, 3) := by decide +kernel
theorem dX10_worstOf_121 : decode cX10_worstOf 121 = .ok (.bipush 8, 2) := by decide +kernel
theorem dX10_worstOf_123 : decode cX10_worstOf 123 = .ok (.iload_n 1, 1) := by decide +kernel
theorem dX10_worstOf_124 : decode cX10_worstOf 124 = .ok (.imul, 1) := by decide +kernel
theorem dX10_worstOf_125 : decode cX10_worstOf 125 = .ok (.iconst 5, 1) := by decide +kernel
theorem dX10_worstOf_126 : decode cX10_worstOf 126 = .ok (.iadd, 1) := by decide +kernel
theorem dX10_worstOf_127 : decode cX10_worstOf 127 = .ok (.iload_n 3, 1) := by decide +kernel
theorem dX10_worstOf_128 : decode cX10_worstOf 128 = .ok (.iastore, 1) := by decide +kernel
theorem dX10_worstOf_129 : decode cX10_worstOf 129 = .ok (.aload_n 0, 1) := by decide +kernel
theorem dX10_worstOf_130 : decode cX10_worstOf 130 = .ok (.getfield 19, 3) := by decide +kernel
theorem dX10_worstOf_133 : decode cX10_worstOf 133 = .ok (.bipush 8, 2) := by decide +kernel
theorem dX10_worstOf_135 : decode cX10_worstOf 135 = .ok (.iload_n 1, 1) := by decide +kernel
theorem dX10_worstOf_136 : decode cX10_worstOf 136 = .ok (.imul, 1) := by decide +kernel
theorem dX10_worstOf_137 : decode cX10_worstOf 137 = .ok (.bipush 6, 2) := by decide +kernel
theorem dX10_worstOf_139 : decode cX10_worstOf 139 = .ok (.iadd, 1) := by decide +kernel
theorem dX10_worstOf_140 : decode cX10_worstOf 140 = .ok (.iload 4, 2) := by decide +kernel
theorem dX10_worstOf_142 : decode cX10_worstOf 142 = .ok (.iastore, 1) := by decide +kernel
theorem dX10_worstOf_143 : decode cX10_worstOf 143 = .ok (.iload_n 2, 1) := by decide +kernel
theorem dX10_worstOf_144 : decode cX10_worstOf 144 = .ok (.iconst 5, 1) := by decide +kernel
theorem dX10_worstOf_145 : decode cX10_worstOf 145 = .ok (.if_icmp .ne 8, 3) := by decide +kernel
theorem dX10_worstOf_148 : decode cX10_worstOf 148 = .ok (.iload 5, 2) := by decide +kernel
theorem dX10_worstOf_150 : decode cX10_worstOf 150 = .ok (.goto 5, 3) := by decide +kernel
theorem dX10_worstOf_153 : decode cX10_worstOf 153 = .ok (.iload 6, 2) := by decide +kernel
theorem dX10_worstOf_155 : decode cX10_worstOf 155 = .ok (.ireturn, 1) := by decide +kernel
set_option maxRecDepth 20000 in
theorem ggX10_tell_X10_in : GoodIn wsX10_tell wsX10_in := goodIn_r _ [9] (by decide +kernel) (by decide +kernel)
set_option maxRecDepth 20000 in
theorem gX10_tell_X10_in : GoodIn wsX10_tell (va_wsS RX10 49 yX10_in wsX10_in) := goodIn_app (goodIn_of _ (by decide +kernel)) ggX10_tell_X10_in
set_option maxRecDepth 20000 in
theorem ggX10_tell_X10_badOf : GoodIn wsX10_tell wsX10_badOf := goodIn_r _ [13, 3, 29, 30, 31, 32, 33, 34, 35, 36, 37, 38, 39, 40, 41, 42, 43, 44, 45, 46, 47, 48, 49, 50, 51, 52, 53, 54] (by decide +kernel) (by decide +kernel)
set_option maxRecDepth 20000 in
theorem gX10_tell_X10_badOf : GoodIn wsX10_tell (wsV RX10 100 RX10 yX10_badOf wsX10_badOf) := goodIn_app (goodIn_of _ (by decide +kernel)) ggX10_tell_X10_badOf
set_option maxRecDepth 20000 in
theorem ggX10_tell_X10_votesOf : GoodIn wsX10_tell wsX10_votesOf := goodIn_r _ [17, 18, 19, 20, 21, 8, 22, 23, 24, 10, 11, 12, 13, 3, 29, 30, 31, 32, 33, 34, 35, 36, 37, 38, 39, 40, 41, 42, 43, 44, 45, 46, 47, 48, 49, 50, 51, 52, 53, 54] (by decide +kernel) (by decide +kernel)
set_option maxRecDepth 20000 in
theorem gX10_tell_X10_votesOf : GoodIn wsX10_tell (wsV RX10 107 RX10 yX10_votesOf wsX10_votesOf) := goodIn_app (goodIn_of _ (by decide +kernel)) ggX10_tell_X10_votesOf
set_option maxRecDepth 20000 in
theorem ggX10_tell_X10_worstOf : GoodIn wsX10_tell wsX10_worstOf := goodIn_r _ [28, 3, 14, 15, 16, 8, 17, 18, 19, 20, 21, 22, 23, 24, 10, 11, 12, 13, 29, 30, 31, 32, 33, 34, 35, 36, 37, 38, 39, 40, 41, 42, 43, 44, 45, 46, 47, 48, 49, 50, 51, 52, 53, 54] (by decide +kernel) (by decide +kernel)
set_option maxRecDepth 20000 in
theorem gX10_tell_X10_worstOf : GoodIn wsX10_tell (wsV RX10 118 RX10 yX10_worstOf wsX10_worstOf) := goodIn_app (goodIn_of _ (by decide +kernel)) ggX10_tell_X10_worstOf
theorem dX10_tell_0 : decode cX10_tell 0 = .ok (.iload_n 2, 1) := by decide +kernel
theorem dX10_tell_1 : decode cX10_tell 1 = .ok (.i2l, 1) := by decide +kernel
theorem dX10_tell_2 : decode cX10_tell 2 = .ok (.ldc2_w 110, 3) := by decide +kernel
theorem dX10_tell_5 : decode cX10_tell 5 = .ok (.ldc2_w 112, 3) := by decide +kernel
theorem dX10_tell_8 : decode cX10_tell 8 = .ok (.invokestatic 49, 3) := by decide +kernel
theorem dX10_tell_11 : decode cX10_tell 11 = .ok (.ifCond .eq 18, 3) := by decide +kernel
theorem dX10_tell_14 : decode cX10_tell 14 = .ok (.aload_n 0, 1) := by decide +kernel
theorem dX10_tell_15 : decode cX10_tell 15 = .ok (.getfield 19, 3) := by decide +kernel
theorem dX10_tell_18 : decode cX10_tell 18 = .ok (.bipush 8, 2) := by decide +kernel
theorem dX10_tell_20 : decode cX10_tell 20 = .ok (.iload_n 1, 1) := by decide +kernel
theorem dX10_tell_21 : decode cX10_tell 21 = .ok (.imul, 1) := by decide +kernel
theorem dX10_tell_22 : decode cX10_tell 22 = .ok (.iload_n 2, 1) := by decide +kernel
theorem dX10_tell_23 : decode cX10_tell 23 = .ok (.iadd, 1) := by decide +kernel
theorem dX10_tell_24 : decode cX10_tell 24 = .ok (.bipush 9, 2) := by decide +kernel
theorem dX10_tell_26 : decode cX10_tell 26 = .ok (.isub, 1) := by decide +kernel
theorem dX10_tell_27 : decode cX10_tell 27 = .ok (.iaload, 1) := by decide +kernel
theorem dX10_tell_28 : decode cX10_tell 28 = .ok (.ireturn, 1) := by decide +kernel
theorem dX10_tell_29 : decode cX10_tell 29 = .ok (.iload_n 2, 1) := by decide +kernel
theorem dX10_tell_30 : decode cX10_tell 30 = .ok (.i2l, 1) := by decide +kernel
theorem dX10_tell_31 : decode cX10_tell 31 = .ok (.ldc2_w 114, 3) := by decide +kernel
theorem dX10_tell_34 : decode cX10_tell 34 = .ok (.ldc2_w 116, 3) := by decide +kernel
theorem dX10_tell_37 : decode cX10_tell 37 = .ok (.invokestatic 49, 3) := by decide +kernel
theorem dX10_tell_40 : decode cX10_tell 40 = .ok (.ifCond .eq 13, 3) := by decide +kernel
theorem dX10_tell_43 : decode cX10_tell 43 = .ok (.aload_n 0, 1) := by decide +kernel
theorem dX10_tell_44 : decode cX10_tell 44 = .ok (.iload_n 1, 1) := by decide +kernel
theorem dX10_tell_45 : decode cX10_tell 45 = .ok (.iload_n 2, 1) := by decide +kernel
theorem dX10_tell_46 : decode cX10_tell 46 = .ok (.bipush 20, 2) := by decide +kernel
theorem dX10_tell_48 : decode cX10_tell 48 = .ok (.isub, 1) := by decide +kernel
theorem dX10_tell_49 : decode cX10_tell 49 = .ok (.invokevirtual 100, 3) := by decide +kernel
theorem dX10_tell_52 : decode cX10_tell 52 = .ok (.ireturn, 1) := by decide +kernel
theorem dX10_tell_53 : decode cX10_tell 53 = .ok (.iload_n 2, 1) := by decide +kernel
theorem dX10_tell_54 : decode cX10_tell 54 = .ok (.tableswitch 79 0 6 #[42, 52, 58, 58, 58, 72, 72], 42) := by decide +kernel
theorem dX10_tell_96 : decode cX10_tell 96 = .ok (.aload_n 0, 1) := by decide +kernel
theorem dX10_tell_97 : decode cX10_tell 97 = .ok (.getfield 19, 3) := by decide +kernel
theorem dX10_tell_100 : decode cX10_tell 100 = .ok (.bipush 8, 2) := by decide +kernel
theorem dX10_tell_102 : decode cX10_tell 102 = .ok (.iload_n 1, 1) := by decide +kernel
theorem dX10_tell_103 : decode cX10_tell 103 = .ok (.imul, 1) := by decide +kernel
theorem dX10_tell_104 : decode cX10_tell 104 = .ok (.iaload, 1) := by decide +kernel
theorem dX10_tell_105 : decode cX10_tell 105 = .ok (.ireturn, 1) := by decide +kernel
theorem dX10_tell_106 : decode cX10_tell 106 = .ok (.aload_n 0, 1) := by decide +kernel
theorem dX10_tell_107 : decode cX10_tell 107 = .ok (.iload_n 1, 1) := by decide +kernel
theorem dX10_tell_108 : decode cX10_tell 108 = .ok (.invokevirtual 107, 3) := by decide +kernel
theorem dX10_tell_111 : decode cX10_tell 111 = .ok (.ireturn, 1) := by decide +kernel
theorem dX10_tell_112 : decode cX10_tell 112 = .ok (.aload_n 0, 1) := by decide +kernel
theorem dX10_tell_113 : decode cX10_tell 113 = .ok (.getfield 19, 3) := by decide +kernel
theorem dX10_tell_116 : decode cX10_tell 116 = .ok (.bipush 8, 2) := by decide +kernel
theorem dX10_tell_118 : decode cX10_tell 118 = .ok (.iload_n 1, 1) := by decide +kernel
theorem dX10_tell_119 : decode cX10_tell 119 = .ok (.imul, 1) := by decide +kernel
theorem dX10_tell_120 : decode cX10_tell 120 = .ok (.iload_n 2, 1) := by decide +kernel
theorem dX10_tell_121 : decode cX10_tell 121 = .ok (.iadd, 1) := by decide +kernel
theorem dX10_tell_122 : decode cX10_tell 122 = .ok (.iconst 3, 1) := by decide +kernel
theorem dX10_tell_123 : decode cX10_tell 123 = .ok (.iadd, 1) := by decide +kernel
theorem dX10_tell_124 : decode cX10_tell 124 = .ok (.iaload, 1) := by decide +kernel
theorem dX10_tell_125 : decode cX10_tell 125 = .ok (.ireturn, 1) := by decide +kernel
theorem dX10_tell_126 : decode cX10_tell 126 = .ok (.aload_n 0, 1) := by decide +kernel
theorem dX10_tell_127 : decode cX10_tell 127 = .ok (.iload_n 1, 1) := by decide +kernel
theorem dX10_tell_128 : decode cX10_tell 128 = .ok (.iload_n 2, 1) := by decide +kernel
theorem dX10_tell_129 : decode cX10_tell 129 = .ok (.invokevirtual 118, 3) := by decide +kernel
theorem dX10_tell_132 : decode cX10_tell 132 = .ok (.ireturn, 1) := by decide +kernel
theorem dX10_tell_133 : decode cX10_tell 133 = .ok (.bipush (-102), 2) := by decide +kernel
theorem dX10_tell_135 : decode cX10_tell 135 = .ok (.ireturn, 1) := by decide +kernel
set_option maxRecDepth 20000 in
theorem ggX10_singer_X10_isSinger : GoodIn wsX10_singer wsX10_isSinger := goodIn_r _ [5, 6, 7, 8, 4, 9, 37, 38, 39, 40, 41, 42, 43, 44, 45, 46, 47, 48, 49, 50, 51, 52, 53, 54, 55, 56, 57, 58, 59, 60, 61, 62] (by decide +kernel) (by decide +kernel)
set_option maxRecDepth 20000 in
theorem gX10_singer_X10_isSinger : GoodIn wsX10_singer (wsV RX10 121 RX10 yX10_isSinger wsX10_isSinger) := goodIn_app (goodIn_of _ (by decide +kernel)) ggX10_singer_X10_isSinger
set_option maxRecDepth 20000 in
theorem ggX10_singer_X10_tell : GoodIn wsX10_singer wsX10_tell := goodIn_r _ [13, 14, 15, 16, 17, 18, 7, 8, 4, 9, 19, 20, 21, 22, 23, 24, 25, 26, 27, 28, 29, 30, 31, 6, 32, 33, 34, 35, 36, 37, 38, 39, 40, 41, 42, 43, 44, 45, 46, 47, 48, 49, 50, 51, 52, 53, 54, 55, 56, 57, 58, 59, 60, 61, 62] (by decide +kernel) (by decide +kernel)
set_option maxRecDepth 20000 in
theorem gX10_singer_X10_tell : GoodIn wsX10_singer (wsV RX10 124 RX10 yX10_tell wsX10_tell) := goodIn_app (goodIn_of _ (by decide +kernel)) ggX10_singer_X10_tell
theorem dX10_singer_0 : decode cX10_singer 0 = .ok (.aload_n 0, 1) := by decide +kernel
theorem dX10_singer_1 : decode cX10_singer 1 = .ok (.iload_n 1, 1) := by decide +kernel
theorem dX10_singer_2 : decode cX10_singer 2 = .ok (.invokevirtual 121, 3) := by decide +kernel
theorem dX10_singer_5 : decode cX10_singer 5 = .ok (.ifCond .eq 12, 3) := by decide +kernel
theorem dX10_singer_8 : decode cX10_singer 8 = .ok (.aload_n 0, 1) := by decide +kernel
theorem dX10_singer_9 : decode cX10_singer 9 = .ok (.iload_n 1, 1) := by decide +kernel
theorem dX10_singer_10 : decode cX10_singer 10 = .ok (.iload_n 2, 1) := by decide +kernel
theorem dX10_singer_11 : decode cX10_singer 11 = .ok (.invokevirtual 124, 3) := by decide +kernel
