theorem inJ9 : ∀ w ∈ wsJ90, w ∈ lw_tbl := by decide +kernel
theorem inJ0 : ∀ w ∈ wsJ00, w ∈ lw_tbl := by decide +kernel
theorem inJ1 : ∀ w ∈ wsJ10, w ∈ lw_tbl := by decide +kernel
theorem inJ2 : ∀ w ∈ wsJ20, w ∈ lw_tbl := by decide +kernel
theorem inJ10 : ∀ w ∈ wsJ100, w ∈ lw_tbl := by decide +kernel
theorem inJ3 : ∀ w ∈ wsJ30, w ∈ lw_tbl := by decide +kernel
set_option maxRecDepth 20000 in
theorem ggX0_init_X6_init : GoodIn wsX0_init wsX6_init := goodIn_r _ [3, 4, 5, 6] (by decide +kernel) (by decide +kernel)
set_option maxRecDepth 20000 in
theorem gX0_init_X6_init_n3 : GoodIn wsX0_init (wsX6_init) := ggX0_init_X6_init
theorem dX0_init_0 : decode cX0_init 0 = .ok (.aload_n 0, 1) := by decide +kernel
theorem dX0_init_1 : decode cX0_init 1 = .ok (.invokespecial 3, 3) := by decide +kernel
theorem dX0_init_4 : decode cX0_init 4 = .ok (.return_, 1) := by decide +kernel
theorem dX0_number_0 : decode cX0_number 0 = .ok (.iconst 2, 1) := by decide +kernel
theorem dX0_number_1 : decode cX0_number 1 = .ok (.ireturn, 1) := by decide +kernel
theorem dX0_plainBad_0 : decode cX0_plainBad 0 = .ok (.iload_n 1, 1) := by decide +kernel
theorem dX0_plainBad_1 : decode cX0_plainBad 1 = .ok (.iconst 3, 1) := by decide +kernel
theorem dX0_plainBad_2 : decode cX0_plainBad 2 = .ok (.if_icmp .ne 9, 3) := by decide +kernel
theorem dX0_plainBad_5 : decode cX0_plainBad 5 = .ok (.iconst 2, 1) := by decide +kernel
theorem dX0_plainBad_6 : decode cX0_plainBad 6 = .ok (.iload_n 2, 1) := by decide +kernel
theorem dX0_plainBad_7 : decode cX0_plainBad 7 = .ok (.imul, 1) := by decide +kernel
theorem dX0_plainBad_8 : decode cX0_plainBad 8 = .ok (.goto 4, 3) := by decide +kernel
theorem dX0_plainBad_11 : decode cX0_plainBad 11 = .ok (.iload_n 2, 1) := by decide +kernel
theorem dX0_plainBad_12 : decode cX0_plainBad 12 = .ok (.ireturn, 1) := by decide +kernel
theorem dX0_practised_0 : decode cX0_practised 0 = .ok (.iload_n 1, 1) := by decide +kernel
theorem dX0_practised_1 : decode cX0_practised 1 = .ok (.bipush 9, 2) := by decide +kernel
theorem dX0_practised_3 : decode cX0_practised 3 = .ok (.if_icmp .ge 9, 3) := by decide +kernel
theorem dX0_practised_6 : decode cX0_practised 6 = .ok (.iload_n 1, 1) := by decide +kernel
theorem dX0_practised_7 : decode cX0_practised 7 = .ok (.iconst 1, 1) := by decide +kernel
theorem dX0_practised_8 : decode cX0_practised 8 = .ok (.iadd, 1) := by decide +kernel
theorem dX0_practised_9 : decode cX0_practised 9 = .ok (.goto 5, 3) := by decide +kernel
theorem dX0_practised_12 : decode cX0_practised 12 = .ok (.bipush 9, 2) := by decide +kernel
theorem dX0_practised_14 : decode cX0_practised 14 = .ok (.ireturn, 1) := by decide +kernel
theorem dX1_init_0 : decode cX1_init 0 = .ok (.aload_n 0, 1) := by decide +kernel
theorem dX1_init_1 : decode cX1_init 1 = .ok (.invokespecial 3, 3) := by decide +kernel
theorem dX1_init_4 : decode cX1_init 4 = .ok (.aload_n 0, 1) := by decide +kernel
theorem dX1_init_5 : decode cX1_init 5 = .ok (.iconst 4, 1) := by decide +kernel
theorem dX1_init_6 : decode cX1_init 6 = .ok (.newarray .int, 2) := by decide +kernel
theorem dX1_init_8 : decode cX1_init 8 = .ok (.putfield 9, 3) := by decide +kernel
theorem dX1_init_11 : decode cX1_init 11 = .ok (.aload_n 0, 1) := by decide +kernel
theorem dX1_init_12 : decode cX1_init 12 = .ok (.bipush 16, 2) := by decide +kernel
theorem dX1_init_14 : decode cX1_init 14 = .ok (.newarray .int, 2) := by decide +kernel
theorem dX1_init_16 : decode cX1_init 16 = .ok (.putfield 15, 3) := by decide +kernel
theorem dX1_init_19 : decode cX1_init 19 = .ok (.aload_n 0, 1) := by decide +kernel
theorem dX1_init_20 : decode cX1_init 20 = .ok (.iconst 4, 1) := by decide +kernel
theorem dX1_init_21 : decode cX1_init 21 = .ok (.newarray .int, 2) := by decide +kernel
theorem dX1_init_23 : decode cX1_init 23 = .ok (.putfield 18, 3) := by decide +kernel
theorem dX1_init_26 : decode cX1_init 26 = .ok (.aload_n 0, 1) := by decide +kernel
theorem dX1_init_27 : decode cX1_init 27 = .ok (.iconst 4, 1) := by decide +kernel
theorem dX1_init_28 : decode cX1_init 28 = .ok (.newarray .int, 2) := by decide +kernel
theorem dX1_init_30 : decode cX1_init 30 = .ok (.putfield 21, 3) := by decide +kernel
theorem dX1_init_33 : decode cX1_init 33 = .ok (.aload_n 0, 1) := by decide +kernel
theorem dX1_init_34 : decode cX1_init 34 = .ok (.iconst 4, 1) := by decide +kernel
theorem dX1_init_35 : decode cX1_init 35 = .ok (.newarray .int, 2) := by decide +kernel
theorem dX1_init_37 : decode cX1_init 37 = .ok (.putfield 24, 3) := by decide +kernel
theorem dX1_init_40 : decode cX1_init 40 = .ok (.aload_n 0, 1) := by decide +kernel
theorem dX1_init_41 : decode cX1_init 41 = .ok (.iconst 5, 1) := by decide +kernel
theorem dX1_init_42 : decode cX1_init 42 = .ok (.newarray .int, 2) := by decide +kernel
theorem dX1_init_44 : decode cX1_init 44 = .ok (.putfield 27, 3) := by decide +kernel
theorem dX1_init_47 : decode cX1_init 47 = .ok (.aload_n 0, 1) := by decide +kernel
theorem dX1_init_48 : decode cX1_init 48 = .ok (.aload_n 1, 1) := by decide +kernel
theorem dX1_init_49 : decode cX1_init 49 = .ok (.putfield 30, 3) := by decide +kernel
theorem dX1_init_52 : decode cX1_init 52 = .ok (.return_, 1) := by decide +kernel
set_option maxRecDepth 20000 in
theorem ggX1_readFrom_X5_singersEnd : GoodIn wsX1_readFrom wsX5_singersEnd := goodIn_r _ [16, 17, 18, 19, 20, 15, 21, 22, 142, 143] (by decide +kernel) (by decide +kernel)
set_option maxRecDepth 20000 in
theorem gX1_readFrom_X5_singersEnd : GoodIn wsX1_readFrom (wsV RX1 34 RX5 yX5_singersEnd wsX5_singersEnd) := goodIn_app (goodIn_of _ (by decide +kernel)) ggX1_readFrom_X5_singersEnd
set_option maxRecDepth 20000 in
theorem ggX1_readFrom_X1_readSinger : GoodIn wsX1_readFrom wsX1_readSinger := goodIn_r _ [27, 28, 29, 30, 31, 32, 33, 34, 35, 26, 36, 5, 37, 38, 39, 15, 40, 18, 19, 20, 21, 17, 22, 41, 42, 43, 44, 45, 46, 47, 48, 49, 50, 51, 52, 53, 54, 55, 56, 57, 58, 59, 60, 61, 62, 63, 64, 65, 66, 67, 68, 69, 70, 71, 72, 7, 3, 8, 73, 2, 4, 74, 75, 76, 77, 78, 79, 80, 81, 82, 83, 84, 85, 86, 87, 88, 89, 90, 91, 92, 93, 94, 95, 96, 97, 98, 99, 100, 101, 102, 103, 104, 105, 106, 107, 108, 109, 110, 111, 112, 113, 114, 115, 116, 117, 118, 119, 120, 121, 122, 123, 124, 125, 126, 127, 128, 129, 130, 131, 132, 133, 134, 135, 136, 137, 138, 139, 140, 141, 142, 143] (by decide +kernel) (by decide +kernel)
set_option maxRecDepth 20000 in
theorem gX1_readFrom_X1_readSinger : GoodIn wsX1_readFrom (wsV RX1 62 RX1 yX1_readSinger wsX1_readSinger) := goodIn_app (goodIn_of _ (by decide +kernel)) ggX1_readFrom_X1_readSinger
set_option maxRecDepth 20000 in
theorem ggX1_readFrom_X5_digitAt : GoodIn wsX1_readFrom wsX5_digitAt := goodIn_r _ [131, 18, 19, 20, 15, 21, 17, 22, 142, 143] (by decide +kernel) (by decide +kernel)
set_option maxRecDepth 20000 in
theorem gX1_readFrom_X5_digitAt : GoodIn wsX1_readFrom (wsV RX1 66 RX5 yX5_digitAt wsX5_digitAt) := goodIn_app (goodIn_of _ (by decide +kernel)) ggX1_readFrom_X5_digitAt
theorem dX1_readFrom_0 : decode cX1_readFrom 0 = .ok (.aload_n 1, 1) := by decide +kernel
theorem dX1_readFrom_1 : decode cX1_readFrom 1 = .ok (.invokevirtual 34, 3) := by decide +kernel
theorem dX1_readFrom_4 : decode cX1_readFrom 4 = .ok (.istore_n 2, 1) := by decide +kernel
theorem dX1_readFrom_5 : decode cX1_readFrom 5 = .ok (.aload_n 0, 1) := by decide +kernel
theorem dX1_readFrom_6 : decode cX1_readFrom 6 = .ok (.iconst 4, 1) := by decide +kernel
theorem dX1_readFrom_7 : decode cX1_readFrom 7 = .ok (.iload_n 2, 1) := by decide +kernel
theorem dX1_readFrom_8 : decode cX1_readFrom 8 = .ok (.iconst 1, 1) := by decide +kernel
theorem dX1_readFrom_9 : decode cX1_readFrom 9 = .ok (.iadd, 1) := by decide +kernel
theorem dX1_readFrom_10 : decode cX1_readFrom 10 = .ok (.bipush 6, 2) := by decide +kernel
theorem dX1_readFrom_12 : decode cX1_readFrom 12 = .ok (.idiv, 1) := by decide +kernel
theorem dX1_readFrom_13 : decode cX1_readFrom 13 = .ok (.invokestatic 40, 3) := by decide +kernel
theorem dX1_readFrom_16 : decode cX1_readFrom 16 = .ok (.putfield 46, 3) := by decide +kernel
theorem dX1_readFrom_19 : decode cX1_readFrom 19 = .ok (.aload_n 0, 1) := by decide +kernel
theorem dX1_readFrom_20 : decode cX1_readFrom 20 = .ok (.iconst 0, 1) := by decide +kernel
theorem dX1_readFrom_21 : decode cX1_readFrom 21 = .ok (.iconst 5, 1) := by decide +kernel
theorem dX1_readFrom_22 : decode cX1_readFrom 22 = .ok (.aload_n 1, 1) := by decide +kernel
theorem dX1_readFrom_23 : decode cX1_readFrom 23 = .ok (.getfield 50, 3) := by decide +kernel
theorem dX1_readFrom_26 : decode cX1_readFrom 26 = .ok (.iload_n 2, 1) := by decide +kernel
theorem dX1_readFrom_27 : decode cX1_readFrom 27 = .ok (.isub, 1) := by decide +kernel
theorem dX1_readFrom_28 : decode cX1_readFrom 28 = .ok (.iconst 1, 1) := by decide +kernel
theorem dX1_readFrom_29 : decode cX1_readFrom 29 = .ok (.isub, 1) := by decide +kernel
theorem dX1_readFrom_30 : decode cX1_readFrom 30 = .ok (.invokestatic 40, 3) := by decide +kernel
theorem dX1_readFrom_33 : decode cX1_readFrom 33 = .ok (.invokestatic 53, 3) := by decide +kernel
theorem dX1_readFrom_36 : decode cX1_readFrom 36 = .ok (.putfield 56, 3) := by decide +kernel
theorem dX1_readFrom_39 : decode cX1_readFrom 39 = .ok (.aload_n 0, 1) := by decide +kernel
theorem dX1_readFrom_40 : decode cX1_readFrom 40 = .ok (.iconst 0, 1) := by decide +kernel
theorem dX1_readFrom_41 : decode cX1_readFrom 41 = .ok (.putfield 59, 3) := by decide +kernel
theorem dX1_readFrom_44 : decode cX1_readFrom 44 = .ok (.iconst 0, 1) := by decide +kernel
theorem dX1_readFrom_45 : decode cX1_readFrom 45 = .ok (.istore_n 3, 1) := by decide +kernel
theorem dX1_readFrom_46 : decode cX1_readFrom 46 = .ok (.iload_n 3, 1) := by decide +kernel
theorem dX1_readFrom_47 : decode cX1_readFrom 47 = .ok (.aload_n 0, 1) := by decide +kernel
theorem dX1_readFrom_48 : decode cX1_readFrom 48 = .ok (.getfield 46, 3) := by decide +kernel
theorem dX1_readFrom_51 : decode cX1_readFrom 51 = .ok (.if_icmp .ge 15, 3) := by decide +kernel
theorem dX1_readFrom_54 : decode cX1_readFrom 54 = .ok (.aload_n 0, 1) := by decide +kernel
theorem dX1_readFrom_55 : decode cX1_readFrom 55 = .ok (.aload_n 1, 1) := by decide +kernel
theorem dX1_readFrom_56 : decode cX1_readFrom 56 = .ok (.iload_n 3, 1) := by decide +kernel
theorem dX1_readFrom_57 : decode cX1_readFrom 57 = .ok (.invokevirtual 62, 3) := by decide +kernel
theorem dX1_readFrom_60 : decode cX1_readFrom 60 = .ok (.iinc 3 1, 3) := by decide +kernel
theorem dX1_readFrom_63 : decode cX1_readFrom 63 = .ok (.goto (-17), 3) := by decide +kernel
theorem dX1_readFrom_66 : decode cX1_readFrom 66 = .ok (.iconst 0, 1) := by decide +kernel
theorem dX1_readFrom_67 : decode cX1_readFrom 67 = .ok (.istore_n 3, 1) := by decide +kernel
theorem dX1_readFrom_68 : decode cX1_readFrom 68 = .ok (.iload_n 3, 1) := by decide +kernel
theorem dX1_readFrom_69 : decode cX1_readFrom 69 = .ok (.aload_n 0, 1) := by decide +kernel
theorem dX1_readFrom_70 : decode cX1_readFrom 70 = .ok (.getfield 56, 3) := by decide +kernel
theorem dX1_readFrom_73 : decode cX1_readFrom 73 = .ok (.if_icmp .ge 24, 3) := by decide +kernel
theorem dX1_readFrom_76 : decode cX1_readFrom 76 = .ok (.aload_n 0, 1) := by decide +kernel
theorem dX1_readFrom_77 : decode cX1_readFrom 77 = .ok (.getfield 27, 3) := by decide +kernel
theorem dX1_readFrom_80 : decode cX1_readFrom 80 = .ok (.iload_n 3, 1) := by decide +kernel
theorem dX1_readFrom_81 : decode cX1_readFrom 81 = .ok (.aload_n 1, 1) := by decide +kernel
theorem dX1_readFrom_82 : decode cX1_readFrom 82 = .ok (.iload_n 2, 1) := by decide +kernel
theorem dX1_readFrom_83 : decode cX1_readFrom 83 = .ok (.iconst 1, 1) := by decide +kernel
theorem dX1_readFrom_84 : decode cX1_readFrom 84 = .ok (.iadd, 1) := by decide +kernel
theorem dX1_readFrom_85 : decode cX1_readFrom 85 = .ok (.iload_n 3, 1) := by decide +kernel
theorem dX1_readFrom_86 : decode cX1_readFrom 86 = .ok (.iadd, 1) := by decide +kernel
theorem dX1_readFrom_87 : decode cX1_readFrom 87 = .ok (.invokevirtual 66, 3) := by decide +kernel
theorem dX1_readFrom_90 : decode cX1_readFrom 90 = .ok (.iastore, 1) := by decide +kernel
theorem dX1_readFrom_91 : decode cX1_readFrom 91 = .ok (.iinc 3 1, 3) := by decide +kernel
theorem dX1_readFrom_94 : decode cX1_readFrom 94 = .ok (.goto (-26), 3) := by decide +kernel
theorem dX1_readFrom_97 : decode cX1_readFrom 97 = .ok (.return_, 1) := by decide +kernel
set_option maxRecDepth 20000 in
theorem ggX1_readSinger_X1_hasSinger : GoodIn wsX1_readSinger wsX1_hasSinger := goodIn_r _ [10, 11, 119, 120, 121, 122, 123, 124, 125, 126, 127, 128] (by decide +kernel) (by decide +kernel)
set_option maxRecDepth 20000 in
theorem gX1_readSinger_X1_hasSinger : GoodIn wsX1_readSinger (wsV RX1 70 RX1 yX1_hasSinger wsX1_hasSinger) := goodIn_app (goodIn_of _ (by decide +kernel)) ggX1_readSinger_X1_hasSinger
set_option maxRecDepth 20000 in
theorem ggX1_readSinger_X5_kindAt : GoodIn wsX1_readSinger wsX5_kindAt := goodIn_r _ [16, 17, 18, 19, 15, 20, 21, 22, 23, 24, 25, 26, 27, 28, 29, 30, 31, 32, 33, 34, 35, 36, 37, 38, 39, 40, 41, 42, 43, 44, 45, 46, 47, 48, 49, 50, 51, 52, 53, 54, 55, 56, 57, 58, 59, 60, 61, 62, 63, 64, 65, 66, 67, 68, 69, 70, 71, 72, 73, 74, 75, 76, 77, 78, 79, 80, 81, 82, 83, 84, 85, 86, 87, 88, 89, 90, 91, 92, 93, 94, 95, 96, 97, 98, 99, 100, 101, 102, 103, 104, 105, 106, 107, 108, 109, 110, 111, 112, 113, 114, 129, 130] (by decide +kernel) (by decide +kernel)
set_option maxRecDepth 20000 in
theorem gX1_readSinger_X5_kindAt : GoodIn wsX1_readSinger (wsV RX1 74 RX5 yX5_kindAt wsX5_kindAt) := goodIn_app (goodIn_of _ (by decide +kernel)) ggX1_readSinger_X5_kindAt
set_option maxRecDepth 20000 in
theorem ggX1_readSinger_X5_digitAt : GoodIn wsX1_readSinger wsX5_digitAt := goodIn_r _ [118, 17, 18, 19, 15, 20, 21, 22, 129, 130] (by decide +kernel) (by decide +kernel)
set_option maxRecDepth 20000 in
theorem gX1_readSinger_X5_digitAt : GoodIn wsX1_readSinger (wsV RX1 66 RX5 yX5_digitAt wsX5_digitAt) := goodIn_app (goodIn_of _ (by decide +kernel)) ggX1_readSinger_X5_digitAt
theorem dX1_readSinger_0 : decode cX1_readSinger 0 = .ok (.aload_n 0, 1) := by decide +kernel
theorem dX1_readSinger_1 : decode cX1_readSinger 1 = .ok (.iload_n 2, 1) := by decide +kernel
theorem dX1_readSinger_2 : decode cX1_readSinger 2 = .ok (.invokevirtual 70, 3) := by decide +kernel
theorem dX1_readSinger_5 : decode cX1_readSinger 5 = .ok (.ifCond .ne 4, 3) := by decide +kernel
theorem dX1_readSinger_8 : decode cX1_readSinger 8 = .ok (.return_, 1) := by decide +kernel
theorem dX1_readSinger_9 : decode cX1_readSinger 9 = .ok (.bipush 6, 2) := by decide +kernel
theorem dX1_readSinger_11 : decode cX1_readSinger 11 = .ok (.iload_n 2, 1) := by decide +kernel
theorem dX1_readSinger_12 : decode cX1_readSinger 12 = .ok (.imul, 1) := by decide +kernel
theorem dX1_readSinger_13 : decode cX1_readSinger 13 = .ok (.istore_n 3, 1) := by decide +kernel
theorem dX1_readSinger_14 : decode cX1_readSinger 14 = .ok (.aload_n 0, 1) := by decide +kernel
theorem dX1_readSinger_15 : decode cX1_readSinger 15 = .ok (.getfield 9, 3) := by decide +kernel
theorem dX1_readSinger_18 : decode cX1_readSinger 18 = .ok (.iload_n 2, 1) := by decide +kernel
theorem dX1_readSinger_19 : decode cX1_readSinger 19 = .ok (.aload_n 1, 1) := by decide +kernel
theorem dX1_readSinger_20 : decode cX1_readSinger 20 = .ok (.iload_n 3, 1) := by decide +kernel
theorem dX1_readSinger_21 : decode cX1_readSinger 21 = .ok (.invokevirtual 74, 3) := by decide +kernel
theorem dX1_readSinger_24 : decode cX1_readSinger 24 = .ok (.iastore, 1) := by decide +kernel
theorem dX1_readSinger_25 : decode cX1_readSinger 25 = .ok (.iconst 0, 1) := by decide +kernel
theorem dX1_readSinger_26 : decode cX1_readSinger 26 = .ok (.istore 4, 2) := by decide +kernel
theorem dX1_readSinger_28 : decode cX1_readSinger 28 = .ok (.iload 4, 2) := by decide +kernel
theorem dX1_readSinger_30 : decode cX1_readSinger 30 = .ok (.iconst 4, 1) := by decide +kernel
theorem dX1_readSinger_31 : decode cX1_readSinger 31 = .ok (.if_icmp .ge 30, 3) := by decide +kernel
theorem dX1_readSinger_34 : decode cX1_readSinger 34 = .ok (.aload_n 0, 1) := by decide +kernel
theorem dX1_readSinger_35 : decode cX1_readSinger 35 = .ok (.getfield 15, 3) := by decide +kernel
theorem dX1_readSinger_38 : decode cX1_readSinger 38 = .ok (.iconst 4, 1) := by decide +kernel
theorem dX1_readSinger_39 : decode cX1_readSinger 39 = .ok (.iload_n 2, 1) := by decide +kernel
theorem dX1_readSinger_40 : decode cX1_readSinger 40 = .ok (.imul, 1) := by decide +kernel
theorem dX1_readSinger_41 : decode cX1_readSinger 41 = .ok (.iload 4, 2) := by decide +kernel
theorem dX1_readSinger_43 : decode cX1_readSinger 43 = .ok (.iadd, 1) := by decide +kernel
theorem dX1_readSinger_44 : decode cX1_readSinger 44 = .ok (.aload_n 1, 1) := by decide +kernel
theorem dX1_readSinger_45 : decode cX1_readSinger 45 = .ok (.iload_n 3, 1) := by decide +kernel
theorem dX1_readSinger_46 : decode cX1_readSinger 46 = .ok (.iconst 1, 1) := by decide +kernel
theorem dX1_readSinger_47 : decode cX1_readSinger 47 = .ok (.iadd, 1) := by decide +kernel
theorem dX1_readSinger_48 : decode cX1_readSinger 48 = .ok (.iload 4, 2) := by decide +kernel
theorem dX1_readSinger_50 : decode cX1_readSinger 50 = .ok (.iadd, 1) := by decide +kernel
theorem dX1_readSinger_51 : decode cX1_readSinger 51 = .ok (.invokevirtual 66, 3) := by decide +kernel
theorem dX1_readSinger_54 : decode cX1_readSinger 54 = .ok (.iastore, 1) := by decide +kernel
theorem dX1_readSinger_55 : decode cX1_readSinger 55 = .ok (.iinc 4 1, 3) := by decide +kernel
theorem dX1_readSinger_58 : decode cX1_readSinger 58 = .ok (.goto (-30), 3) := by decide +kernel
theorem dX1_readSinger_61 : decode cX1_readSinger 61 = .ok (.aload_n 0, 1) := by decide +kernel
theorem dX1_readSinger_62 : decode cX1_readSinger 62 = .ok (.getfield 18, 3) := by decide +kernel
theorem dX1_readSinger_65 : decode cX1_readSinger 65 = .ok (.iload_n 2, 1) := by decide +kernel
theorem dX1_readSinger_66 : decode cX1_readSinger 66 = .ok (.iconst 0, 1) := by decide +kernel
theorem dX1_readSinger_67 : decode cX1_readSinger 67 = .ok (.iastore, 1) := by decide +kernel
theorem dX1_readSinger_68 : decode cX1_readSinger 68 = .ok (.aload_n 0, 1) := by decide +kernel
theorem dX1_readSinger_69 : decode cX1_readSinger 69 = .ok (.getfield 21, 3) := by decide +kernel
theorem dX1_readSinger_72 : decode cX1_readSinger 72 = .ok (.iload_n 2, 1) := by decide +kernel
theorem dX1_readSinger_73 : decode cX1_readSinger 73 = .ok (.iconst 0, 1) := by decide +kernel
theorem dX1_readSinger_74 : decode cX1_readSinger 74 = .ok (.iastore, 1) := by decide +kernel
theorem dX1_readSinger_75 : decode cX1_readSinger 75 = .ok (.aload_n 0, 1) := by decide +kernel
theorem dX1_readSinger_76 : decode cX1_readSinger 76 = .ok (.getfield 24, 3) := by decide +kernel
theorem dX1_readSinger_79 : decode cX1_readSinger 79 = .ok (.iload_n 2, 1) := by decide +kernel
theorem dX1_readSinger_80 : decode cX1_readSinger 80 = .ok (.iconst 0, 1) := by decide +kernel
theorem dX1_readSinger_81 : decode cX1_readSinger 81 = .ok (.iastore, 1) := by decide +kernel
theorem dX1_readSinger_82 : decode cX1_readSinger 82 = .ok (.return_, 1) := by decide +kernel
set_option maxRecDepth 20000 in
theorem ggX1_takeFrom_X9_copyRow : GoodIn wsX1_takeFrom wsX9_copyRow := goodIn_r _ [12, 13, 14, 15, 16, 17, 18, 19, 20] (by decide +kernel) (by decide +kernel)
set_option maxRecDepth 20000 in
theorem gX1_takeFrom_X9_copyRow_n77 : GoodIn wsX1_takeFrom (wsX9_copyRow) := ggX1_takeFrom_X9_copyRow
theorem dX1_takeFrom_0 : decode cX1_takeFrom 0 = .ok (.aload_n 1, 1) := by decide +kernel
theorem dX1_takeFrom_1 : decode cX1_takeFrom 1 = .ok (.getfield 9, 3) := by decide +kernel
theorem dX1_takeFrom_4 : decode cX1_takeFrom 4 = .ok (.aload_n 0, 1) := by decide +kernel
theorem dX1_takeFrom_5 : decode cX1_takeFrom 5 = .ok (.getfield 9, 3) := by decide +kernel
theorem dX1_takeFrom_8 : decode cX1_takeFrom 8 = .ok (.invokestatic 77, 3) := by decide +kernel
theorem dX1_takeFrom_11 : decode cX1_takeFrom 11 = .ok (.aload_n 1, 1) := by decide +kernel
theorem dX1_takeFrom_12 : decode cX1_takeFrom 12 = .ok (.getfield 15, 3) := by decide +kernel
theorem dX1_takeFrom_15 : decode cX1_takeFrom 15 = .ok (.aload_n 0, 1) := by decide +kernel
theorem dX1_takeFrom_16 : decode cX1_takeFrom 16 = .ok (.getfield 15, 3) := by decide +kernel
theorem dX1_takeFrom_19 : decode cX1_takeFrom 19 = .ok (.invokestatic 77, 3) := by decide +kernel
theorem dX1_takeFrom_22 : decode cX1_takeFrom 22 = .ok (.aload_n 1, 1) := by decide +kernel
theorem dX1_takeFrom_23 : decode cX1_takeFrom 23 = .ok (.getfield 18, 3) := by decide +kernel
theorem dX1_takeFrom_26 : decode cX1_takeFrom 26 = .ok (.aload_n 0, 1) := by decide +kernel
theorem dX1_takeFrom_27 : decode cX1_takeFrom 27 = .ok (.getfield 18, 3) := by decide +kernel
theorem dX1_takeFrom_30 : decode cX1_takeFrom 30 = .ok (.invokestatic 77, 3) := by decide +kernel
theorem dX1_takeFrom_33 : decode cX1_takeFrom 33 = .ok (.aload_n 1, 1) := by decide +kernel
theorem dX1_takeFrom_34 : decode cX1_takeFrom 34 = .ok (.getfield 21, 3) := by decide +kernel
theorem dX1_takeFrom_37 : decode cX1_takeFrom 37 = .ok (.aload_n 0, 1) := by decide +kernel
theorem dX1_takeFrom_38 : decode cX1_takeFrom 38 = .ok (.getfield 21, 3) := by decide +kernel
theorem dX1_takeFrom_41 : decode cX1_takeFrom 41 = .ok (.invokestatic 77, 3) := by decide +kernel
theorem dX1_takeFrom_44 : decode cX1_takeFrom 44 = .ok (.aload_n 1, 1) := by decide +kernel
theorem dX1_takeFrom_45 : decode cX1_takeFrom 45 = .ok (.getfield 24, 3) := by decide +kernel
theorem dX1_takeFrom_48 : decode cX1_takeFrom 48 = .ok (.aload_n 0, 1) := by decide +kernel
theorem dX1_takeFrom_49 : decode cX1_takeFrom 49 = .ok (.getfield 24, 3) := by decide +kernel
theorem dX1_takeFrom_52 : decode cX1_takeFrom 52 = .ok (.invokestatic 77, 3) := by decide +kernel
theorem dX1_takeFrom_55 : decode cX1_takeFrom 55 = .ok (.aload_n 1, 1) := by decide +kernel
theorem dX1_takeFrom_56 : decode cX1_takeFrom 56 = .ok (.getfield 27, 3) := by decide +kernel
theorem dX1_takeFrom_59 : decode cX1_takeFrom 59 = .ok (.aload_n 0, 1) := by decide +kernel
theorem dX1_takeFrom_60 : decode cX1_takeFrom 60 = .ok (.getfield 27, 3) := by decide +kernel
theorem dX1_takeFrom_63 : decode cX1_takeFrom 63 = .ok (.invokestatic 77, 3) := by decide +kernel
theorem dX1_takeFrom_66 : decode cX1_takeFrom 66 = .ok (.aload_n 0, 1) := by decide +kernel
theorem dX1_takeFrom_67 : decode cX1_takeFrom 67 = .ok (.aload_n 1, 1) := by decide +kernel
theorem dX1_takeFrom_68 : decode cX1_takeFrom 68 = .ok (.getfield 46, 3) := by decide +kernel
theorem dX1_takeFrom_71 : decode cX1_takeFrom 71 = .ok (.putfield 46, 3) := by decide +kernel
theorem dX1_takeFrom_74 : decode cX1_takeFrom 74 = .ok (.aload_n 0, 1) := by decide +kernel
theorem dX1_takeFrom_75 : decode cX1_takeFrom 75 = .ok (.aload_n 1, 1) := by decide +kernel
theorem dX1_takeFrom_76 : decode cX1_takeFrom 76 = .ok (.getfield 56, 3) := by decide +kernel
theorem dX1_takeFrom_79 : decode cX1_takeFrom 79 = .ok (.putfield 56, 3) := by decide +kernel
theorem dX1_takeFrom_82 : decode cX1_takeFrom 82 = .ok (.aload_n 0, 1) := by decide +kernel
theorem dX1_takeFrom_83 : decode cX1_takeFrom 83 = .ok (.aload_n 1, 1) := by decide +kernel
theorem dX1_takeFrom_84 : decode cX1_takeFrom 84 = .ok (.getfield 59, 3) := by decide +kernel
theorem dX1_takeFrom_87 : decode cX1_takeFrom 87 = .ok (.putfield 59, 3) := by decide +kernel
theorem dX1_takeFrom_90 : decode cX1_takeFrom 90 = .ok (.return_, 1) := by decide +kernel
theorem dX1_isEmpty_0 : decode cX1_isEmpty 0 = .ok (.aload_n 0, 1) := by decide +kernel
theorem dX1_isEmpty_1 : decode cX1_isEmpty 1 = .ok (.getfield 46, 3) := by decide +kernel
theorem dX1_isEmpty_4 : decode cX1_isEmpty 4 = .ok (.ifCond .ne 7, 3) := by decide +kernel
theorem dX1_isEmpty_7 : decode cX1_isEmpty 7 = .ok (.iconst 1, 1) := by decide +kernel
theorem dX1_isEmpty_8 : decode cX1_isEmpty 8 = .ok (.goto 4, 3) := by decide +kernel
theorem dX1_isEmpty_11 : decode cX1_isEmpty 11 = .ok (.iconst 0, 1) := by decide +kernel
theorem dX1_isEmpty_12 : decode cX1_isEmpty 12 = .ok (.ireturn, 1) := by decide +kernel
theorem dX1_hasSinger_0 : decode cX1_hasSinger 0 = .ok (.iload_n 1, 1) := by decide +kernel
theorem dX1_hasSinger_1 : decode cX1_hasSinger 1 = .ok (.ifCond .lt 20, 3) := by decide +kernel
theorem dX1_hasSinger_4 : decode cX1_hasSinger 4 = .ok (.iload_n 1, 1) := by decide +kernel
theorem dX1_hasSinger_5 : decode cX1_hasSinger 5 = .ok (.aload_n 0, 1) := by decide +kernel
theorem dX1_hasSinger_6 : decode cX1_hasSinger 6 = .ok (.getfield 46, 3) := by decide +kernel
theorem dX1_hasSinger_9 : decode cX1_hasSinger 9 = .ok (.if_icmp .ge 12, 3) := by decide +kernel
theorem dX1_hasSinger_12 : decode cX1_hasSinger 12 = .ok (.iload_n 1, 1) := by decide +kernel
theorem dX1_hasSinger_13 : decode cX1_hasSinger 13 = .ok (.iconst 4, 1) := by decide +kernel
theorem dX1_hasSinger_14 : decode cX1_hasSinger 14 = .ok (.if_icmp .ge 7, 3) := by decide +kernel
theorem dX1_hasSinger_17 : decode cX1_hasSinger 17 = .ok (.iconst 1, 1) := by decide +kernel
theorem dX1_hasSinger_18 : decode cX1_hasSinger 18 = .ok (.goto 4, 3) := by decide +kernel
theorem dX1_hasSinger_21 : decode cX1_hasSinger 21 = .ok (.iconst 0, 1) := by decide +kernel
theorem dX1_hasSinger_22 : decode cX1_hasSinger 22 = .ok (.ireturn, 1) := by decide +kernel
theorem dX1_hasWidow_0 : decode cX1_hasWidow 0 = .ok (.iload_n 1, 1) := by decide +kernel
theorem dX1_hasWidow_1 : decode cX1_hasWidow 1 = .ok (.ifCond .lt 20, 3) := by decide +kernel
theorem dX1_hasWidow_4 : decode cX1_hasWidow 4 = .ok (.iload_n 1, 1) := by decide +kernel
theorem dX1_hasWidow_5 : decode cX1_hasWidow 5 = .ok (.aload_n 0, 1) := by decide +kernel
theorem dX1_hasWidow_6 : decode cX1_hasWidow 6 = .ok (.getfield 56, 3) := by decide +kernel
theorem dX1_hasWidow_9 : decode cX1_hasWidow 9 = .ok (.if_icmp .ge 12, 3) := by decide +kernel
theorem dX1_hasWidow_12 : decode cX1_hasWidow 12 = .ok (.iload_n 1, 1) := by decide +kernel
theorem dX1_hasWidow_13 : decode cX1_hasWidow 13 = .ok (.iconst 5, 1) := by decide +kernel
theorem dX1_hasWidow_14 : decode cX1_hasWidow 14 = .ok (.if_icmp .ge 7, 3) := by decide +kernel
theorem dX1_hasWidow_17 : decode cX1_hasWidow 17 = .ok (.iconst 1, 1) := by decide +kernel
theorem dX1_hasWidow_18 : decode cX1_hasWidow 18 = .ok (.goto 4, 3) := by decide +kernel
theorem dX1_hasWidow_21 : decode cX1_hasWidow 21 = .ok (.iconst 0, 1) := by decide +kernel
theorem dX1_hasWidow_22 : decode cX1_hasWidow 22 = .ok (.ireturn, 1) := by decide +kernel
set_option maxRecDepth 20000 in
theorem ggX1_voice_X1_hasSinger : GoodIn wsX1_voice wsX1_hasSinger := goodIn_r _ [7, 8, 19, 20, 21, 22, 23, 24, 25, 26, 27, 28] (by decide +kernel) (by decide +kernel)
set_option maxRecDepth 20000 in
theorem gX1_voice_X1_hasSinger : GoodIn wsX1_voice (wsV RX1 70 RX1 yX1_hasSinger wsX1_hasSinger) := goodIn_app (goodIn_of _ (by decide +kernel)) ggX1_voice_X1_hasSinger
set_option maxRecDepth 20000 in
theorem ggX1_voice_X8_ofKind : GoodIn wsX1_voice wsX8_ofKind := goodIn_r _ [13, 14, 15, 16, 17, 18, 29, 30, 31, 32, 33] (by decide +kernel) (by decide +kernel)
set_option maxRecDepth 20000 in
theorem gX1_voice_X8_ofKind : GoodIn wsX1_voice (wsV RX1 81 RX8 yX8_ofKind wsX8_ofKind) := goodIn_app (goodIn_of _ (by decide +kernel)) ggX1_voice_X8_ofKind
theorem dX1_voice_0 : decode cX1_voice 0 = .ok (.aload_n 0, 1) := by decide +kernel
theorem dX1_voice_1 : decode cX1_voice 1 = .ok (.getfield 30, 3) := by decide +kernel
theorem dX1_voice_4 : decode cX1_voice 4 = .ok (.aload_n 0, 1) := by decide +kernel
theorem dX1_voice_5 : decode cX1_voice 5 = .ok (.iload_n 1, 1) := by decide +kernel
theorem dX1_voice_6 : decode cX1_voice 6 = .ok (.invokevirtual 70, 3) := by decide +kernel
theorem dX1_voice_9 : decode cX1_voice 9 = .ok (.ifCond .eq 12, 3) := by decide +kernel
theorem dX1_voice_12 : decode cX1_voice 12 = .ok (.aload_n 0, 1) := by decide +kernel
theorem dX1_voice_13 : decode cX1_voice 13 = .ok (.getfield 9, 3) := by decide +kernel
theorem dX1_voice_16 : decode cX1_voice 16 = .ok (.iload_n 1, 1) := by decide +kernel
theorem dX1_voice_17 : decode cX1_voice 17 = .ok (.iaload, 1) := by decide +kernel
theorem dX1_voice_18 : decode cX1_voice 18 = .ok (.goto 4, 3) := by decide +kernel
theorem dX1_voice_21 : decode cX1_voice 21 = .ok (.iconst 0, 1) := by decide +kernel
theorem dX1_voice_22 : decode cX1_voice 22 = .ok (.invokevirtual 81, 3) := by decide +kernel
theorem dX1_voice_25 : decode cX1_voice 25 = .ok (.areturn, 1) := by decide +kernel
set_option maxRecDepth 20000 in
theorem ggX1_coldOf_X1_hasSinger : GoodIn wsX1_coldOf wsX1_hasSinger := goodIn_r _ [6, 7, 8, 9, 10, 11, 12, 13, 14, 15, 16, 17] (by decide +kernel) (by decide +kernel)
set_option maxRecDepth 20000 in
theorem gX1_coldOf_X1_hasSinger : GoodIn wsX1_coldOf (wsV RX1 70 RX1 yX1_hasSinger wsX1_hasSinger) := goodIn_app (goodIn_of _ (by decide +kernel)) ggX1_coldOf_X1_hasSinger
theorem dX1_coldOf_0 : decode cX1_coldOf 0 = .ok (.aload_n 0, 1) := by decide +kernel
theorem dX1_coldOf_1 : decode cX1_coldOf 1 = .ok (.iload_n 1, 1) := by decide +kernel
theorem dX1_coldOf_2 : decode cX1_coldOf 2 = .ok (.invokevirtual 70, 3) := by decide +kernel
theorem dX1_coldOf_5 : decode cX1_coldOf 5 = .ok (.ifCond .eq 12, 3) := by decide +kernel
theorem dX1_coldOf_8 : decode cX1_coldOf 8 = .ok (.aload_n 0, 1) := by decide +kernel
theorem dX1_coldOf_9 : decode cX1_coldOf 9 = .ok (.getfield 18, 3) := by decide +kernel
theorem dX1_coldOf_12 : decode cX1_coldOf 12 = .ok (.iload_n 1, 1) := by decide +kernel
theorem dX1_coldOf_13 : decode cX1_coldOf 13 = .ok (.iaload, 1) := by decide +kernel
theorem dX1_coldOf_14 : decode cX1_coldOf 14 = .ok (.goto 4, 3) := by decide +kernel
theorem dX1_coldOf_17 : decode cX1_coldOf 17 = .ok (.iconst 0, 1) := by decide +kernel
theorem dX1_coldOf_18 : decode cX1_coldOf 18 = .ok (.ireturn, 1) := by decide +kernel
set_option maxRecDepth 20000 in
theorem ggX1_leftOf_X1_hasSinger : GoodIn wsX1_leftOf wsX1_hasSinger := goodIn_r _ [6, 7, 8, 9, 10, 11, 12, 13, 14, 15, 16, 17] (by decide +kernel) (by decide +kernel)
set_option maxRecDepth 20000 in
theorem gX1_leftOf_X1_hasSinger : GoodIn wsX1_leftOf (wsV RX1 70 RX1 yX1_hasSinger wsX1_hasSinger) := goodIn_app (goodIn_of _ (by decide +kernel)) ggX1_leftOf_X1_hasSinger
theorem dX1_leftOf_0 : decode cX1_leftOf 0 = .ok (.aload_n 0, 1) := by decide +kernel
theorem dX1_leftOf_1 : decode cX1_leftOf 1 = .ok (.iload_n 1, 1) := by decide +kernel
theorem dX1_leftOf_2 : decode cX1_leftOf 2 = .ok (.invokevirtual 70, 3) := by decide +kernel
theorem dX1_leftOf_5 : decode cX1_leftOf 5 = .ok (.ifCond .eq 12, 3) := by decide +kernel
theorem dX1_leftOf_8 : decode cX1_leftOf 8 = .ok (.aload_n 0, 1) := by decide +kernel
theorem dX1_leftOf_9 : decode cX1_leftOf 9 = .ok (.getfield 21, 3) := by decide +kernel
theorem dX1_leftOf_12 : decode cX1_leftOf 12 = .ok (.iload_n 1, 1) := by decide +kernel
theorem dX1_leftOf_13 : decode cX1_leftOf 13 = .ok (.iaload, 1) := by decide +kernel
theorem dX1_leftOf_14 : decode cX1_leftOf 14 = .ok (.goto 4, 3) := by decide +kernel
theorem dX1_leftOf_17 : decode cX1_leftOf 17 = .ok (.iconst 0, 1) := by decide +kernel
theorem dX1_leftOf_18 : decode cX1_leftOf 18 = .ok (.ireturn, 1) := by decide +kernel
set_option maxRecDepth 20000 in
theorem ggX1_honeyOf_X1_hasSinger : GoodIn wsX1_honeyOf wsX1_hasSinger := goodIn_r _ [6, 7, 8, 9, 10, 11, 12, 13, 14, 15, 16, 17] (by decide +kernel) (by decide +kernel)
set_option maxRecDepth 20000 in
theorem gX1_honeyOf_X1_hasSinger : GoodIn wsX1_honeyOf (wsV RX1 70 RX1 yX1_hasSinger wsX1_hasSinger) := goodIn_app (goodIn_of _ (by decide +kernel)) ggX1_honeyOf_X1_hasSinger
theorem dX1_honeyOf_0 : decode cX1_honeyOf 0 = .ok (.aload_n 0, 1) := by decide +kernel
theorem dX1_honeyOf_1 : decode cX1_honeyOf 1 = .ok (.iload_n 1, 1) := by decide +kernel
theorem dX1_honeyOf_2 : decode cX1_honeyOf 2 = .ok (.invokevirtual 70, 3) := by decide +kernel
theorem dX1_honeyOf_5 : decode cX1_honeyOf 5 = .ok (.ifCond .eq 12, 3) := by decide +kernel
theorem dX1_honeyOf_8 : decode cX1_honeyOf 8 = .ok (.aload_n 0, 1) := by decide +kernel
theorem dX1_honeyOf_9 : decode cX1_honeyOf 9 = .ok (.getfield 24, 3) := by decide +kernel
theorem dX1_honeyOf_12 : decode cX1_honeyOf 12 = .ok (.iload_n 1, 1) := by decide +kernel
theorem dX1_honeyOf_13 : decode cX1_honeyOf 13 = .ok (.iaload, 1) := by decide +kernel
theorem dX1_honeyOf_14 : decode cX1_honeyOf 14 = .ok (.goto 4, 3) := by decide +kernel
theorem dX1_honeyOf_17 : decode cX1_honeyOf 17 = .ok (.iconst 0, 1) := by decide +kernel
theorem dX1_honeyOf_18 : decode cX1_honeyOf 18 = .ok (.ireturn, 1) := by decide +kernel
set_option maxRecDepth 20000 in
theorem ggX1_faultOf_X1_hasSinger : GoodIn wsX1_faultOf wsX1_hasSinger := goodIn_r _ [6, 7, 11, 12, 13, 14, 15, 16, 17, 18, 19, 20] (by decide +kernel) (by decide +kernel)
set_option maxRecDepth 20000 in
theorem gX1_faultOf_X1_hasSinger : GoodIn wsX1_faultOf (wsV RX1 70 RX1 yX1_hasSinger wsX1_hasSinger) := goodIn_app (goodIn_of _ (by decide +kernel)) ggX1_faultOf_X1_hasSinger
set_option maxRecDepth 20000 in
theorem ggX1_faultOf_X1_isFault : GoodIn wsX1_faultOf wsX1_isFault := goodIn_r _ [10] (by decide +kernel) (by decide +kernel)
set_option maxRecDepth 20000 in
theorem gX1_faultOf_X1_isFault : GoodIn wsX1_faultOf (va_wsS RX1 87 yX1_isFault wsX1_isFault) := goodIn_app (goodIn_of _ (by decide +kernel)) ggX1_faultOf_X1_isFault
theorem dX1_faultOf_0 : decode cX1_faultOf 0 = .ok (.aload_n 0, 1) := by decide +kernel
theorem dX1_faultOf_1 : decode cX1_faultOf 1 = .ok (.iload_n 1, 1) := by decide +kernel
theorem dX1_faultOf_2 : decode cX1_faultOf 2 = .ok (.invokevirtual 70, 3) := by decide +kernel
theorem dX1_faultOf_5 : decode cX1_faultOf 5 = .ok (.ifCond .eq 23, 3) := by decide +kernel
theorem dX1_faultOf_8 : decode cX1_faultOf 8 = .ok (.iload_n 2, 1) := by decide +kernel
theorem dX1_faultOf_9 : decode cX1_faultOf 9 = .ok (.invokestatic 87, 3) := by decide +kernel
theorem dX1_faultOf_12 : decode cX1_faultOf 12 = .ok (.ifCond .eq 16, 3) := by decide +kernel
theorem dX1_faultOf_15 : decode cX1_faultOf 15 = .ok (.aload_n 0, 1) := by decide +kernel
theorem dX1_faultOf_16 : decode cX1_faultOf 16 = .ok (.getfield 15, 3) := by decide +kernel
theorem dX1_faultOf_19 : decode cX1_faultOf 19 = .ok (.iconst 4, 1) := by decide +kernel
theorem dX1_faultOf_20 : decode cX1_faultOf 20 = .ok (.iload_n 1, 1) := by decide +kernel
theorem dX1_faultOf_21 : decode cX1_faultOf 21 = .ok (.imul, 1) := by decide +kernel
theorem dX1_faultOf_22 : decode cX1_faultOf 22 = .ok (.iload_n 2, 1) := by decide +kernel
theorem dX1_faultOf_23 : decode cX1_faultOf 23 = .ok (.iadd, 1) := by decide +kernel
theorem dX1_faultOf_24 : decode cX1_faultOf 24 = .ok (.iaload, 1) := by decide +kernel
theorem dX1_faultOf_25 : decode cX1_faultOf 25 = .ok (.goto 4, 3) := by decide +kernel
theorem dX1_faultOf_28 : decode cX1_faultOf 28 = .ok (.iconst 0, 1) := by decide +kernel
theorem dX1_faultOf_29 : decode cX1_faultOf 29 = .ok (.ireturn, 1) := by decide +kernel
set_option maxRecDepth 20000 in
theorem ggX1_minds_X1_hasWidow : GoodIn wsX1_minds wsX1_hasWidow := goodIn_r _ [6, 7, 8, 9, 10, 11, 12, 13, 14, 15, 16, 17] (by decide +kernel) (by decide +kernel)
set_option maxRecDepth 20000 in
theorem gX1_minds_X1_hasWidow : GoodIn wsX1_minds (wsV RX1 90 RX1 yX1_hasWidow wsX1_hasWidow) := goodIn_app (goodIn_of _ (by decide +kernel)) ggX1_minds_X1_hasWidow
theorem dX1_minds_0 : decode cX1_minds 0 = .ok (.aload_n 0, 1) := by decide +kernel
theorem dX1_minds_1 : decode cX1_minds 1 = .ok (.iload_n 1, 1) := by decide +kernel
theorem dX1_minds_2 : decode cX1_minds 2 = .ok (.invokevirtual 90, 3) := by decide +kernel
theorem dX1_minds_5 : decode cX1_minds 5 = .ok (.ifCond .eq 12, 3) := by decide +kernel
theorem dX1_minds_8 : decode cX1_minds 8 = .ok (.aload_n 0, 1) := by decide +kernel
theorem dX1_minds_9 : decode cX1_minds 9 = .ok (.getfield 27, 3) := by decide +kernel
theorem dX1_minds_12 : decode cX1_minds 12 = .ok (.iload_n 1, 1) := by decide +kernel
theorem dX1_minds_13 : decode cX1_minds 13 = .ok (.iaload, 1) := by decide +kernel
theorem dX1_minds_14 : decode cX1_minds 14 = .ok (.goto 4, 3) := by decide +kernel
theorem dX1_minds_17 : decode cX1_minds 17 = .ok (.iconst (-1), 1) := by decide +kernel
theorem dX1_minds_18 : decode cX1_minds 18 = .ok (.ireturn, 1) := by decide +kernel
set_option maxRecDepth 20000 in
theorem ggX1_setCold_X1_hasSinger : GoodIn wsX1_setCold wsX1_hasSinger := goodIn_r _ [6, 7, 8, 9, 10, 11, 12, 13, 14, 15, 16, 17] (by decide +kernel) (by decide +kernel)
set_option maxRecDepth 20000 in
theorem gX1_setCold_X1_hasSinger : GoodIn wsX1_setCold (wsV RX1 70 RX1 yX1_hasSinger wsX1_hasSinger) := goodIn_app (goodIn_of _ (by decide +kernel)) ggX1_setCold_X1_hasSinger
theorem dX1_setCold_0 : decode cX1_setCold 0 = .ok (.aload_n 0, 1) := by decide +kernel
theorem dX1_setCold_1 : decode cX1_setCold 1 = .ok (.iload_n 1, 1) := by decide +kernel
theorem dX1_setCold_2 : decode cX1_setCold 2 = .ok (.invokevirtual 70, 3) := by decide +kernel
theorem dX1_setCold_5 : decode cX1_setCold 5 = .ok (.ifCond .eq 18, 3) := by decide +kernel
theorem dX1_setCold_8 : decode cX1_setCold 8 = .ok (.aload_n 0, 1) := by decide +kernel
theorem dX1_setCold_9 : decode cX1_setCold 9 = .ok (.getfield 18, 3) := by decide +kernel
theorem dX1_setCold_12 : decode cX1_setCold 12 = .ok (.iload_n 1, 1) := by decide +kernel
theorem dX1_setCold_13 : decode cX1_setCold 13 = .ok (.iload_n 2, 1) := by decide +kernel
theorem dX1_setCold_14 : decode cX1_setCold 14 = .ok (.ifCond .eq 7, 3) := by decide +kernel
theorem dX1_setCold_17 : decode cX1_setCold 17 = .ok (.iconst 1, 1) := by decide +kernel
theorem dX1_setCold_18 : decode cX1_setCold 18 = .ok (.goto 4, 3) := by decide +kernel
theorem dX1_setCold_21 : decode cX1_setCold 21 = .ok (.iconst 0, 1) := by decide +kernel
theorem dX1_setCold_22 : decode cX1_setCold 22 = .ok (.iastore, 1) := by decide +kernel
theorem dX1_setCold_23 : decode cX1_setCold 23 = .ok (.return_, 1) := by decide +kernel
set_option maxRecDepth 20000 in
theorem ggX1_setLeft_X1_hasSinger : GoodIn wsX1_setLeft wsX1_hasSinger := goodIn_r _ [6, 7, 8, 9, 10, 11, 12, 13, 14, 15, 16, 17] (by decide +kernel) (by decide +kernel)
set_option maxRecDepth 20000 in
theorem gX1_setLeft_X1_hasSinger : GoodIn wsX1_setLeft (wsV RX1 70 RX1 yX1_hasSinger wsX1_hasSinger) := goodIn_app (goodIn_of _ (by decide +kernel)) ggX1_setLeft_X1_hasSinger
theorem dX1_setLeft_0 : decode cX1_setLeft 0 = .ok (.aload_n 0, 1) := by decide +kernel
theorem dX1_setLeft_1 : decode cX1_setLeft 1 = .ok (.iload_n 1, 1) := by decide +kernel
theorem dX1_setLeft_2 : decode cX1_setLeft 2 = .ok (.invokevirtual 70, 3) := by decide +kernel
theorem dX1_setLeft_5 : decode cX1_setLeft 5 = .ok (.ifCond .eq 18, 3) := by decide +kernel
theorem dX1_setLeft_8 : decode cX1_setLeft 8 = .ok (.aload_n 0, 1) := by decide +kernel
theorem dX1_setLeft_9 : decode cX1_setLeft 9 = .ok (.getfield 21, 3) := by decide +kernel
theorem dX1_setLeft_12 : decode cX1_setLeft 12 = .ok (.iload_n 1, 1) := by decide +kernel
theorem dX1_setLeft_13 : decode cX1_setLeft 13 = .ok (.iload_n 2, 1) := by decide +kernel
theorem dX1_setLeft_14 : decode cX1_setLeft 14 = .ok (.ifCond .eq 7, 3) := by decide +kernel
theorem dX1_setLeft_17 : decode cX1_setLeft 17 = .ok (.iconst 1, 1) := by decide +kernel
theorem dX1_setLeft_18 : decode cX1_setLeft 18 = .ok (.goto 4, 3) := by decide +kernel
theorem dX1_setLeft_21 : decode cX1_setLeft 21 = .ok (.iconst 0, 1) := by decide +kernel
theorem dX1_setLeft_22 : decode cX1_setLeft 22 = .ok (.iastore, 1) := by decide +kernel
theorem dX1_setLeft_23 : decode cX1_setLeft 23 = .ok (.return_, 1) := by decide +kernel
set_option maxRecDepth 20000 in
theorem ggX1_setHoney_X1_hasSinger : GoodIn wsX1_setHoney wsX1_hasSinger := goodIn_r _ [6, 7, 8, 9, 10, 11, 12, 13, 14, 15, 16, 17] (by decide +kernel) (by decide +kernel)
set_option maxRecDepth 20000 in
theorem gX1_setHoney_X1_hasSinger : GoodIn wsX1_setHoney (wsV RX1 70 RX1 yX1_hasSinger wsX1_hasSinger) := goodIn_app (goodIn_of _ (by decide +kernel)) ggX1_setHoney_X1_hasSinger
theorem dX1_setHoney_0 : decode cX1_setHoney 0 = .ok (.aload_n 0, 1) := by decide +kernel
theorem dX1_setHoney_1 : decode cX1_setHoney 1 = .ok (.iload_n 1, 1) := by decide +kernel
theorem dX1_setHoney_2 : decode cX1_setHoney 2 = .ok (.invokevirtual 70, 3) := by decide +kernel
theorem dX1_setHoney_5 : decode cX1_setHoney 5 = .ok (.ifCond .eq 10, 3) := by decide +kernel
theorem dX1_setHoney_8 : decode cX1_setHoney 8 = .ok (.aload_n 0, 1) := by decide +kernel
theorem dX1_setHoney_9 : decode cX1_setHoney 9 = .ok (.getfield 24, 3) := by decide +kernel
theorem dX1_setHoney_12 : decode cX1_setHoney 12 = .ok (.iload_n 1, 1) := by decide +kernel
theorem dX1_setHoney_13 : decode cX1_setHoney 13 = .ok (.iload_n 2, 1) := by decide +kernel
theorem dX1_setHoney_14 : decode cX1_setHoney 14 = .ok (.iastore, 1) := by decide +kernel
theorem dX1_setHoney_15 : decode cX1_setHoney 15 = .ok (.return_, 1) := by decide +kernel
set_option maxRecDepth 20000 in
theorem ggX1_practiseWeek_X1_hasSinger : GoodIn wsX1_practiseWeek wsX1_hasSinger := goodIn_r _ [7, 8, 40, 41, 42, 43, 44, 45, 46, 47, 48, 49] (by decide +kernel) (by decide +kernel)
set_option maxRecDepth 20000 in
theorem gX1_practiseWeek_X1_hasSinger : GoodIn wsX1_practiseWeek (wsV RX1 70 RX1 yX1_hasSinger wsX1_hasSinger) := goodIn_app (goodIn_of _ (by decide +kernel)) ggX1_practiseWeek_X1_hasSinger
set_option maxRecDepth 20000 in
theorem ggX1_practiseWeek_X1_voice : GoodIn wsX1_practiseWeek wsX1_voice := goodIn_r _ [12, 13, 14, 3, 4, 5, 6, 7, 8, 15, 16, 17, 18, 19, 20, 21, 22, 23, 24, 40, 41, 42, 43, 44, 45, 46, 47, 48, 49, 50, 51, 52, 53, 54] (by decide +kernel) (by decide +kernel)
set_option maxRecDepth 20000 in
theorem gX1_practiseWeek_X1_voice : GoodIn wsX1_practiseWeek (wsV RX1 93 RX1 yX1_voice wsX1_voice) := goodIn_app (goodIn_of _ (by decide +kernel)) ggX1_practiseWeek_X1_voice
set_option maxRecDepth 20000 in
theorem ggX1_practiseWeek_X0_practised : GoodIn wsX1_practiseWeek wsX0_practised := goodIn_r _ [31] (by decide +kernel) (by decide +kernel)
set_option maxRecDepth 20000 in
theorem gX1_practiseWeek_X0_practised_u96X0 : GoodIn wsX1_practiseWeek (va_wsO RX1 96 RX0 "WorstVoice$Singer" ⟨"WorstVoice$Singer", "practised", "(I)I"⟩ yX0_practised wsX0_practised) := goodIn_app (goodIn_of _ (by decide +kernel)) ggX1_practiseWeek_X0_practised
set_option maxRecDepth 20000 in
theorem ggX1_practiseWeek_X6_practised : GoodIn wsX1_practiseWeek wsX6_practised := goodIn_r _ [32] (by decide +kernel) (by decide +kernel)
set_option maxRecDepth 20000 in
theorem gX1_practiseWeek_X6_practised_u96X2 : GoodIn wsX1_practiseWeek (va_wsU RX1 96 RX2 "WorstVoice$Singer" ⟨"WorstVoice$Singer", "practised", "(I)I"⟩ yX6_practised wsX6_practised) := goodIn_app (goodIn_of _ (by decide +kernel)) ggX1_practiseWeek_X6_practised
set_option maxRecDepth 20000 in
theorem gX1_practiseWeek_X6_practised_u96X3 : GoodIn wsX1_practiseWeek (va_wsU RX1 96 RX3 "WorstVoice$Singer" ⟨"WorstVoice$Singer", "practised", "(I)I"⟩ yX6_practised wsX6_practised) := goodIn_app (goodIn_of _ (by decide +kernel)) ggX1_practiseWeek_X6_practised
set_option maxRecDepth 20000 in
theorem gX1_practiseWeek_X6_practised : GoodIn wsX1_practiseWeek (wsV RX1 96 RX6 yX6_practised wsX6_practised) := goodIn_app (goodIn_of _ (by decide +kernel)) ggX1_practiseWeek_X6_practised
set_option maxRecDepth 20000 in
theorem gX1_practiseWeek_X6_practised_u96X7 : GoodIn wsX1_practiseWeek (va_wsU RX1 96 RX7 "WorstVoice$Singer" ⟨"WorstVoice$Singer", "practised", "(I)I"⟩ yX6_practised wsX6_practised) := goodIn_app (goodIn_of _ (by decide +kernel)) ggX1_practiseWeek_X6_practised
theorem dX1_practiseWeek_0 : decode cX1_practiseWeek 0 = .ok (.aload_n 0, 1) := by decide +kernel
theorem dX1_practiseWeek_1 : decode cX1_practiseWeek 1 = .ok (.iload_n 1, 1) := by decide +kernel
theorem dX1_practiseWeek_2 : decode cX1_practiseWeek 2 = .ok (.invokevirtual 70, 3) := by decide +kernel
theorem dX1_practiseWeek_5 : decode cX1_practiseWeek 5 = .ok (.ifCond .ne 5, 3) := by decide +kernel
theorem dX1_practiseWeek_8 : decode cX1_practiseWeek 8 = .ok (.iconst 0, 1) := by decide +kernel
theorem dX1_practiseWeek_9 : decode cX1_practiseWeek 9 = .ok (.ireturn, 1) := by decide +kernel
theorem dX1_practiseWeek_10 : decode cX1_practiseWeek 10 = .ok (.aload_n 0, 1) := by decide +kernel
theorem dX1_practiseWeek_11 : decode cX1_practiseWeek 11 = .ok (.iload_n 1, 1) := by decide +kernel
theorem dX1_practiseWeek_12 : decode cX1_practiseWeek 12 = .ok (.invokevirtual 93, 3) := by decide +kernel
theorem dX1_practiseWeek_15 : decode cX1_practiseWeek 15 = .ok (.astore_n 2, 1) := by decide +kernel
theorem dX1_practiseWeek_16 : decode cX1_practiseWeek 16 = .ok (.iconst 0, 1) := by decide +kernel
theorem dX1_practiseWeek_17 : decode cX1_practiseWeek 17 = .ok (.istore_n 3, 1) := by decide +kernel
theorem dX1_practiseWeek_18 : decode cX1_practiseWeek 18 = .ok (.iconst 4, 1) := by decide +kernel
theorem dX1_practiseWeek_19 : decode cX1_practiseWeek 19 = .ok (.iload_n 1, 1) := by decide +kernel
theorem dX1_practiseWeek_20 : decode cX1_practiseWeek 20 = .ok (.imul, 1) := by decide +kernel
theorem dX1_practiseWeek_21 : decode cX1_practiseWeek 21 = .ok (.istore 4, 2) := by decide +kernel
theorem dX1_practiseWeek_23 : decode cX1_practiseWeek 23 = .ok (.iload 4, 2) := by decide +kernel
theorem dX1_practiseWeek_25 : decode cX1_practiseWeek 25 = .ok (.iconst 4, 1) := by decide +kernel
theorem dX1_practiseWeek_26 : decode cX1_practiseWeek 26 = .ok (.iload_n 1, 1) := by decide +kernel
theorem dX1_practiseWeek_27 : decode cX1_practiseWeek 27 = .ok (.imul, 1) := by decide +kernel
theorem dX1_practiseWeek_28 : decode cX1_practiseWeek 28 = .ok (.iconst 4, 1) := by decide +kernel
theorem dX1_practiseWeek_29 : decode cX1_practiseWeek 29 = .ok (.iadd, 1) := by decide +kernel
theorem dX1_practiseWeek_30 : decode cX1_practiseWeek 30 = .ok (.if_icmp .ge 37, 3) := by decide +kernel
theorem dX1_practiseWeek_33 : decode cX1_practiseWeek 33 = .ok (.aload_n 0, 1) := by decide +kernel
theorem dX1_practiseWeek_34 : decode cX1_practiseWeek 34 = .ok (.getfield 15, 3) := by decide +kernel
theorem dX1_practiseWeek_37 : decode cX1_practiseWeek 37 = .ok (.iload 4, 2) := by decide +kernel
theorem dX1_practiseWeek_39 : decode cX1_practiseWeek 39 = .ok (.aload_n 2, 1) := by decide +kernel
theorem dX1_practiseWeek_40 : decode cX1_practiseWeek 40 = .ok (.aload_n 0, 1) := by decide +kernel
theorem dX1_practiseWeek_41 : decode cX1_practiseWeek 41 = .ok (.getfield 15, 3) := by decide +kernel
theorem dX1_practiseWeek_44 : decode cX1_practiseWeek 44 = .ok (.iload 4, 2) := by decide +kernel
theorem dX1_practiseWeek_46 : decode cX1_practiseWeek 46 = .ok (.iaload, 1) := by decide +kernel
theorem dX1_practiseWeek_47 : decode cX1_practiseWeek 47 = .ok (.invokevirtual 96, 3) := by decide +kernel
theorem dX1_practiseWeek_50 : decode cX1_practiseWeek 50 = .ok (.iastore, 1) := by decide +kernel
theorem dX1_practiseWeek_51 : decode cX1_practiseWeek 51 = .ok (.iload_n 3, 1) := by decide +kernel
theorem dX1_practiseWeek_52 : decode cX1_practiseWeek 52 = .ok (.aload_n 0, 1) := by decide +kernel
theorem dX1_practiseWeek_53 : decode cX1_practiseWeek 53 = .ok (.getfield 15, 3) := by decide +kernel
theorem dX1_practiseWeek_56 : decode cX1_practiseWeek 56 = .ok (.iload 4, 2) := by decide +kernel
theorem dX1_practiseWeek_58 : decode cX1_practiseWeek 58 = .ok (.iaload, 1) := by decide +kernel
theorem dX1_practiseWeek_59 : decode cX1_practiseWeek 59 = .ok (.iadd, 1) := by decide +kernel
theorem dX1_practiseWeek_60 : decode cX1_practiseWeek 60 = .ok (.istore_n 3, 1) := by decide +kernel
theorem dX1_practiseWeek_61 : decode cX1_practiseWeek 61 = .ok (.iinc 4 1, 3) := by decide +kernel
theorem dX1_practiseWeek_64 : decode cX1_practiseWeek 64 = .ok (.goto (-41), 3) := by decide +kernel
theorem dX1_practiseWeek_67 : decode cX1_practiseWeek 67 = .ok (.aload_n 0, 1) := by decide +kernel
theorem dX1_practiseWeek_68 : decode cX1_practiseWeek 68 = .ok (.dup, 1) := by decide +kernel
theorem dX1_practiseWeek_69 : decode cX1_practiseWeek 69 = .ok (.getfield 59, 3) := by decide +kernel
theorem dX1_practiseWeek_72 : decode cX1_practiseWeek 72 = .ok (.iconst 1, 1) := by decide +kernel
theorem dX1_practiseWeek_73 : decode cX1_practiseWeek 73 = .ok (.iadd, 1) := by decide +kernel
theorem dX1_practiseWeek_74 : decode cX1_practiseWeek 74 = .ok (.putfield 59, 3) := by decide +kernel
theorem dX1_practiseWeek_77 : decode cX1_practiseWeek 77 = .ok (.iload_n 3, 1) := by decide +kernel
theorem dX1_practiseWeek_78 : decode cX1_practiseWeek 78 = .ok (.ireturn, 1) := by decide +kernel
set_option maxRecDepth 20000 in
theorem ggX1_bad_X1_hasSinger : GoodIn wsX1_bad wsX1_hasSinger := goodIn_r _ [15, 16, 54, 55, 56, 57, 58, 59, 60, 61, 62, 63] (by decide +kernel) (by decide +kernel)
set_option maxRecDepth 20000 in
theorem gX1_bad_X1_hasSinger : GoodIn wsX1_bad (wsV RX1 70 RX1 yX1_hasSinger wsX1_hasSinger) := goodIn_app (goodIn_of _ (by decide +kernel)) ggX1_bad_X1_hasSinger
set_option maxRecDepth 20000 in
theorem ggX1_bad_X1_isFault : GoodIn wsX1_bad wsX1_isFault := goodIn_r _ [19] (by decide +kernel) (by decide +kernel)
set_option maxRecDepth 20000 in
theorem gX1_bad_X1_isFault : GoodIn wsX1_bad (va_wsS RX1 87 yX1_isFault wsX1_isFault) := goodIn_app (goodIn_of _ (by decide +kernel)) ggX1_bad_X1_isFault
set_option maxRecDepth 20000 in
theorem ggX1_bad_X8_ofKind : GoodIn wsX1_bad wsX8_ofKind := goodIn_r _ [24, 25, 26, 27, 28, 29, 64, 65, 66, 67, 68] (by decide +kernel) (by decide +kernel)
set_option maxRecDepth 20000 in
theorem gX1_bad_X8_ofKind : GoodIn wsX1_bad (wsV RX1 81 RX8 yX8_ofKind wsX8_ofKind) := goodIn_app (goodIn_of _ (by decide +kernel)) ggX1_bad_X8_ofKind
set_option maxRecDepth 20000 in
theorem ggX1_bad_X0_plainBad : GoodIn wsX1_bad wsX0_plainBad := goodIn_r _ [36] (by decide +kernel) (by decide +kernel)
set_option maxRecDepth 20000 in
theorem gX1_bad_X0_plainBad_u101X0 : GoodIn wsX1_bad (va_wsO RX1 101 RX0 "WorstVoice$Singer" ⟨"WorstVoice$Singer", "plainBad", "(II)I"⟩ yX0_plainBad wsX0_plainBad) := goodIn_app (goodIn_of _ (by decide +kernel)) ggX1_bad_X0_plainBad
set_option maxRecDepth 20000 in
theorem ggX1_bad_X2_plainBad : GoodIn wsX1_bad wsX2_plainBad := goodIn_r _ [41] (by decide +kernel) (by decide +kernel)
set_option maxRecDepth 20000 in
theorem gX1_bad_X2_plainBad_u101X2 : GoodIn wsX1_bad (va_wsO RX1 101 RX2 "WorstVoice$Singer" ⟨"WorstVoice$Singer", "plainBad", "(II)I"⟩ yX2_plainBad wsX2_plainBad) := goodIn_app (goodIn_of _ (by decide +kernel)) ggX1_bad_X2_plainBad
set_option maxRecDepth 20000 in
theorem ggX1_bad_X3_plainBad : GoodIn wsX1_bad wsX3_plainBad := goodIn_r _ [45] (by decide +kernel) (by decide +kernel)
set_option maxRecDepth 20000 in
theorem gX1_bad_X3_plainBad_u101X3 : GoodIn wsX1_bad (va_wsO RX1 101 RX3 "WorstVoice$Singer" ⟨"WorstVoice$Singer", "plainBad", "(II)I"⟩ yX3_plainBad wsX3_plainBad) := goodIn_app (goodIn_of _ (by decide +kernel)) ggX1_bad_X3_plainBad
set_option maxRecDepth 20000 in
theorem ggX1_bad_X6_plainBad : GoodIn wsX1_bad wsX6_plainBad := goodIn_r _ [37] (by decide +kernel) (by decide +kernel)
set_option maxRecDepth 20000 in
theorem gX1_bad_X6_plainBad : GoodIn wsX1_bad (wsV RX1 101 RX6 yX6_plainBad wsX6_plainBad) := goodIn_app (goodIn_of _ (by decide +kernel)) ggX1_bad_X6_plainBad
set_option maxRecDepth 20000 in
theorem ggX1_bad_X7_plainBad : GoodIn wsX1_bad wsX7_plainBad := goodIn_r _ [53] (by decide +kernel) (by decide +kernel)
set_option maxRecDepth 20000 in
theorem gX1_bad_X7_plainBad_u101X7 : GoodIn wsX1_bad (va_wsO RX1 101 RX7 "WorstVoice$Singer" ⟨"WorstVoice$Singer", "plainBad", "(II)I"⟩ yX7_plainBad wsX7_plainBad) := goodIn_app (goodIn_of _ (by decide +kernel)) ggX1_bad_X7_plainBad
theorem dX1_bad_0 : decode cX1_bad 0 = .ok (.aload_n 0, 1) := by decide +kernel
theorem dX1_bad_1 : decode cX1_bad 1 = .ok (.iload_n 1, 1) := by decide +kernel
theorem dX1_bad_2 : decode cX1_bad 2 = .ok (.invokevirtual 70, 3) := by decide +kernel
theorem dX1_bad_5 : decode cX1_bad 5 = .ok (.ifCond .eq 10, 3) := by decide +kernel
theorem dX1_bad_8 : decode cX1_bad 8 = .ok (.iload_n 2, 1) := by decide +kernel
theorem dX1_bad_9 : decode cX1_bad 9 = .ok (.invokestatic 87, 3) := by decide +kernel
theorem dX1_bad_12 : decode cX1_bad 12 = .ok (.ifCond .ne 5, 3) := by decide +kernel
theorem dX1_bad_15 : decode cX1_bad 15 = .ok (.iconst 0, 1) := by decide +kernel
theorem dX1_bad_16 : decode cX1_bad 16 = .ok (.ireturn, 1) := by decide +kernel
theorem dX1_bad_17 : decode cX1_bad 17 = .ok (.aload_n 0, 1) := by decide +kernel
theorem dX1_bad_18 : decode cX1_bad 18 = .ok (.getfield 30, 3) := by decide +kernel
theorem dX1_bad_21 : decode cX1_bad 21 = .ok (.aload_n 0, 1) := by decide +kernel
theorem dX1_bad_22 : decode cX1_bad 22 = .ok (.getfield 9, 3) := by decide +kernel
theorem dX1_bad_25 : decode cX1_bad 25 = .ok (.iload_n 1, 1) := by decide +kernel
theorem dX1_bad_26 : decode cX1_bad 26 = .ok (.iaload, 1) := by decide +kernel
theorem dX1_bad_27 : decode cX1_bad 27 = .ok (.invokevirtual 81, 3) := by decide +kernel
theorem dX1_bad_30 : decode cX1_bad 30 = .ok (.iload_n 2, 1) := by decide +kernel
theorem dX1_bad_31 : decode cX1_bad 31 = .ok (.aload_n 0, 1) := by decide +kernel
theorem dX1_bad_32 : decode cX1_bad 32 = .ok (.getfield 15, 3) := by decide +kernel
theorem dX1_bad_35 : decode cX1_bad 35 = .ok (.iconst 4, 1) := by decide +kernel
theorem dX1_bad_36 : decode cX1_bad 36 = .ok (.iload_n 1, 1) := by decide +kernel
theorem dX1_bad_37 : decode cX1_bad 37 = .ok (.imul, 1) := by decide +kernel
theorem dX1_bad_38 : decode cX1_bad 38 = .ok (.iload_n 2, 1) := by decide +kernel
theorem dX1_bad_39 : decode cX1_bad 39 = .ok (.iadd, 1) := by decide +kernel
theorem dX1_bad_40 : decode cX1_bad 40 = .ok (.iaload, 1) := by decide +kernel
theorem dX1_bad_41 : decode cX1_bad 41 = .ok (.invokevirtual 101, 3) := by decide +kernel
theorem dX1_bad_44 : decode cX1_bad 44 = .ok (.istore_n 3, 1) := by decide +kernel
theorem dX1_bad_45 : decode cX1_bad 45 = .ok (.iload_n 2, 1) := by decide +kernel
theorem dX1_bad_46 : decode cX1_bad 46 = .ok (.ifCond .eq 8, 3) := by decide +kernel
theorem dX1_bad_49 : decode cX1_bad 49 = .ok (.iload_n 2, 1) := by decide +kernel
theorem dX1_bad_50 : decode cX1_bad 50 = .ok (.iconst 1, 1) := by decide +kernel
theorem dX1_bad_51 : decode cX1_bad 51 = .ok (.if_icmp .ne 14, 3) := by decide +kernel
theorem dX1_bad_54 : decode cX1_bad 54 = .ok (.iload_n 3, 1) := by decide +kernel
theorem dX1_bad_55 : decode cX1_bad 55 = .ok (.iconst 3, 1) := by decide +kernel
theorem dX1_bad_56 : decode cX1_bad 56 = .ok (.aload_n 0, 1) := by decide +kernel
theorem dX1_bad_57 : decode cX1_bad 57 = .ok (.getfield 18, 3) := by decide +kernel
theorem dX1_bad_60 : decode cX1_bad 60 = .ok (.iload_n 1, 1) := by decide +kernel
theorem dX1_bad_61 : decode cX1_bad 61 = .ok (.iaload, 1) := by decide +kernel
theorem dX1_bad_62 : decode cX1_bad 62 = .ok (.imul, 1) := by decide +kernel
theorem dX1_bad_63 : decode cX1_bad 63 = .ok (.iadd, 1) := by decide +kernel
theorem dX1_bad_64 : decode cX1_bad 64 = .ok (.istore_n 3, 1) := by decide +kernel
theorem dX1_bad_65 : decode cX1_bad 65 = .ok (.iconst 0, 1) := by decide +kernel
theorem dX1_bad_66 : decode cX1_bad 66 = .ok (.iload_n 3, 1) := by decide +kernel
theorem dX1_bad_67 : decode cX1_bad 67 = .ok (.iconst 1, 1) := by decide +kernel
theorem dX1_bad_68 : decode cX1_bad 68 = .ok (.aload_n 0, 1) := by decide +kernel
theorem dX1_bad_69 : decode cX1_bad 69 = .ok (.getfield 21, 3) := by decide +kernel
theorem dX1_bad_72 : decode cX1_bad 72 = .ok (.iload_n 1, 1) := by decide +kernel
theorem dX1_bad_73 : decode cX1_bad 73 = .ok (.iaload, 1) := by decide +kernel
theorem dX1_bad_74 : decode cX1_bad 74 = .ok (.imul, 1) := by decide +kernel
theorem dX1_bad_75 : decode cX1_bad 75 = .ok (.isub, 1) := by decide +kernel
theorem dX1_bad_76 : decode cX1_bad 76 = .ok (.aload_n 0, 1) := by decide +kernel
theorem dX1_bad_77 : decode cX1_bad 77 = .ok (.getfield 24, 3) := by decide +kernel
theorem dX1_bad_80 : decode cX1_bad 80 = .ok (.iload_n 1, 1) := by decide +kernel
theorem dX1_bad_81 : decode cX1_bad 81 = .ok (.iaload, 1) := by decide +kernel
theorem dX1_bad_82 : decode cX1_bad 82 = .ok (.isub, 1) := by decide +kernel
theorem dX1_bad_83 : decode cX1_bad 83 = .ok (.invokestatic 53, 3) := by decide +kernel
theorem dX1_bad_86 : decode cX1_bad 86 = .ok (.ireturn, 1) := by decide +kernel
set_option maxRecDepth 20000 in
theorem ggX1_favourite_X1_minds : GoodIn wsX1_favourite wsX1_minds := goodIn_r _ [6, 7, 8, 9, 10, 5, 11, 12, 68, 69, 70, 71, 72, 73, 74, 75, 76, 77] (by decide +kernel) (by decide +kernel)
set_option maxRecDepth 20000 in
theorem gX1_favourite_X1_minds : GoodIn wsX1_favourite (wsV RX1 104 RX1 yX1_minds wsX1_minds) := goodIn_app (goodIn_of _ (by decide +kernel)) ggX1_favourite_X1_minds
set_option maxRecDepth 20000 in
theorem ggX1_favourite_X1_bad : GoodIn wsX1_favourite wsX1_bad := goodIn_r _ [16, 17, 18, 19, 20, 21, 22, 23, 24, 25, 26, 27, 28, 29, 5, 30, 1, 31, 32, 33, 34, 35, 36, 37, 38, 39, 40, 41, 42, 43, 44, 45, 46, 47, 48, 49, 50, 51, 52, 53, 54, 55, 56, 57, 58, 59, 60, 61, 62, 63, 64, 65, 66, 67, 68, 69, 70, 71, 72, 73, 74, 75, 76, 77, 78, 79, 80, 81, 82] (by decide +kernel) (by decide +kernel)
set_option maxRecDepth 20000 in
theorem gX1_favourite_X1_bad : GoodIn wsX1_favourite (wsV RX1 107 RX1 yX1_bad wsX1_bad) := goodIn_app (goodIn_of _ (by decide +kernel)) ggX1_favourite_X1_bad
theorem dX1_favourite_0 : decode cX1_favourite 0 = .ok (.aload_n 0, 1) := by decide +kernel
theorem dX1_favourite_1 : decode cX1_favourite 1 = .ok (.iload_n 1, 1) := by decide +kernel
theorem dX1_favourite_2 : decode cX1_favourite 2 = .ok (.invokevirtual 104, 3) := by decide +kernel
theorem dX1_favourite_5 : decode cX1_favourite 5 = .ok (.istore_n 2, 1) := by decide +kernel
theorem dX1_favourite_6 : decode cX1_favourite 6 = .ok (.iconst 0, 1) := by decide +kernel
theorem dX1_favourite_7 : decode cX1_favourite 7 = .ok (.istore_n 3, 1) := by decide +kernel
theorem dX1_favourite_8 : decode cX1_favourite 8 = .ok (.iconst 1, 1) := by decide +kernel
theorem dX1_favourite_9 : decode cX1_favourite 9 = .ok (.istore 4, 2) := by decide +kernel
theorem dX1_favourite_11 : decode cX1_favourite 11 = .ok (.iload 4, 2) := by decide +kernel
theorem dX1_favourite_13 : decode cX1_favourite 13 = .ok (.aload_n 0, 1) := by decide +kernel
theorem dX1_favourite_14 : decode cX1_favourite 14 = .ok (.getfield 46, 3) := by decide +kernel
theorem dX1_favourite_17 : decode cX1_favourite 17 = .ok (.if_icmp .ge 28, 3) := by decide +kernel
theorem dX1_favourite_20 : decode cX1_favourite 20 = .ok (.aload_n 0, 1) := by decide +kernel
theorem dX1_favourite_21 : decode cX1_favourite 21 = .ok (.iload 4, 2) := by decide +kernel
theorem dX1_favourite_23 : decode cX1_favourite 23 = .ok (.iload_n 2, 1) := by decide +kernel
theorem dX1_favourite_24 : decode cX1_favourite 24 = .ok (.invokevirtual 107, 3) := by decide +kernel
theorem dX1_favourite_27 : decode cX1_favourite 27 = .ok (.aload_n 0, 1) := by decide +kernel
theorem dX1_favourite_28 : decode cX1_favourite 28 = .ok (.iload_n 3, 1) := by decide +kernel
theorem dX1_favourite_29 : decode cX1_favourite 29 = .ok (.iload_n 2, 1) := by decide +kernel
theorem dX1_favourite_30 : decode cX1_favourite 30 = .ok (.invokevirtual 107, 3) := by decide +kernel
theorem dX1_favourite_33 : decode cX1_favourite 33 = .ok (.if_icmp .le 6, 3) := by decide +kernel
theorem dX1_favourite_36 : decode cX1_favourite 36 = .ok (.iload 4, 2) := by decide +kernel
theorem dX1_favourite_38 : decode cX1_favourite 38 = .ok (.istore_n 3, 1) := by decide +kernel
theorem dX1_favourite_39 : decode cX1_favourite 39 = .ok (.iinc 4 1, 3) := by decide +kernel
theorem dX1_favourite_42 : decode cX1_favourite 42 = .ok (.goto (-31), 3) := by decide +kernel
theorem dX1_favourite_45 : decode cX1_favourite 45 = .ok (.iload_n 3, 1) := by decide +kernel
theorem dX1_favourite_46 : decode cX1_favourite 46 = .ok (.ireturn, 1) := by decide +kernel
set_option maxRecDepth 20000 in
theorem ggX1_votes_X1_favourite : GoodIn wsX1_votes wsX1_favourite := goodIn_r _ [6, 7, 8, 9, 10, 5, 11, 12, 13, 14, 15, 16, 1, 17, 18, 19, 20, 21, 22, 23, 24, 25, 26, 27, 28, 29, 30, 31, 32, 33, 34, 35, 36, 37, 38, 39, 40, 41, 42, 43, 44, 45, 46, 47, 48, 49, 50, 51, 52, 53, 54, 55, 56, 57, 58, 59, 60, 61, 62, 63, 64, 65, 66, 67, 68, 69, 70, 71, 72, 73, 74, 75, 76, 77, 78, 79, 80, 81, 82, 83, 84, 85, 86] (by decide +kernel) (by decide +kernel)
set_option maxRecDepth 20000 in
theorem gX1_votes_X1_favourite : GoodIn wsX1_votes (wsV RX1 110 RX1 yX1_favourite wsX1_favourite) := goodIn_app (goodIn_of _ (by decide +kernel)) ggX1_votes_X1_favourite
theorem dX1_votes_0 : decode cX1_votes 0 = .ok (.iconst 0, 1) := by decide +kernel
theorem dX1_votes_1 : decode cX1_votes 1 = .ok (.istore_n 2, 1) := by decide +kernel
theorem dX1_votes_2 : decode cX1_votes 2 = .ok (.iconst 0, 1) := by decide +kernel
theorem dX1_votes_3 : decode cX1_votes 3 = .ok (.istore_n 3, 1) := by decide +kernel
theorem dX1_votes_4 : decode cX1_votes 4 = .ok (.iload_n 3, 1) := by decide +kernel
theorem dX1_votes_5 : decode cX1_votes 5 = .ok (.aload_n 0, 1) := by decide +kernel
theorem dX1_votes_6 : decode cX1_votes 6 = .ok (.getfield 56, 3) := by decide +kernel
theorem dX1_votes_9 : decode cX1_votes 9 = .ok (.if_icmp .ge 26, 3) := by decide +kernel
theorem dX1_votes_12 : decode cX1_votes 12 = .ok (.iload_n 2, 1) := by decide +kernel
theorem dX1_votes_13 : decode cX1_votes 13 = .ok (.aload_n 0, 1) := by decide +kernel
theorem dX1_votes_14 : decode cX1_votes 14 = .ok (.iload_n 3, 1) := by decide +kernel
theorem dX1_votes_15 : decode cX1_votes 15 = .ok (.invokevirtual 110, 3) := by decide +kernel
theorem dX1_votes_18 : decode cX1_votes 18 = .ok (.iload_n 1, 1) := by decide +kernel
theorem dX1_votes_19 : decode cX1_votes 19 = .ok (.if_icmp .ne 7, 3) := by decide +kernel
theorem dX1_votes_22 : decode cX1_votes 22 = .ok (.iconst 1, 1) := by decide +kernel
theorem dX1_votes_23 : decode cX1_votes 23 = .ok (.goto 4, 3) := by decide +kernel
theorem dX1_votes_26 : decode cX1_votes 26 = .ok (.iconst 0, 1) := by decide +kernel
theorem dX1_votes_27 : decode cX1_votes 27 = .ok (.iadd, 1) := by decide +kernel
theorem dX1_votes_28 : decode cX1_votes 28 = .ok (.istore_n 2, 1) := by decide +kernel
theorem dX1_votes_29 : decode cX1_votes 29 = .ok (.iinc 3 1, 3) := by decide +kernel
theorem dX1_votes_32 : decode cX1_votes 32 = .ok (.goto (-28), 3) := by decide +kernel
theorem dX1_votes_35 : decode cX1_votes 35 = .ok (.iload_n 2, 1) := by decide +kernel
theorem dX1_votes_36 : decode cX1_votes 36 = .ok (.ireturn, 1) := by decide +kernel
set_option maxRecDepth 20000 in
theorem ggX1_elected_X1_votes : GoodIn wsX1_elected wsX1_votes := goodIn_r _ [6, 7, 8, 9, 10, 5, 11, 1, 12, 13, 14, 15, 16, 17, 18, 19, 20, 21, 22, 23, 24, 25, 26, 27, 28, 29, 30, 31, 32, 33, 34, 35, 36, 37, 38, 39, 40, 41, 42, 43, 44, 45, 46, 47, 48, 49, 50, 51, 52, 53, 54, 55, 56, 57, 58, 59, 60, 61, 62, 63, 64, 65, 66, 67, 68, 69, 70, 71, 72, 73, 74, 75, 76, 77, 78, 79, 80, 81, 82, 83, 84, 85, 86, 87, 88, 89, 90] (by decide +kernel) (by decide +kernel)
set_option maxRecDepth 20000 in
theorem gX1_elected_X1_votes : GoodIn wsX1_elected (wsV RX1 113 RX1 yX1_votes wsX1_votes) := goodIn_app (goodIn_of _ (by decide +kernel)) ggX1_elected_X1_votes
theorem dX1_elected_0 : decode cX1_elected 0 = .ok (.iconst 0, 1) := by decide +kernel
theorem dX1_elected_1 : decode cX1_elected 1 = .ok (.istore_n 1, 1) := by decide +kernel
theorem dX1_elected_2 : decode cX1_elected 2 = .ok (.iconst 1, 1) := by decide +kernel
theorem dX1_elected_3 : decode cX1_elected 3 = .ok (.istore_n 2, 1) := by decide +kernel
theorem dX1_elected_4 : decode cX1_elected 4 = .ok (.iload_n 2, 1) := by decide +kernel
theorem dX1_elected_5 : decode cX1_elected 5 = .ok (.aload_n 0, 1) := by decide +kernel
theorem dX1_elected_6 : decode cX1_elected 6 = .ok (.getfield 46, 3) := by decide +kernel
theorem dX1_elected_9 : decode cX1_elected 9 = .ok (.if_icmp .ge 24, 3) := by decide +kernel
theorem dX1_elected_12 : decode cX1_elected 12 = .ok (.aload_n 0, 1) := by decide +kernel
theorem dX1_elected_13 : decode cX1_elected 13 = .ok (.iload_n 2, 1) := by decide +kernel
theorem dX1_elected_14 : decode cX1_elected 14 = .ok (.invokevirtual 113, 3) := by decide +kernel
theorem dX1_elected_17 : decode cX1_elected 17 = .ok (.aload_n 0, 1) := by decide +kernel
theorem dX1_elected_18 : decode cX1_elected 18 = .ok (.iload_n 1, 1) := by decide +kernel
theorem dX1_elected_19 : decode cX1_elected 19 = .ok (.invokevirtual 113, 3) := by decide +kernel
theorem dX1_elected_22 : decode cX1_elected 22 = .ok (.if_icmp .le 5, 3) := by decide +kernel
theorem dX1_elected_25 : decode cX1_elected 25 = .ok (.iload_n 2, 1) := by decide +kernel
theorem dX1_elected_26 : decode cX1_elected 26 = .ok (.istore_n 1, 1) := by decide +kernel
theorem dX1_elected_27 : decode cX1_elected 27 = .ok (.iinc 2 1, 3) := by decide +kernel
theorem dX1_elected_30 : decode cX1_elected 30 = .ok (.goto (-26), 3) := by decide +kernel
theorem dX1_elected_33 : decode cX1_elected 33 = .ok (.iload_n 1, 1) := by decide +kernel
theorem dX1_elected_34 : decode cX1_elected 34 = .ok (.ireturn, 1) := by decide +kernel
set_option maxRecDepth 20000 in
theorem ggX1_coldsOfAll_X1_coldOf : GoodIn wsX1_coldsOfAll wsX1_coldOf := goodIn_r _ [6, 7, 8, 9, 10, 5, 11, 1, 12, 13, 14, 15, 16, 17, 18, 19, 20, 21] (by decide +kernel) (by decide +kernel)
set_option maxRecDepth 20000 in
theorem gX1_coldsOfAll_X1_coldOf : GoodIn wsX1_coldsOfAll (wsV RX1 116 RX1 yX1_coldOf wsX1_coldOf) := goodIn_app (goodIn_of _ (by decide +kernel)) ggX1_coldsOfAll_X1_coldOf
theorem dX1_coldsOfAll_0 : decode cX1_coldsOfAll 0 = .ok (.iconst 0, 1) := by decide +kernel
theorem dX1_coldsOfAll_1 : decode cX1_coldsOfAll 1 = .ok (.istore_n 1, 1) := by decide +kernel
theorem dX1_coldsOfAll_2 : decode cX1_coldsOfAll 2 = .ok (.iconst 0, 1) := by decide +kernel
theorem dX1_coldsOfAll_3 : decode cX1_coldsOfAll 3 = .ok (.istore_n 2, 1) := by decide +kernel
theorem dX1_coldsOfAll_4 : decode cX1_coldsOfAll 4 = .ok (.iload_n 2, 1) := by decide +kernel
theorem dX1_coldsOfAll_5 : decode cX1_coldsOfAll 5 = .ok (.aload_n 0, 1) := by decide +kernel
theorem dX1_coldsOfAll_6 : decode cX1_coldsOfAll 6 = .ok (.getfield 46, 3) := by decide +kernel
theorem dX1_coldsOfAll_9 : decode cX1_coldsOfAll 9 = .ok (.if_icmp .ge 17, 3) := by decide +kernel
theorem dX1_coldsOfAll_12 : decode cX1_coldsOfAll 12 = .ok (.iload_n 1, 1) := by decide +kernel
theorem dX1_coldsOfAll_13 : decode cX1_coldsOfAll 13 = .ok (.aload_n 0, 1) := by decide +kernel
theorem dX1_coldsOfAll_14 : decode cX1_coldsOfAll 14 = .ok (.iload_n 2, 1) := by decide +kernel
theorem dX1_coldsOfAll_15 : decode cX1_coldsOfAll 15 = .ok (.invokevirtual 116, 3) := by decide +kernel
theorem dX1_coldsOfAll_18 : decode cX1_coldsOfAll 18 = .ok (.iadd, 1) := by decide +kernel
theorem dX1_coldsOfAll_19 : decode cX1_coldsOfAll 19 = .ok (.istore_n 1, 1) := by decide +kernel
theorem dX1_coldsOfAll_20 : decode cX1_coldsOfAll 20 = .ok (.iinc 2 1, 3) := by decide +kernel
theorem dX1_coldsOfAll_23 : decode cX1_coldsOfAll 23 = .ok (.goto (-19), 3) := by decide +kernel
theorem dX1_coldsOfAll_26 : decode cX1_coldsOfAll 26 = .ok (.iload_n 1, 1) := by decide +kernel
theorem dX1_coldsOfAll_27 : decode cX1_coldsOfAll 27 = .ok (.ireturn, 1) := by decide +kernel
set_option maxRecDepth 20000 in
theorem ggX1_honeyOfAll_X1_honeyOf : GoodIn wsX1_honeyOfAll wsX1_honeyOf := goodIn_r _ [6, 7, 8, 9, 10, 5, 11, 1, 12, 13, 14, 15, 16, 17, 18, 19, 20, 21] (by decide +kernel) (by decide +kernel)
set_option maxRecDepth 20000 in
theorem gX1_honeyOfAll_X1_honeyOf : GoodIn wsX1_honeyOfAll (wsV RX1 119 RX1 yX1_honeyOf wsX1_honeyOf) := goodIn_app (goodIn_of _ (by decide +kernel)) ggX1_honeyOfAll_X1_honeyOf
theorem dX1_honeyOfAll_0 : decode cX1_honeyOfAll 0 = .ok (.iconst 0, 1) := by decide +kernel
theorem dX1_honeyOfAll_1 : decode cX1_honeyOfAll 1 = .ok (.istore_n 1, 1) := by decide +kernel
theorem dX1_honeyOfAll_2 : decode cX1_honeyOfAll 2 = .ok (.iconst 0, 1) := by decide +kernel
theorem dX1_honeyOfAll_3 : decode cX1_honeyOfAll 3 = .ok (.istore_n 2, 1) := by decide +kernel
theorem dX1_honeyOfAll_4 : decode cX1_honeyOfAll 4 = .ok (.iload_n 2, 1) := by decide +kernel
theorem dX1_honeyOfAll_5 : decode cX1_honeyOfAll 5 = .ok (.aload_n 0, 1) := by decide +kernel
theorem dX1_honeyOfAll_6 : decode cX1_honeyOfAll 6 = .ok (.getfield 46, 3) := by decide +kernel
theorem dX1_honeyOfAll_9 : decode cX1_honeyOfAll 9 = .ok (.if_icmp .ge 17, 3) := by decide +kernel
theorem dX1_honeyOfAll_12 : decode cX1_honeyOfAll 12 = .ok (.iload_n 1, 1) := by decide +kernel
theorem dX1_honeyOfAll_13 : decode cX1_honeyOfAll 13 = .ok (.aload_n 0, 1) := by decide +kernel
theorem dX1_honeyOfAll_14 : decode cX1_honeyOfAll 14 = .ok (.iload_n 2, 1) := by decide +kernel
theorem dX1_honeyOfAll_15 : decode cX1_honeyOfAll 15 = .ok (.invokevirtual 119, 3) := by decide +kernel
theorem dX1_honeyOfAll_18 : decode cX1_honeyOfAll 18 = .ok (.iadd, 1) := by decide +kernel
theorem dX1_honeyOfAll_19 : decode cX1_honeyOfAll 19 = .ok (.istore_n 1, 1) := by decide +kernel
theorem dX1_honeyOfAll_20 : decode cX1_honeyOfAll 20 = .ok (.iinc 2 1, 3) := by decide +kernel
theorem dX1_honeyOfAll_23 : decode cX1_honeyOfAll 23 = .ok (.goto (-19), 3) := by decide +kernel
theorem dX1_honeyOfAll_26 : decode cX1_honeyOfAll 26 = .ok (.iload_n 1, 1) := by decide +kernel
theorem dX1_honeyOfAll_27 : decode cX1_honeyOfAll 27 = .ok (.ireturn, 1) := by decide +kernel
theorem dX1_isFault_0 : decode cX1_isFault 0 = .ok (.iload_n 0, 1) := by decide +kernel
theorem dX1_isFault_1 : decode cX1_isFault 1 = .ok (.ifCond .lt 12, 3) := by decide +kernel
theorem dX1_isFault_4 : decode cX1_isFault 4 = .ok (.iload_n 0, 1) := by decide +kernel
theorem dX1_isFault_5 : decode cX1_isFault 5 = .ok (.iconst 4, 1) := by decide +kernel
theorem dX1_isFault_6 : decode cX1_isFault 6 = .ok (.if_icmp .ge 7, 3) := by decide +kernel
theorem dX1_isFault_9 : decode cX1_isFault 9 = .ok (.iconst 1, 1) := by decide +kernel
theorem dX1_isFault_10 : decode cX1_isFault 10 = .ok (.goto 4, 3) := by decide +kernel
theorem dX1_isFault_13 : decode cX1_isFault 13 = .ok (.iconst 0, 1) := by decide +kernel
theorem dX1_isFault_14 : decode cX1_isFault 14 = .ok (.ireturn, 1) := by decide +kernel
set_option maxRecDepth 20000 in
theorem ggX2_init_X7_init : GoodIn wsX2_init wsX7_init := goodIn_r _ [3, 4, 5, 6, 7, 8, 9] (by decide +kernel) (by decide +kernel)
set_option maxRecDepth 20000 in
theorem gX2_init_X7_init_n3 : GoodIn wsX2_init (wsX7_init) := ggX2_init_X7_init
theorem dX2_init_0 : decode cX2_init 0 = .ok (.aload_n 0, 1) := by decide +kernel
theorem dX2_init_1 : decode cX2_init 1 = .ok (.invokespecial 3, 3) := by decide +kernel
theorem dX2_init_4 : decode cX2_init 4 = .ok (.return_, 1) := by decide +kernel
theorem dX2_number_0 : decode cX2_number 0 = .ok (.iconst 4, 1) := by decide +kernel
theorem dX2_number_1 : decode cX2_number 1 = .ok (.ireturn, 1) := by decide +kernel
theorem dX2_plainBad_0 : decode cX2_plainBad 0 = .ok (.iload_n 1, 1) := by decide +kernel
theorem dX2_plainBad_1 : decode cX2_plainBad 1 = .ok (.ifCond .eq 8, 3) := by decide +kernel
theorem dX2_plainBad_4 : decode cX2_plainBad 4 = .ok (.iload_n 1, 1) := by decide +kernel
theorem dX2_plainBad_5 : decode cX2_plainBad 5 = .ok (.iconst 1, 1) := by decide +kernel
theorem dX2_plainBad_6 : decode cX2_plainBad 6 = .ok (.if_icmp .ne 9, 3) := by decide +kernel
theorem dX2_plainBad_9 : decode cX2_plainBad 9 = .ok (.iload_n 2, 1) := by decide +kernel
theorem dX2_plainBad_10 : decode cX2_plainBad 10 = .ok (.iconst 2, 1) := by decide +kernel
theorem dX2_plainBad_11 : decode cX2_plainBad 11 = .ok (.idiv, 1) := by decide +kernel
theorem dX2_plainBad_12 : decode cX2_plainBad 12 = .ok (.goto 4, 3) := by decide +kernel
theorem dX2_plainBad_15 : decode cX2_plainBad 15 = .ok (.iload_n 2, 1) := by decide +kernel
theorem dX2_plainBad_16 : decode cX2_plainBad 16 = .ok (.ireturn, 1) := by decide +kernel
set_option maxRecDepth 20000 in
theorem ggX3_init_X6_init : GoodIn wsX3_init wsX6_init := goodIn_r _ [3, 4, 5, 6] (by decide +kernel) (by decide +kernel)
set_option maxRecDepth 20000 in
theorem gX3_init_X6_init_n3 : GoodIn wsX3_init (wsX6_init) := ggX3_init_X6_init
theorem dX3_init_0 : decode cX3_init 0 = .ok (.aload_n 0, 1) := by decide +kernel
theorem dX3_init_1 : decode cX3_init 1 = .ok (.invokespecial 3, 3) := by decide +kernel
theorem dX3_init_4 : decode cX3_init 4 = .ok (.return_, 1) := by decide +kernel
theorem dX3_number_0 : decode cX3_number 0 = .ok (.iconst 3, 1) := by decide +kernel
theorem dX3_number_1 : decode cX3_number 1 = .ok (.ireturn, 1) := by decide +kernel
theorem dX3_plainBad_0 : decode cX3_plainBad 0 = .ok (.iload_n 1, 1) := by decide +kernel
theorem dX3_plainBad_1 : decode cX3_plainBad 1 = .ok (.ifCond .ne 8, 3) := by decide +kernel
theorem dX3_plainBad_4 : decode cX3_plainBad 4 = .ok (.bipush 9, 2) := by decide +kernel
theorem dX3_plainBad_6 : decode cX3_plainBad 6 = .ok (.goto 4, 3) := by decide +kernel
theorem dX3_plainBad_9 : decode cX3_plainBad 9 = .ok (.iload_n 2, 1) := by decide +kernel
theorem dX3_plainBad_10 : decode cX3_plainBad 10 = .ok (.ireturn, 1) := by decide +kernel
theorem dX4_init_0 : decode cX4_init 0 = .ok (.aload_n 0, 1) := by decide +kernel
theorem dX4_init_1 : decode cX4_init 1 = .ok (.invokespecial 3, 3) := by decide +kernel
theorem dX4_init_4 : decode cX4_init 4 = .ok (.aload_n 0, 1) := by decide +kernel
theorem dX4_init_5 : decode cX4_init 5 = .ok (.bipush 8, 2) := by decide +kernel
theorem dX4_init_7 : decode cX4_init 7 = .ok (.newarray .int, 2) := by decide +kernel
theorem dX4_init_9 : decode cX4_init 9 = .ok (.putfield 9, 3) := by decide +kernel
theorem dX4_init_12 : decode cX4_init 12 = .ok (.aload_n 0, 1) := by decide +kernel
theorem dX4_init_13 : decode cX4_init 13 = .ok (.bipush 8, 2) := by decide +kernel
theorem dX4_init_15 : decode cX4_init 15 = .ok (.newarray .int, 2) := by decide +kernel
theorem dX4_init_17 : decode cX4_init 17 = .ok (.putfield 15, 3) := by decide +kernel
theorem dX4_init_20 : decode cX4_init 20 = .ok (.aload_n 0, 1) := by decide +kernel
theorem dX4_init_21 : decode cX4_init 21 = .ok (.bipush 8, 2) := by decide +kernel
theorem dX4_init_23 : decode cX4_init 23 = .ok (.newarray .int, 2) := by decide +kernel
theorem dX4_init_25 : decode cX4_init 25 = .ok (.putfield 18, 3) := by decide +kernel
theorem dX4_init_28 : decode cX4_init 28 = .ok (.aload_n 0, 1) := by decide +kernel
theorem dX4_init_29 : decode cX4_init 29 = .ok (.bipush 8, 2) := by decide +kernel
theorem dX4_init_31 : decode cX4_init 31 = .ok (.newarray .int, 2) := by decide +kernel
theorem dX4_init_33 : decode cX4_init 33 = .ok (.putfield 21, 3) := by decide +kernel
theorem dX4_init_36 : decode cX4_init 36 = .ok (.return_, 1) := by decide +kernel
theorem dX4_add_0 : decode cX4_add 0 = .ok (.aload_n 0, 1) := by decide +kernel
theorem dX4_add_1 : decode cX4_add 1 = .ok (.getfield 24, 3) := by decide +kernel
theorem dX4_add_4 : decode cX4_add 4 = .ok (.ifCond .lt 12, 3) := by decide +kernel
theorem dX4_add_7 : decode cX4_add 7 = .ok (.aload_n 0, 1) := by decide +kernel
theorem dX4_add_8 : decode cX4_add 8 = .ok (.getfield 24, 3) := by decide +kernel
theorem dX4_add_11 : decode cX4_add 11 = .ok (.bipush 8, 2) := by decide +kernel
theorem dX4_add_13 : decode cX4_add 13 = .ok (.if_icmp .lt 5, 3) := by decide +kernel
theorem dX4_add_16 : decode cX4_add 16 = .ok (.iconst 0, 1) := by decide +kernel
theorem dX4_add_17 : decode cX4_add 17 = .ok (.ireturn, 1) := by decide +kernel
theorem dX4_add_18 : decode cX4_add 18 = .ok (.aload_n 0, 1) := by decide +kernel
theorem dX4_add_19 : decode cX4_add 19 = .ok (.getfield 9, 3) := by decide +kernel
theorem dX4_add_22 : decode cX4_add 22 = .ok (.aload_n 0, 1) := by decide +kernel
theorem dX4_add_23 : decode cX4_add 23 = .ok (.getfield 24, 3) := by decide +kernel
theorem dX4_add_26 : decode cX4_add 26 = .ok (.iload_n 1, 1) := by decide +kernel
theorem dX4_add_27 : decode cX4_add 27 = .ok (.iastore, 1) := by decide +kernel
theorem dX4_add_28 : decode cX4_add 28 = .ok (.aload_n 0, 1) := by decide +kernel
theorem dX4_add_29 : decode cX4_add 29 = .ok (.getfield 15, 3) := by decide +kernel
theorem dX4_add_32 : decode cX4_add 32 = .ok (.aload_n 0, 1) := by decide +kernel
theorem dX4_add_33 : decode cX4_add 33 = .ok (.getfield 24, 3) := by decide +kernel
theorem dX4_add_36 : decode cX4_add 36 = .ok (.iload_n 2, 1) := by decide +kernel
theorem dX4_add_37 : decode cX4_add 37 = .ok (.iastore, 1) := by decide +kernel
theorem dX4_add_38 : decode cX4_add 38 = .ok (.aload_n 0, 1) := by decide +kernel
theorem dX4_add_39 : decode cX4_add 39 = .ok (.getfield 18, 3) := by decide +kernel
theorem dX4_add_42 : decode cX4_add 42 = .ok (.aload_n 0, 1) := by decide +kernel
theorem dX4_add_43 : decode cX4_add 43 = .ok (.getfield 24, 3) := by decide +kernel
theorem dX4_add_46 : decode cX4_add 46 = .ok (.iload_n 3, 1) := by decide +kernel
theorem dX4_add_47 : decode cX4_add 47 = .ok (.iastore, 1) := by decide +kernel
theorem dX4_add_48 : decode cX4_add 48 = .ok (.aload_n 0, 1) := by decide +kernel
theorem dX4_add_49 : decode cX4_add 49 = .ok (.getfield 21, 3) := by decide +kernel
theorem dX4_add_52 : decode cX4_add 52 = .ok (.aload_n 0, 1) := by decide +kernel
theorem dX4_add_53 : decode cX4_add 53 = .ok (.getfield 24, 3) := by decide +kernel
theorem dX4_add_56 : decode cX4_add 56 = .ok (.iload 4, 2) := by decide +kernel
theorem dX4_add_58 : decode cX4_add 58 = .ok (.ifCond .eq 7, 3) := by decide +kernel
theorem dX4_add_61 : decode cX4_add 61 = .ok (.iconst 1, 1) := by decide +kernel
theorem dX4_add_62 : decode cX4_add 62 = .ok (.goto 4, 3) := by decide +kernel
theorem dX4_add_65 : decode cX4_add 65 = .ok (.iconst 0, 1) := by decide +kernel
theorem dX4_add_66 : decode cX4_add 66 = .ok (.iastore, 1) := by decide +kernel
theorem dX4_add_67 : decode cX4_add 67 = .ok (.aload_n 0, 1) := by decide +kernel
theorem dX4_add_68 : decode cX4_add 68 = .ok (.dup, 1) := by decide +kernel
theorem dX4_add_69 : decode cX4_add 69 = .ok (.getfield 24, 3) := by decide +kernel
theorem dX4_add_72 : decode cX4_add 72 = .ok (.iconst 1, 1) := by decide +kernel
theorem dX4_add_73 : decode cX4_add 73 = .ok (.iadd, 1) := by decide +kernel
theorem dX4_add_74 : decode cX4_add 74 = .ok (.putfield 24, 3) := by decide +kernel
theorem dX4_add_77 : decode cX4_add 77 = .ok (.iconst 1, 1) := by decide +kernel
theorem dX4_add_78 : decode cX4_add 78 = .ok (.ireturn, 1) := by decide +kernel
theorem dX4_clear_0 : decode cX4_clear 0 = .ok (.aload_n 0, 1) := by decide +kernel
theorem dX4_clear_1 : decode cX4_clear 1 = .ok (.getfield 24, 3) := by decide +kernel
theorem dX4_clear_4 : decode cX4_clear 4 = .ok (.istore_n 1, 1) := by decide +kernel
theorem dX4_clear_5 : decode cX4_clear 5 = .ok (.aload_n 0, 1) := by decide +kernel
theorem dX4_clear_6 : decode cX4_clear 6 = .ok (.iconst 0, 1) := by decide +kernel
theorem dX4_clear_7 : decode cX4_clear 7 = .ok (.putfield 24, 3) := by decide +kernel
theorem dX4_clear_10 : decode cX4_clear 10 = .ok (.iload_n 1, 1) := by decide +kernel
theorem dX4_clear_11 : decode cX4_clear 11 = .ok (.ireturn, 1) := by decide +kernel
set_option maxRecDepth 20000 in
theorem ggX4_takeFrom_X9_copyRow : GoodIn wsX4_takeFrom wsX9_copyRow := goodIn_r _ [8, 9, 10, 11, 12, 13, 14, 15, 16] (by decide +kernel) (by decide +kernel)
set_option maxRecDepth 20000 in
theorem gX4_takeFrom_X9_copyRow_n28 : GoodIn wsX4_takeFrom (wsX9_copyRow) := ggX4_takeFrom_X9_copyRow
theorem dX4_takeFrom_0 : decode cX4_takeFrom 0 = .ok (.aload_n 1, 1) := by decide +kernel
theorem dX4_takeFrom_1 : decode cX4_takeFrom 1 = .ok (.getfield 9, 3) := by decide +kernel
theorem dX4_takeFrom_4 : decode cX4_takeFrom 4 = .ok (.aload_n 0, 1) := by decide +kernel
theorem dX4_takeFrom_5 : decode cX4_takeFrom 5 = .ok (.getfield 9, 3) := by decide +kernel
theorem dX4_takeFrom_8 : decode cX4_takeFrom 8 = .ok (.invokestatic 28, 3) := by decide +kernel
theorem dX4_takeFrom_11 : decode cX4_takeFrom 11 = .ok (.aload_n 1, 1) := by decide +kernel
theorem dX4_takeFrom_12 : decode cX4_takeFrom 12 = .ok (.getfield 15, 3) := by decide +kernel
theorem dX4_takeFrom_15 : decode cX4_takeFrom 15 = .ok (.aload_n 0, 1) := by decide +kernel
theorem dX4_takeFrom_16 : decode cX4_takeFrom 16 = .ok (.getfield 15, 3) := by decide +kernel
theorem dX4_takeFrom_19 : decode cX4_takeFrom 19 = .ok (.invokestatic 28, 3) := by decide +kernel
theorem dX4_takeFrom_22 : decode cX4_takeFrom 22 = .ok (.aload_n 1, 1) := by decide +kernel
theorem dX4_takeFrom_23 : decode cX4_takeFrom 23 = .ok (.getfield 18, 3) := by decide +kernel
theorem dX4_takeFrom_26 : decode cX4_takeFrom 26 = .ok (.aload_n 0, 1) := by decide +kernel
theorem dX4_takeFrom_27 : decode cX4_takeFrom 27 = .ok (.getfield 18, 3) := by decide +kernel
theorem dX4_takeFrom_30 : decode cX4_takeFrom 30 = .ok (.invokestatic 28, 3) := by decide +kernel
theorem dX4_takeFrom_33 : decode cX4_takeFrom 33 = .ok (.aload_n 1, 1) := by decide +kernel
theorem dX4_takeFrom_34 : decode cX4_takeFrom 34 = .ok (.getfield 21, 3) := by decide +kernel
theorem dX4_takeFrom_37 : decode cX4_takeFrom 37 = .ok (.aload_n 0, 1) := by decide +kernel
theorem dX4_takeFrom_38 : decode cX4_takeFrom 38 = .ok (.getfield 21, 3) := by decide +kernel
theorem dX4_takeFrom_41 : decode cX4_takeFrom 41 = .ok (.invokestatic 28, 3) := by decide +kernel
theorem dX4_takeFrom_44 : decode cX4_takeFrom 44 = .ok (.aload_n 0, 1) := by decide +kernel
theorem dX4_takeFrom_45 : decode cX4_takeFrom 45 = .ok (.aload_n 1, 1) := by decide +kernel
theorem dX4_takeFrom_46 : decode cX4_takeFrom 46 = .ok (.getfield 24, 3) := by decide +kernel
theorem dX4_takeFrom_49 : decode cX4_takeFrom 49 = .ok (.putfield 24, 3) := by decide +kernel
theorem dX4_takeFrom_52 : decode cX4_takeFrom 52 = .ok (.return_, 1) := by decide +kernel
set_option maxRecDepth 20000 in
theorem ggX4_wouldBeSo_X1_bad : GoodIn wsX4_wouldBeSo wsX1_bad := goodIn_r _ [10, 11, 12, 13, 14, 15, 16, 17, 18, 19, 20, 21, 22, 23, 9, 24, 25, 26, 27, 28, 29, 30, 31, 32, 33, 34, 35, 36, 37, 38, 39, 40, 41, 42, 43, 44, 45, 46, 47, 48, 49, 50, 51, 52, 53, 54, 55, 56, 57, 58, 59, 60, 61, 62, 68, 69, 70, 71, 72, 73, 74, 75, 76, 77, 78, 79, 80, 81, 82] (by decide +kernel) (by decide +kernel)
set_option maxRecDepth 20000 in
theorem gX4_wouldBeSo_X1_bad : GoodIn wsX4_wouldBeSo (wsV RX4 32 RX1 yX1_bad wsX1_bad) := goodIn_app (goodIn_of _ (by decide +kernel)) ggX4_wouldBeSo_X1_bad
theorem dX4_wouldBeSo_0 : decode cX4_wouldBeSo 0 = .ok (.iconst 0, 1) := by decide +kernel
theorem dX4_wouldBeSo_1 : decode cX4_wouldBeSo 1 = .ok (.istore 4, 2) := by decide +kernel
theorem dX4_wouldBeSo_3 : decode cX4_wouldBeSo 3 = .ok (.iload 4, 2) := by decide +kernel
theorem dX4_wouldBeSo_5 : decode cX4_wouldBeSo 5 = .ok (.aload_n 0, 1) := by decide +kernel
theorem dX4_wouldBeSo_6 : decode cX4_wouldBeSo 6 = .ok (.getfield 24, 3) := by decide +kernel
theorem dX4_wouldBeSo_9 : decode cX4_wouldBeSo 9 = .ok (.if_icmp .ge 75, 3) := by decide +kernel
theorem dX4_wouldBeSo_12 : decode cX4_wouldBeSo 12 = .ok (.iload 4, 2) := by decide +kernel
theorem dX4_wouldBeSo_14 : decode cX4_wouldBeSo 14 = .ok (.bipush 8, 2) := by decide +kernel
theorem dX4_wouldBeSo_16 : decode cX4_wouldBeSo 16 = .ok (.if_icmp .ge 68, 3) := by decide +kernel
theorem dX4_wouldBeSo_19 : decode cX4_wouldBeSo 19 = .ok (.aload_n 1, 1) := by decide +kernel
theorem dX4_wouldBeSo_20 : decode cX4_wouldBeSo 20 = .ok (.aload_n 0, 1) := by decide +kernel
theorem dX4_wouldBeSo_21 : decode cX4_wouldBeSo 21 = .ok (.getfield 15, 3) := by decide +kernel
theorem dX4_wouldBeSo_24 : decode cX4_wouldBeSo 24 = .ok (.iload 4, 2) := by decide +kernel
theorem dX4_wouldBeSo_26 : decode cX4_wouldBeSo 26 = .ok (.iaload, 1) := by decide +kernel
theorem dX4_wouldBeSo_27 : decode cX4_wouldBeSo 27 = .ok (.iload_n 3, 1) := by decide +kernel
theorem dX4_wouldBeSo_28 : decode cX4_wouldBeSo 28 = .ok (.invokevirtual 32, 3) := by decide +kernel
theorem dX4_wouldBeSo_31 : decode cX4_wouldBeSo 31 = .ok (.aload_n 1, 1) := by decide +kernel
theorem dX4_wouldBeSo_32 : decode cX4_wouldBeSo 32 = .ok (.aload_n 0, 1) := by decide +kernel
theorem dX4_wouldBeSo_33 : decode cX4_wouldBeSo 33 = .ok (.getfield 18, 3) := by decide +kernel
theorem dX4_wouldBeSo_36 : decode cX4_wouldBeSo 36 = .ok (.iload 4, 2) := by decide +kernel
theorem dX4_wouldBeSo_38 : decode cX4_wouldBeSo 38 = .ok (.iaload, 1) := by decide +kernel
