set_option maxRecDepth 20000 in
theorem ggX11_init_X8_init : GoodIn wsX11_init wsX8_init := goodIn_r _ [45, 46, 2, 3, 42, 47, 48, 49, 50, 105, 106, 107, 108, 109, 110, 111] (by decide +kernel) (by decide +kernel)
set_option maxRecDepth 20000 in
theorem gX11_init_X8_init_n11 : GoodIn wsX11_init (wsX8_init) := ggX11_init_X8_init
set_option maxRecDepth 20000 in
theorem ggX11_init_X9_init : GoodIn wsX11_init wsX9_init := goodIn_r _ [53, 54, 2, 3, 42, 55, 56, 57, 58, 59, 60, 123, 124] (by decide +kernel) (by decide +kernel)
set_option maxRecDepth 20000 in
theorem gX11_init_X9_init : GoodIn wsX11_init (wsX9_init) := ggX11_init_X9_init
set_option maxRecDepth 20000 in
theorem ggX11_init_X6_init : GoodIn wsX11_init wsX6_init := goodIn_r _ [63, 64, 2, 3, 42, 65, 66, 67, 68, 58, 59, 60, 125, 126, 127, 128] (by decide +kernel) (by decide +kernel)
set_option maxRecDepth 20000 in
theorem gX11_init_X6_init : GoodIn wsX11_init (wsX6_init) := ggX11_init_X6_init
set_option maxRecDepth 20000 in
theorem ggX11_init_X7_init : GoodIn wsX11_init wsX7_init := goodIn_r _ [70, 71, 2, 3, 42, 72, 129, 130] (by decide +kernel) (by decide +kernel)
set_option maxRecDepth 20000 in
theorem gX11_init_X7_init_n32 : GoodIn wsX11_init (wsX7_init) := ggX11_init_X7_init
set_option maxRecDepth 20000 in
theorem ggX11_init_X10_init : GoodIn wsX11_init wsX10_init := goodIn_r _ [74, 75, 2, 3, 76, 5, 6, 77, 78, 79, 80, 81, 44, 45, 46, 42, 47, 48, 49, 50, 82, 83, 84, 105, 106, 107, 108, 109, 110, 111, 131, 132, 133, 134, 135, 136, 137, 154, 155, 156] (by decide +kernel) (by decide +kernel)
set_option maxRecDepth 20000 in
theorem gX11_init_X10_init_n45 : GoodIn wsX11_init (wsX10_init) := ggX11_init_X10_init
set_option maxRecDepth 20000 in
theorem ggX11_init_X1_init : GoodIn wsX11_init wsX1_init := goodIn_r _ [86, 87, 2, 3, 42, 88, 89, 90, 138, 139, 140, 141, 142, 143, 144, 145] (by decide +kernel) (by decide +kernel)
set_option maxRecDepth 20000 in
theorem gX11_init_X1_init_n52 : GoodIn wsX11_init (wsX1_init) := ggX11_init_X1_init
set_option maxRecDepth 20000 in
theorem ggX11_init_X4_init : GoodIn wsX11_init wsX4_init := goodIn_r _ [92, 93, 2, 3, 42, 94, 95, 146, 147, 148, 149, 150] (by decide +kernel) (by decide +kernel)
set_option maxRecDepth 20000 in
theorem gX11_init_X4_init_n59 : GoodIn wsX11_init (wsX4_init) := ggX11_init_X4_init
set_option maxRecDepth 20000 in
theorem ggX11_init_X3_init : GoodIn wsX11_init wsX3_init := goodIn_r _ [97, 98, 2, 3, 99, 100, 151] (by decide +kernel) (by decide +kernel)
set_option maxRecDepth 20000 in
theorem gX11_init_X3_init_n66 : GoodIn wsX11_init (wsX3_init) := ggX11_init_X3_init
set_option maxRecDepth 20000 in
theorem ggX11_init_X2_init : GoodIn wsX11_init wsX2_init := goodIn_r _ [102, 103, 2, 3, 104, 152, 153] (by decide +kernel) (by decide +kernel)
set_option maxRecDepth 20000 in
theorem gX11_init_X2_init_n73 : GoodIn wsX11_init (wsX2_init) := ggX11_init_X2_init
theorem dX11_init_0 : decode cX11_init 0 = .ok (.aload_n 0, 1) := by decide +kernel
theorem dX11_init_1 : decode cX11_init 1 = .ok (.invokespecial 3, 3) := by decide +kernel
theorem dX11_init_4 : decode cX11_init 4 = .ok (.aload_n 0, 1) := by decide +kernel
theorem dX11_init_5 : decode cX11_init 5 = .ok (.new 9, 3) := by decide +kernel
theorem dX11_init_8 : decode cX11_init 8 = .ok (.dup, 1) := by decide +kernel
theorem dX11_init_9 : decode cX11_init 9 = .ok (.invokespecial 11, 3) := by decide +kernel
theorem dX11_init_12 : decode cX11_init 12 = .ok (.putfield 12, 3) := by decide +kernel
theorem dX11_init_15 : decode cX11_init 15 = .ok (.aload_n 0, 1) := by decide +kernel
theorem dX11_init_16 : decode cX11_init 16 = .ok (.new 16, 3) := by decide +kernel
theorem dX11_init_19 : decode cX11_init 19 = .ok (.dup, 1) := by decide +kernel
theorem dX11_init_20 : decode cX11_init 20 = .ok (.invokespecial 18, 3) := by decide +kernel
theorem dX11_init_23 : decode cX11_init 23 = .ok (.putfield 19, 3) := by decide +kernel
theorem dX11_init_26 : decode cX11_init 26 = .ok (.aload_n 0, 1) := by decide +kernel
theorem dX11_init_27 : decode cX11_init 27 = .ok (.new 23, 3) := by decide +kernel
theorem dX11_init_30 : decode cX11_init 30 = .ok (.dup, 1) := by decide +kernel
theorem dX11_init_31 : decode cX11_init 31 = .ok (.invokespecial 25, 3) := by decide +kernel
theorem dX11_init_34 : decode cX11_init 34 = .ok (.putfield 26, 3) := by decide +kernel
theorem dX11_init_37 : decode cX11_init 37 = .ok (.aload_n 0, 1) := by decide +kernel
theorem dX11_init_38 : decode cX11_init 38 = .ok (.new 30, 3) := by decide +kernel
theorem dX11_init_41 : decode cX11_init 41 = .ok (.dup, 1) := by decide +kernel
theorem dX11_init_42 : decode cX11_init 42 = .ok (.invokespecial 32, 3) := by decide +kernel
theorem dX11_init_45 : decode cX11_init 45 = .ok (.putfield 33, 3) := by decide +kernel
theorem dX11_init_48 : decode cX11_init 48 = .ok (.aload_n 0, 1) := by decide +kernel
theorem dX11_init_49 : decode cX11_init 49 = .ok (.iconst 2, 1) := by decide +kernel
theorem dX11_init_50 : decode cX11_init 50 = .ok (.anewarray 37, 3) := by decide +kernel
theorem dX11_init_53 : decode cX11_init 53 = .ok (.putfield 39, 3) := by decide +kernel
theorem dX11_init_56 : decode cX11_init 56 = .ok (.aload_n 0, 1) := by decide +kernel
theorem dX11_init_57 : decode cX11_init 57 = .ok (.new 43, 3) := by decide +kernel
theorem dX11_init_60 : decode cX11_init 60 = .ok (.dup, 1) := by decide +kernel
theorem dX11_init_61 : decode cX11_init 61 = .ok (.invokespecial 45, 3) := by decide +kernel
theorem dX11_init_64 : decode cX11_init 64 = .ok (.putfield 46, 3) := by decide +kernel
theorem dX11_init_67 : decode cX11_init 67 = .ok (.aload_n 0, 1) := by decide +kernel
theorem dX11_init_68 : decode cX11_init 68 = .ok (.new 50, 3) := by decide +kernel
theorem dX11_init_71 : decode cX11_init 71 = .ok (.dup, 1) := by decide +kernel
theorem dX11_init_72 : decode cX11_init 72 = .ok (.invokespecial 52, 3) := by decide +kernel
theorem dX11_init_75 : decode cX11_init 75 = .ok (.putfield 53, 3) := by decide +kernel
theorem dX11_init_78 : decode cX11_init 78 = .ok (.aload_n 0, 1) := by decide +kernel
theorem dX11_init_79 : decode cX11_init 79 = .ok (.new 57, 3) := by decide +kernel
theorem dX11_init_82 : decode cX11_init 82 = .ok (.dup, 1) := by decide +kernel
theorem dX11_init_83 : decode cX11_init 83 = .ok (.invokespecial 59, 3) := by decide +kernel
theorem dX11_init_86 : decode cX11_init 86 = .ok (.putfield 60, 3) := by decide +kernel
theorem dX11_init_89 : decode cX11_init 89 = .ok (.aload_n 0, 1) := by decide +kernel
theorem dX11_init_90 : decode cX11_init 90 = .ok (.new 64, 3) := by decide +kernel
theorem dX11_init_93 : decode cX11_init 93 = .ok (.dup, 1) := by decide +kernel
theorem dX11_init_94 : decode cX11_init 94 = .ok (.invokespecial 66, 3) := by decide +kernel
theorem dX11_init_97 : decode cX11_init 97 = .ok (.putfield 67, 3) := by decide +kernel
theorem dX11_init_100 : decode cX11_init 100 = .ok (.aload_n 0, 1) := by decide +kernel
theorem dX11_init_101 : decode cX11_init 101 = .ok (.new 71, 3) := by decide +kernel
theorem dX11_init_104 : decode cX11_init 104 = .ok (.dup, 1) := by decide +kernel
theorem dX11_init_105 : decode cX11_init 105 = .ok (.invokespecial 73, 3) := by decide +kernel
theorem dX11_init_108 : decode cX11_init 108 = .ok (.putfield 74, 3) := by decide +kernel
theorem dX11_init_111 : decode cX11_init 111 = .ok (.aload_n 0, 1) := by decide +kernel
theorem dX11_init_112 : decode cX11_init 112 = .ok (.bipush 6, 2) := by decide +kernel
theorem dX11_init_114 : decode cX11_init 114 = .ok (.newarray .int, 2) := by decide +kernel
theorem dX11_init_116 : decode cX11_init 116 = .ok (.putfield 78, 3) := by decide +kernel
theorem dX11_init_119 : decode cX11_init 119 = .ok (.return_, 1) := by decide +kernel
set_option maxRecDepth 20000 in
theorem ggX11_herd_X11_within : GoodIn wsX11_herd wsX11_within := goodIn_r _ [6] (by decide +kernel) (by decide +kernel)
set_option maxRecDepth 20000 in
theorem gX11_herd_X11_within : GoodIn wsX11_herd (va_wsS RX11 82 yX11_within wsX11_within) := goodIn_app (goodIn_of _ (by decide +kernel)) ggX11_herd_X11_within
set_option maxRecDepth 20000 in
theorem ggX11_herd_X8_settle : GoodIn wsX11_herd wsX8_settle := goodIn_r _ [11, 12, 13, 14, 15, 16, 4, 5, 6, 35, 36, 37, 38, 39, 40, 41] (by decide +kernel) (by decide +kernel)
set_option maxRecDepth 20000 in
theorem gX11_herd_X8_settle : GoodIn wsX11_herd (wsV RX11 86 RX8 yX8_settle wsX8_settle) := goodIn_app (goodIn_of _ (by decide +kernel)) ggX11_herd_X8_settle
set_option maxRecDepth 20000 in
theorem ggX11_herd_J6_bitCount_0f7a4 : GoodIn wsX11_herd wsJ6_bitCount_0f7a4 := goodIn_r _ [20, 21, 22, 23] (by decide +kernel) (by decide +kernel)
set_option maxRecDepth 20000 in
theorem gX11_herd_J6_bitCount_0f7a4 : GoodIn wsX11_herd (va_wsS RX11 94 yJ6_bitCount_0f7a4 wsJ6_bitCount_0f7a4) := goodIn_app (goodIn_of _ (by decide +kernel)) ggX11_herd_J6_bitCount_0f7a4
theorem dX11_herd_0 : decode cX11_herd 0 = .ok (.iload_n 1, 1) := by decide +kernel
theorem dX11_herd_1 : decode cX11_herd 1 = .ok (.iconst 0, 1) := by decide +kernel
theorem dX11_herd_2 : decode cX11_herd 2 = .ok (.iconst 5, 1) := by decide +kernel
theorem dX11_herd_3 : decode cX11_herd 3 = .ok (.invokestatic 82, 3) := by decide +kernel
theorem dX11_herd_6 : decode cX11_herd 6 = .ok (.ifCond .ne 5, 3) := by decide +kernel
theorem dX11_herd_9 : decode cX11_herd 9 = .ok (.iconst (-1), 1) := by decide +kernel
theorem dX11_herd_10 : decode cX11_herd 10 = .ok (.ireturn, 1) := by decide +kernel
theorem dX11_herd_11 : decode cX11_herd 11 = .ok (.iload_n 2, 1) := by decide +kernel
theorem dX11_herd_12 : decode cX11_herd 12 = .ok (.iconst 0, 1) := by decide +kernel
theorem dX11_herd_13 : decode cX11_herd 13 = .ok (.bipush 99, 2) := by decide +kernel
theorem dX11_herd_15 : decode cX11_herd 15 = .ok (.invokestatic 82, 3) := by decide +kernel
theorem dX11_herd_18 : decode cX11_herd 18 = .ok (.ifCond .eq 34, 3) := by decide +kernel
theorem dX11_herd_21 : decode cX11_herd 21 = .ok (.iload_n 3, 1) := by decide +kernel
theorem dX11_herd_22 : decode cX11_herd 22 = .ok (.iconst 0, 1) := by decide +kernel
theorem dX11_herd_23 : decode cX11_herd 23 = .ok (.iconst 1, 1) := by decide +kernel
theorem dX11_herd_24 : decode cX11_herd 24 = .ok (.invokestatic 82, 3) := by decide +kernel
theorem dX11_herd_27 : decode cX11_herd 27 = .ok (.ifCond .eq 25, 3) := by decide +kernel
theorem dX11_herd_30 : decode cX11_herd 30 = .ok (.iload 4, 2) := by decide +kernel
theorem dX11_herd_32 : decode cX11_herd 32 = .ok (.iconst 0, 1) := by decide +kernel
theorem dX11_herd_33 : decode cX11_herd 33 = .ok (.bipush 9, 2) := by decide +kernel
theorem dX11_herd_35 : decode cX11_herd 35 = .ok (.invokestatic 82, 3) := by decide +kernel
theorem dX11_herd_38 : decode cX11_herd 38 = .ok (.ifCond .eq 14, 3) := by decide +kernel
theorem dX11_herd_41 : decode cX11_herd 41 = .ok (.iload 5, 2) := by decide +kernel
theorem dX11_herd_43 : decode cX11_herd 43 = .ok (.iconst 0, 1) := by decide +kernel
theorem dX11_herd_44 : decode cX11_herd 44 = .ok (.bipush 11, 2) := by decide +kernel
theorem dX11_herd_46 : decode cX11_herd 46 = .ok (.invokestatic 82, 3) := by decide +kernel
theorem dX11_herd_49 : decode cX11_herd 49 = .ok (.ifCond .ne 6, 3) := by decide +kernel
theorem dX11_herd_52 : decode cX11_herd 52 = .ok (.bipush (-2), 2) := by decide +kernel
theorem dX11_herd_54 : decode cX11_herd 54 = .ok (.ireturn, 1) := by decide +kernel
theorem dX11_herd_55 : decode cX11_herd 55 = .ok (.aload_n 0, 1) := by decide +kernel
theorem dX11_herd_56 : decode cX11_herd 56 = .ok (.getfield 12, 3) := by decide +kernel
theorem dX11_herd_59 : decode cX11_herd 59 = .ok (.iload_n 1, 1) := by decide +kernel
theorem dX11_herd_60 : decode cX11_herd 60 = .ok (.iload_n 2, 1) := by decide +kernel
theorem dX11_herd_61 : decode cX11_herd 61 = .ok (.iload_n 3, 1) := by decide +kernel
theorem dX11_herd_62 : decode cX11_herd 62 = .ok (.iload 4, 2) := by decide +kernel
theorem dX11_herd_64 : decode cX11_herd 64 = .ok (.iload 5, 2) := by decide +kernel
theorem dX11_herd_66 : decode cX11_herd 66 = .ok (.invokevirtual 86, 3) := by decide +kernel
theorem dX11_herd_69 : decode cX11_herd 69 = .ok (.aload_n 0, 1) := by decide +kernel
theorem dX11_herd_70 : decode cX11_herd 70 = .ok (.getfield 12, 3) := by decide +kernel
theorem dX11_herd_73 : decode cX11_herd 73 = .ok (.getfield 90, 3) := by decide +kernel
theorem dX11_herd_76 : decode cX11_herd 76 = .ok (.invokestatic 94, 3) := by decide +kernel
theorem dX11_herd_79 : decode cX11_herd 79 = .ok (.ireturn, 1) := by decide +kernel
set_option maxRecDepth 20000 in
theorem ggX11_clause_X11_within : GoodIn wsX11_clause wsX11_within := goodIn_r _ [6] (by decide +kernel) (by decide +kernel)
set_option maxRecDepth 20000 in
theorem gX11_clause_X11_within : GoodIn wsX11_clause (va_wsS RX11 82 yX11_within wsX11_within) := goodIn_app (goodIn_of _ (by decide +kernel)) ggX11_clause_X11_within
theorem dX11_clause_0 : decode cX11_clause 0 = .ok (.iload_n 1, 1) := by decide +kernel
theorem dX11_clause_1 : decode cX11_clause 1 = .ok (.iconst 0, 1) := by decide +kernel
theorem dX11_clause_2 : decode cX11_clause 2 = .ok (.bipush 9, 2) := by decide +kernel
theorem dX11_clause_4 : decode cX11_clause 4 = .ok (.invokestatic 82, 3) := by decide +kernel
theorem dX11_clause_7 : decode cX11_clause 7 = .ok (.ifCond .ne 5, 3) := by decide +kernel
theorem dX11_clause_10 : decode cX11_clause 10 = .ok (.iconst (-1), 1) := by decide +kernel
theorem dX11_clause_11 : decode cX11_clause 11 = .ok (.ireturn, 1) := by decide +kernel
theorem dX11_clause_12 : decode cX11_clause 12 = .ok (.iload_n 2, 1) := by decide +kernel
theorem dX11_clause_13 : decode cX11_clause 13 = .ok (.iconst 1, 1) := by decide +kernel
theorem dX11_clause_14 : decode cX11_clause 14 = .ok (.bipush 9, 2) := by decide +kernel
theorem dX11_clause_16 : decode cX11_clause 16 = .ok (.invokestatic 82, 3) := by decide +kernel
theorem dX11_clause_19 : decode cX11_clause 19 = .ok (.ifCond .ne 6, 3) := by decide +kernel
theorem dX11_clause_22 : decode cX11_clause 22 = .ok (.bipush (-2), 2) := by decide +kernel
theorem dX11_clause_24 : decode cX11_clause 24 = .ok (.ireturn, 1) := by decide +kernel
theorem dX11_clause_25 : decode cX11_clause 25 = .ok (.aload_n 0, 1) := by decide +kernel
theorem dX11_clause_26 : decode cX11_clause 26 = .ok (.getfield 19, 3) := by decide +kernel
theorem dX11_clause_29 : decode cX11_clause 29 = .ok (.getfield 100, 3) := by decide +kernel
theorem dX11_clause_32 : decode cX11_clause 32 = .ok (.iload_n 1, 1) := by decide +kernel
theorem dX11_clause_33 : decode cX11_clause 33 = .ok (.iaload, 1) := by decide +kernel
theorem dX11_clause_34 : decode cX11_clause 34 = .ok (.istore_n 3, 1) := by decide +kernel
theorem dX11_clause_35 : decode cX11_clause 35 = .ok (.aload_n 0, 1) := by decide +kernel
theorem dX11_clause_36 : decode cX11_clause 36 = .ok (.getfield 19, 3) := by decide +kernel
theorem dX11_clause_39 : decode cX11_clause 39 = .ok (.getfield 100, 3) := by decide +kernel
theorem dX11_clause_42 : decode cX11_clause 42 = .ok (.iload_n 1, 1) := by decide +kernel
theorem dX11_clause_43 : decode cX11_clause 43 = .ok (.iload_n 2, 1) := by decide +kernel
theorem dX11_clause_44 : decode cX11_clause 44 = .ok (.iastore, 1) := by decide +kernel
theorem dX11_clause_45 : decode cX11_clause 45 = .ok (.iload_n 3, 1) := by decide +kernel
theorem dX11_clause_46 : decode cX11_clause 46 = .ok (.ireturn, 1) := by decide +kernel
set_option maxRecDepth 20000 in
theorem ggX11_clash_X11_within : GoodIn wsX11_clash wsX11_within := goodIn_r _ [5] (by decide +kernel) (by decide +kernel)
set_option maxRecDepth 20000 in
theorem gX11_clash_X11_within : GoodIn wsX11_clash (va_wsS RX11 82 yX11_within wsX11_within) := goodIn_app (goodIn_of _ (by decide +kernel)) ggX11_clash_X11_within
set_option maxRecDepth 20000 in
theorem ggX11_clash_X9_setClash : GoodIn wsX11_clash wsX9_setClash := goodIn_r _ [10, 11, 3, 4, 5, 34, 35] (by decide +kernel) (by decide +kernel)
set_option maxRecDepth 20000 in
theorem gX11_clash_X9_setClash : GoodIn wsX11_clash (wsV RX11 103 RX9 yX9_setClash wsX9_setClash) := goodIn_app (goodIn_of _ (by decide +kernel)) ggX11_clash_X9_setClash
set_option maxRecDepth 20000 in
theorem ggX11_clash_X9_clashingPairs : GoodIn wsX11_clash wsX9_clashingPairs := goodIn_r _ [15, 11, 16, 17, 18, 19, 20, 21, 22, 34, 35] (by decide +kernel) (by decide +kernel)
set_option maxRecDepth 20000 in
theorem gX11_clash_X9_clashingPairs : GoodIn wsX11_clash (wsV RX11 107 RX9 yX9_clashingPairs wsX9_clashingPairs) := goodIn_app (goodIn_of _ (by decide +kernel)) ggX11_clash_X9_clashingPairs
theorem dX11_clash_0 : decode cX11_clash 0 = .ok (.iload_n 1, 1) := by decide +kernel
theorem dX11_clash_1 : decode cX11_clash 1 = .ok (.iconst 0, 1) := by decide +kernel
theorem dX11_clash_2 : decode cX11_clash 2 = .ok (.bipush 9, 2) := by decide +kernel
theorem dX11_clash_4 : decode cX11_clash 4 = .ok (.invokestatic 82, 3) := by decide +kernel
theorem dX11_clash_7 : decode cX11_clash 7 = .ok (.ifCond .eq 18, 3) := by decide +kernel
theorem dX11_clash_10 : decode cX11_clash 10 = .ok (.iload_n 2, 1) := by decide +kernel
theorem dX11_clash_11 : decode cX11_clash 11 = .ok (.iconst 0, 1) := by decide +kernel
theorem dX11_clash_12 : decode cX11_clash 12 = .ok (.bipush 9, 2) := by decide +kernel
theorem dX11_clash_14 : decode cX11_clash 14 = .ok (.invokestatic 82, 3) := by decide +kernel
theorem dX11_clash_17 : decode cX11_clash 17 = .ok (.ifCond .eq 8, 3) := by decide +kernel
theorem dX11_clash_20 : decode cX11_clash 20 = .ok (.iload_n 1, 1) := by decide +kernel
theorem dX11_clash_21 : decode cX11_clash 21 = .ok (.iload_n 2, 1) := by decide +kernel
theorem dX11_clash_22 : decode cX11_clash 22 = .ok (.if_icmp .ne 5, 3) := by decide +kernel
theorem dX11_clash_25 : decode cX11_clash 25 = .ok (.iconst (-1), 1) := by decide +kernel
theorem dX11_clash_26 : decode cX11_clash 26 = .ok (.ireturn, 1) := by decide +kernel
theorem dX11_clash_27 : decode cX11_clash 27 = .ok (.aload_n 0, 1) := by decide +kernel
theorem dX11_clash_28 : decode cX11_clash 28 = .ok (.getfield 19, 3) := by decide +kernel
theorem dX11_clash_31 : decode cX11_clash 31 = .ok (.iload_n 1, 1) := by decide +kernel
theorem dX11_clash_32 : decode cX11_clash 32 = .ok (.iload_n 2, 1) := by decide +kernel
theorem dX11_clash_33 : decode cX11_clash 33 = .ok (.iload_n 3, 1) := by decide +kernel
theorem dX11_clash_34 : decode cX11_clash 34 = .ok (.invokevirtual 103, 3) := by decide +kernel
theorem dX11_clash_37 : decode cX11_clash 37 = .ok (.aload_n 0, 1) := by decide +kernel
theorem dX11_clash_38 : decode cX11_clash 38 = .ok (.getfield 19, 3) := by decide +kernel
theorem dX11_clash_41 : decode cX11_clash 41 = .ok (.iload_n 2, 1) := by decide +kernel
theorem dX11_clash_42 : decode cX11_clash 42 = .ok (.iload_n 1, 1) := by decide +kernel
theorem dX11_clash_43 : decode cX11_clash 43 = .ok (.iload_n 3, 1) := by decide +kernel
theorem dX11_clash_44 : decode cX11_clash 44 = .ok (.invokevirtual 103, 3) := by decide +kernel
theorem dX11_clash_47 : decode cX11_clash 47 = .ok (.aload_n 0, 1) := by decide +kernel
theorem dX11_clash_48 : decode cX11_clash 48 = .ok (.getfield 19, 3) := by decide +kernel
theorem dX11_clash_51 : decode cX11_clash 51 = .ok (.invokevirtual 107, 3) := by decide +kernel
theorem dX11_clash_54 : decode cX11_clash 54 = .ok (.ireturn, 1) := by decide +kernel
set_option maxRecDepth 20000 in
theorem ggX11_rock_X11_within : GoodIn wsX11_rock wsX11_within := goodIn_r _ [6] (by decide +kernel) (by decide +kernel)
set_option maxRecDepth 20000 in
theorem gX11_rock_X11_within : GoodIn wsX11_rock (va_wsS RX11 82 yX11_within wsX11_within) := goodIn_app (goodIn_of _ (by decide +kernel)) ggX11_rock_X11_within
theorem dX11_rock_0 : decode cX11_rock 0 = .ok (.iload_n 1, 1) := by decide +kernel
theorem dX11_rock_1 : decode cX11_rock 1 = .ok (.iconst 0, 1) := by decide +kernel
theorem dX11_rock_2 : decode cX11_rock 2 = .ok (.iconst 5, 1) := by decide +kernel
theorem dX11_rock_3 : decode cX11_rock 3 = .ok (.invokestatic 82, 3) := by decide +kernel
theorem dX11_rock_6 : decode cX11_rock 6 = .ok (.ifCond .ne 5, 3) := by decide +kernel
theorem dX11_rock_9 : decode cX11_rock 9 = .ok (.iconst (-1), 1) := by decide +kernel
theorem dX11_rock_10 : decode cX11_rock 10 = .ok (.ireturn, 1) := by decide +kernel
theorem dX11_rock_11 : decode cX11_rock 11 = .ok (.iload_n 2, 1) := by decide +kernel
theorem dX11_rock_12 : decode cX11_rock 12 = .ok (.iconst 0, 1) := by decide +kernel
theorem dX11_rock_13 : decode cX11_rock 13 = .ok (.bipush 63, 2) := by decide +kernel
theorem dX11_rock_15 : decode cX11_rock 15 = .ok (.invokestatic 82, 3) := by decide +kernel
theorem dX11_rock_18 : decode cX11_rock 18 = .ok (.ifCond .ne 6, 3) := by decide +kernel
theorem dX11_rock_21 : decode cX11_rock 21 = .ok (.bipush (-2), 2) := by decide +kernel
theorem dX11_rock_23 : decode cX11_rock 23 = .ok (.ireturn, 1) := by decide +kernel
theorem dX11_rock_24 : decode cX11_rock 24 = .ok (.aload_n 0, 1) := by decide +kernel
theorem dX11_rock_25 : decode cX11_rock 25 = .ok (.getfield 26, 3) := by decide +kernel
theorem dX11_rock_28 : decode cX11_rock 28 = .ok (.getfield 111, 3) := by decide +kernel
theorem dX11_rock_31 : decode cX11_rock 31 = .ok (.iload_n 1, 1) := by decide +kernel
theorem dX11_rock_32 : decode cX11_rock 32 = .ok (.iaload, 1) := by decide +kernel
theorem dX11_rock_33 : decode cX11_rock 33 = .ok (.istore_n 3, 1) := by decide +kernel
theorem dX11_rock_34 : decode cX11_rock 34 = .ok (.aload_n 0, 1) := by decide +kernel
theorem dX11_rock_35 : decode cX11_rock 35 = .ok (.getfield 26, 3) := by decide +kernel
theorem dX11_rock_38 : decode cX11_rock 38 = .ok (.getfield 111, 3) := by decide +kernel
theorem dX11_rock_41 : decode cX11_rock 41 = .ok (.iload_n 1, 1) := by decide +kernel
theorem dX11_rock_42 : decode cX11_rock 42 = .ok (.iload_n 2, 1) := by decide +kernel
theorem dX11_rock_43 : decode cX11_rock 43 = .ok (.iastore, 1) := by decide +kernel
theorem dX11_rock_44 : decode cX11_rock 44 = .ok (.iload_n 3, 1) := by decide +kernel
theorem dX11_rock_45 : decode cX11_rock 45 = .ok (.ireturn, 1) := by decide +kernel
set_option maxRecDepth 20000 in
theorem ggX11_say_X11_within : GoodIn wsX11_say wsX11_within := goodIn_r _ [6] (by decide +kernel) (by decide +kernel)
set_option maxRecDepth 20000 in
theorem gX11_say_X11_within : GoodIn wsX11_say (va_wsS RX11 82 yX11_within wsX11_within) := goodIn_app (goodIn_of _ (by decide +kernel)) ggX11_say_X11_within
set_option maxRecDepth 20000 in
theorem ggX11_say_X7_write : GoodIn wsX11_say wsX7_write := goodIn_r _ [11, 12, 13, 25, 26] (by decide +kernel) (by decide +kernel)
set_option maxRecDepth 20000 in
theorem gX11_say_X7_write : GoodIn wsX11_say (wsV RX11 114 RX7 yX7_write wsX7_write) := goodIn_app (goodIn_of _ (by decide +kernel)) ggX11_say_X7_write
theorem dX11_say_0 : decode cX11_say 0 = .ok (.iload_n 1, 1) := by decide +kernel
theorem dX11_say_1 : decode cX11_say 1 = .ok (.bipush 33, 2) := by decide +kernel
theorem dX11_say_3 : decode cX11_say 3 = .ok (.bipush 126, 2) := by decide +kernel
theorem dX11_say_5 : decode cX11_say 5 = .ok (.invokestatic 82, 3) := by decide +kernel
theorem dX11_say_8 : decode cX11_say 8 = .ok (.ifCond .ne 6, 3) := by decide +kernel
theorem dX11_say_11 : decode cX11_say 11 = .ok (.bipush (-2), 2) := by decide +kernel
theorem dX11_say_13 : decode cX11_say 13 = .ok (.ireturn, 1) := by decide +kernel
theorem dX11_say_14 : decode cX11_say 14 = .ok (.aload_n 0, 1) := by decide +kernel
theorem dX11_say_15 : decode cX11_say 15 = .ok (.getfield 33, 3) := by decide +kernel
theorem dX11_say_18 : decode cX11_say 18 = .ok (.iload_n 1, 1) := by decide +kernel
theorem dX11_say_19 : decode cX11_say 19 = .ok (.invokevirtual 114, 3) := by decide +kernel
theorem dX11_say_22 : decode cX11_say 22 = .ok (.ifCond .ne 6, 3) := by decide +kernel
theorem dX11_say_25 : decode cX11_say 25 = .ok (.bipush (-4), 2) := by decide +kernel
theorem dX11_say_27 : decode cX11_say 27 = .ok (.ireturn, 1) := by decide +kernel
theorem dX11_say_28 : decode cX11_say 28 = .ok (.aload_n 0, 1) := by decide +kernel
theorem dX11_say_29 : decode cX11_say 29 = .ok (.getfield 33, 3) := by decide +kernel
theorem dX11_say_32 : decode cX11_say 32 = .ok (.getfield 118, 3) := by decide +kernel
theorem dX11_say_35 : decode cX11_say 35 = .ok (.ireturn, 1) := by decide +kernel
theorem dX11_wipe_0 : decode cX11_wipe 0 = .ok (.aload_n 0, 1) := by decide +kernel
theorem dX11_wipe_1 : decode cX11_wipe 1 = .ok (.getfield 33, 3) := by decide +kernel
theorem dX11_wipe_4 : decode cX11_wipe 4 = .ok (.getfield 118, 3) := by decide +kernel
theorem dX11_wipe_7 : decode cX11_wipe 7 = .ok (.istore_n 1, 1) := by decide +kernel
theorem dX11_wipe_8 : decode cX11_wipe 8 = .ok (.aload_n 0, 1) := by decide +kernel
theorem dX11_wipe_9 : decode cX11_wipe 9 = .ok (.getfield 33, 3) := by decide +kernel
theorem dX11_wipe_12 : decode cX11_wipe 12 = .ok (.iconst 0, 1) := by decide +kernel
theorem dX11_wipe_13 : decode cX11_wipe 13 = .ok (.putfield 118, 3) := by decide +kernel
theorem dX11_wipe_16 : decode cX11_wipe 16 = .ok (.iload_n 1, 1) := by decide +kernel
theorem dX11_wipe_17 : decode cX11_wipe 17 = .ok (.ireturn, 1) := by decide +kernel
set_option maxRecDepth 20000 in
theorem ggX11_fault_X7_faultPlace : GoodIn wsX11_fault wsX7_faultPlace := goodIn_r _ [6, 7, 8, 9, 10, 5, 11, 12, 13, 14, 15, 16, 17, 18, 19, 20, 32, 33] (by decide +kernel) (by decide +kernel)
set_option maxRecDepth 20000 in
theorem gX11_fault_X7_faultPlace : GoodIn wsX11_fault (wsV RX11 121 RX7 yX7_faultPlace wsX7_faultPlace) := goodIn_app (goodIn_of _ (by decide +kernel)) ggX11_fault_X7_faultPlace
theorem dX11_fault_0 : decode cX11_fault 0 = .ok (.aload_n 0, 1) := by decide +kernel
theorem dX11_fault_1 : decode cX11_fault 1 = .ok (.getfield 33, 3) := by decide +kernel
theorem dX11_fault_4 : decode cX11_fault 4 = .ok (.invokevirtual 121, 3) := by decide +kernel
theorem dX11_fault_7 : decode cX11_fault 7 = .ok (.ireturn, 1) := by decide +kernel
set_option maxRecDepth 20000 in
theorem ggX11_judge_X11_within : GoodIn wsX11_judge wsX11_within := goodIn_r _ [11] (by decide +kernel) (by decide +kernel)
set_option maxRecDepth 20000 in
theorem gX11_judge_X11_within : GoodIn wsX11_judge (va_wsS RX11 82 yX11_within wsX11_within) := goodIn_app (goodIn_of _ (by decide +kernel)) ggX11_judge_X11_within
set_option maxRecDepth 20000 in
theorem ggX11_judge_X10_run : GoodIn wsX11_judge wsX10_run := goodIn_r _ [16, 17, 18, 19, 20, 21, 22, 23, 24, 25, 15, 26, 27, 28, 29, 30, 31, 32, 33, 34, 35, 36, 37, 38, 39, 40, 41, 42, 43, 44, 45, 46, 47, 48, 49, 50, 51, 52, 53, 54, 9, 10, 11, 55, 56, 57, 58, 59, 60, 61, 62, 63, 64, 65, 66, 67, 68, 69, 70, 71, 72, 73, 74, 75, 76, 77, 78, 79, 80, 81, 82, 83, 84, 85, 86, 87, 88, 89, 90, 91, 92, 93, 94, 95, 96, 97, 98, 99, 100, 101, 102, 103, 104, 105, 106, 107, 108, 109, 110, 111, 112, 113, 114, 115, 116, 117, 118, 119, 120, 121, 122, 123, 124, 125, 126, 127, 128, 129, 130, 131, 132, 133, 134, 135, 136, 137, 138, 139, 140, 141, 142, 143, 144, 145, 146, 147, 148, 149, 168, 169, 161, 162, 163, 164, 165, 166, 167, 170, 171, 172, 173, 174, 175, 176, 177, 178, 179, 180, 181] (by decide +kernel) (by decide +kernel)
set_option maxRecDepth 20000 in
theorem gX11_judge_X10_run : GoodIn wsX11_judge (wsV RX11 124 RX10 yX10_run wsX10_run) := goodIn_app (goodIn_of _ (by decide +kernel)) ggX11_judge_X10_run
theorem dX11_judge_0 : decode cX11_judge 0 = .ok (.iload_n 1, 1) := by decide +kernel
theorem dX11_judge_1 : decode cX11_judge 1 = .ok (.iconst 0, 1) := by decide +kernel
theorem dX11_judge_2 : decode cX11_judge 2 = .ok (.iconst 1, 1) := by decide +kernel
theorem dX11_judge_3 : decode cX11_judge 3 = .ok (.invokestatic 82, 3) := by decide +kernel
theorem dX11_judge_6 : decode cX11_judge 6 = .ok (.ifCond .ne 6, 3) := by decide +kernel
theorem dX11_judge_9 : decode cX11_judge 9 = .ok (.bipush (-2), 2) := by decide +kernel
theorem dX11_judge_11 : decode cX11_judge 11 = .ok (.ireturn, 1) := by decide +kernel
theorem dX11_judge_12 : decode cX11_judge 12 = .ok (.aload_n 0, 1) := by decide +kernel
theorem dX11_judge_13 : decode cX11_judge 13 = .ok (.getfield 46, 3) := by decide +kernel
theorem dX11_judge_16 : decode cX11_judge 16 = .ok (.aload_n 0, 1) := by decide +kernel
theorem dX11_judge_17 : decode cX11_judge 17 = .ok (.getfield 33, 3) := by decide +kernel
theorem dX11_judge_20 : decode cX11_judge 20 = .ok (.aload_n 0, 1) := by decide +kernel
theorem dX11_judge_21 : decode cX11_judge 21 = .ok (.getfield 12, 3) := by decide +kernel
theorem dX11_judge_24 : decode cX11_judge 24 = .ok (.aload_n 0, 1) := by decide +kernel
theorem dX11_judge_25 : decode cX11_judge 25 = .ok (.getfield 19, 3) := by decide +kernel
theorem dX11_judge_28 : decode cX11_judge 28 = .ok (.invokevirtual 124, 3) := by decide +kernel
theorem dX11_judge_31 : decode cX11_judge 31 = .ok (.aload_n 0, 1) := by decide +kernel
theorem dX11_judge_32 : decode cX11_judge 32 = .ok (.getfield 46, 3) := by decide +kernel
theorem dX11_judge_35 : decode cX11_judge 35 = .ok (.getfield 128, 3) := by decide +kernel
theorem dX11_judge_38 : decode cX11_judge 38 = .ok (.ifCond .eq 6, 3) := by decide +kernel
theorem dX11_judge_41 : decode cX11_judge 41 = .ok (.bipush (-5), 2) := by decide +kernel
theorem dX11_judge_43 : decode cX11_judge 43 = .ok (.ireturn, 1) := by decide +kernel
theorem dX11_judge_44 : decode cX11_judge 44 = .ok (.aload_n 0, 1) := by decide +kernel
theorem dX11_judge_45 : decode cX11_judge 45 = .ok (.getfield 46, 3) := by decide +kernel
theorem dX11_judge_48 : decode cX11_judge 48 = .ok (.getfield 132, 3) := by decide +kernel
theorem dX11_judge_51 : decode cX11_judge 51 = .ok (.ifCond .ne 6, 3) := by decide +kernel
theorem dX11_judge_54 : decode cX11_judge 54 = .ok (.bipush (-6), 2) := by decide +kernel
theorem dX11_judge_56 : decode cX11_judge 56 = .ok (.ireturn, 1) := by decide +kernel
theorem dX11_judge_57 : decode cX11_judge 57 = .ok (.iload_n 1, 1) := by decide +kernel
theorem dX11_judge_58 : decode cX11_judge 58 = .ok (.ifCond .ne 13, 3) := by decide +kernel
theorem dX11_judge_61 : decode cX11_judge 61 = .ok (.aload_n 0, 1) := by decide +kernel
theorem dX11_judge_62 : decode cX11_judge 62 = .ok (.getfield 46, 3) := by decide +kernel
theorem dX11_judge_65 : decode cX11_judge 65 = .ok (.getfield 135, 3) := by decide +kernel
theorem dX11_judge_68 : decode cX11_judge 68 = .ok (.goto 10, 3) := by decide +kernel
theorem dX11_judge_71 : decode cX11_judge 71 = .ok (.aload_n 0, 1) := by decide +kernel
theorem dX11_judge_72 : decode cX11_judge 72 = .ok (.getfield 46, 3) := by decide +kernel
theorem dX11_judge_75 : decode cX11_judge 75 = .ok (.getfield 132, 3) := by decide +kernel
theorem dX11_judge_78 : decode cX11_judge 78 = .ok (.ireturn, 1) := by decide +kernel
set_option maxRecDepth 20000 in
theorem ggX11_done_X10_run : GoodIn wsX11_done wsX10_run := goodIn_r _ [12, 13, 14, 15, 16, 17, 18, 19, 20, 21, 11, 22, 23, 24, 25, 26, 27, 28, 29, 30, 31, 32, 33, 34, 35, 36, 37, 38, 39, 40, 41, 42, 43, 44, 45, 46, 47, 48, 49, 50, 51, 52, 53, 54, 55, 56, 57, 58, 59, 60, 61, 62, 63, 64, 65, 66, 67, 68, 69, 70, 71, 72, 73, 74, 75, 76, 77, 78, 79, 80, 81, 82, 83, 84, 85, 86, 87, 88, 89, 90, 91, 92, 93, 94, 95, 96, 97, 98, 99, 100, 101, 102, 103, 104, 105, 106, 107, 108, 109, 110, 111, 112, 113, 114, 115, 116, 117, 118, 119, 120, 121, 122, 123, 124, 125, 126, 127, 128, 129, 130, 131, 132, 133, 134, 135, 136, 137, 138, 139, 140, 141, 142, 143, 144, 145, 146, 147, 148, 172, 173, 165, 166, 167, 168, 169, 170, 171, 174, 175, 176, 177, 178, 179, 180, 181, 182, 183, 184, 185] (by decide +kernel) (by decide +kernel)
set_option maxRecDepth 20000 in
theorem gX11_done_X10_run : GoodIn wsX11_done (wsV RX11 124 RX10 yX10_run wsX10_run) := goodIn_app (goodIn_of _ (by decide +kernel)) ggX11_done_X10_run
set_option maxRecDepth 20000 in
theorem ggX11_done_X10_allCanBe : GoodIn wsX11_done wsX10_allCanBe := goodIn_r _ [152, 14, 17, 165, 166, 167, 168, 169, 170, 171] (by decide +kernel) (by decide +kernel)
set_option maxRecDepth 20000 in
theorem gX11_done_X10_allCanBe : GoodIn wsX11_done (wsV RX11 138 RX10 yX10_allCanBe wsX10_allCanBe) := goodIn_app (goodIn_of _ (by decide +kernel)) ggX11_done_X10_allCanBe
set_option maxRecDepth 20000 in
theorem ggX11_done_X8_copyFrom : GoodIn wsX11_done wsX8_copyFrom := goodIn_r _ [30, 31, 32, 33, 34, 35, 36, 37, 174, 175, 176, 177, 178, 179, 180] (by decide +kernel) (by decide +kernel)
set_option maxRecDepth 20000 in
theorem gX11_done_X8_copyFrom : GoodIn wsX11_done (wsV RX11 143 RX8 yX8_copyFrom wsX8_copyFrom) := goodIn_app (goodIn_of _ (by decide +kernel)) ggX11_done_X8_copyFrom
theorem dX11_done_0 : decode cX11_done 0 = .ok (.aload_n 0, 1) := by decide +kernel
theorem dX11_done_1 : decode cX11_done 1 = .ok (.getfield 46, 3) := by decide +kernel
theorem dX11_done_4 : decode cX11_done 4 = .ok (.aload_n 0, 1) := by decide +kernel
theorem dX11_done_5 : decode cX11_done 5 = .ok (.getfield 33, 3) := by decide +kernel
theorem dX11_done_8 : decode cX11_done 8 = .ok (.aload_n 0, 1) := by decide +kernel
theorem dX11_done_9 : decode cX11_done 9 = .ok (.getfield 12, 3) := by decide +kernel
theorem dX11_done_12 : decode cX11_done 12 = .ok (.aload_n 0, 1) := by decide +kernel
theorem dX11_done_13 : decode cX11_done 13 = .ok (.getfield 19, 3) := by decide +kernel
theorem dX11_done_16 : decode cX11_done 16 = .ok (.invokevirtual 124, 3) := by decide +kernel
theorem dX11_done_19 : decode cX11_done 19 = .ok (.aload_n 0, 1) := by decide +kernel
theorem dX11_done_20 : decode cX11_done 20 = .ok (.getfield 46, 3) := by decide +kernel
theorem dX11_done_23 : decode cX11_done 23 = .ok (.invokevirtual 138, 3) := by decide +kernel
theorem dX11_done_26 : decode cX11_done 26 = .ok (.ifCond .ne 6, 3) := by decide +kernel
theorem dX11_done_29 : decode cX11_done 29 = .ok (.bipush (-5), 2) := by decide +kernel
theorem dX11_done_31 : decode cX11_done 31 = .ok (.ireturn, 1) := by decide +kernel
theorem dX11_done_32 : decode cX11_done 32 = .ok (.aload_n 0, 1) := by decide +kernel
theorem dX11_done_33 : decode cX11_done 33 = .ok (.getfield 12, 3) := by decide +kernel
theorem dX11_done_36 : decode cX11_done 36 = .ok (.aload_n 0, 1) := by decide +kernel
theorem dX11_done_37 : decode cX11_done 37 = .ok (.getfield 46, 3) := by decide +kernel
theorem dX11_done_40 : decode cX11_done 40 = .ok (.getfield 142, 3) := by decide +kernel
theorem dX11_done_43 : decode cX11_done 43 = .ok (.invokevirtual 143, 3) := by decide +kernel
theorem dX11_done_46 : decode cX11_done 46 = .ok (.aload_n 0, 1) := by decide +kernel
theorem dX11_done_47 : decode cX11_done 47 = .ok (.getfield 33, 3) := by decide +kernel
theorem dX11_done_50 : decode cX11_done 50 = .ok (.iconst 0, 1) := by decide +kernel
theorem dX11_done_51 : decode cX11_done 51 = .ok (.putfield 118, 3) := by decide +kernel
theorem dX11_done_54 : decode cX11_done 54 = .ok (.aload_n 0, 1) := by decide +kernel
theorem dX11_done_55 : decode cX11_done 55 = .ok (.getfield 46, 3) := by decide +kernel
theorem dX11_done_58 : decode cX11_done 58 = .ok (.getfield 135, 3) := by decide +kernel
theorem dX11_done_61 : decode cX11_done 61 = .ok (.ireturn, 1) := by decide +kernel
set_option maxRecDepth 20000 in
theorem ggX11_behind_X8_isThere : GoodIn wsX11_behind wsX8_isThere := goodIn_r _ [10, 11, 175, 176, 177, 178, 179, 180, 181] (by decide +kernel) (by decide +kernel)
set_option maxRecDepth 20000 in
theorem gX11_behind_X8_isThere : GoodIn wsX11_behind (wsV RX11 147 RX8 yX8_isThere wsX8_isThere) := goodIn_app (goodIn_of _ (by decide +kernel)) ggX11_behind_X8_isThere
set_option maxRecDepth 20000 in
theorem ggX11_behind_X11_within : GoodIn wsX11_behind wsX11_within := goodIn_r _ [15] (by decide +kernel) (by decide +kernel)
set_option maxRecDepth 20000 in
theorem gX11_behind_X11_within : GoodIn wsX11_behind (va_wsS RX11 82 yX11_within wsX11_within) := goodIn_app (goodIn_of _ (by decide +kernel)) ggX11_behind_X11_within
set_option maxRecDepth 20000 in
theorem ggX11_behind_X10_run : GoodIn wsX11_behind wsX10_run := goodIn_r _ [20, 21, 22, 23, 24, 25, 26, 27, 28, 29, 19, 30, 31, 32, 33, 34, 35, 36, 9, 37, 11, 38, 39, 40, 41, 42, 43, 44, 45, 46, 47, 48, 49, 50, 51, 52, 53, 54, 55, 56, 13, 14, 15, 57, 58, 59, 60, 61, 62, 63, 64, 65, 66, 67, 68, 69, 70, 71, 72, 73, 74, 75, 76, 77, 78, 79, 80, 81, 82, 83, 84, 85, 86, 87, 88, 89, 90, 91, 92, 93, 94, 95, 96, 97, 98, 7, 8, 10, 99, 100, 101, 102, 103, 104, 105, 106, 107, 108, 109, 110, 111, 112, 113, 114, 115, 116, 117, 118, 119, 120, 121, 122, 123, 124, 125, 126, 127, 128, 129, 130, 131, 132, 133, 134, 135, 136, 137, 138, 139, 140, 141, 142, 143, 144, 145, 146, 147, 148, 182, 183, 168, 169, 170, 171, 172, 173, 174, 175, 176, 177, 178, 179, 180, 181, 184, 185, 186, 187, 188] (by decide +kernel) (by decide +kernel)
set_option maxRecDepth 20000 in
theorem gX11_behind_X10_run : GoodIn wsX11_behind (wsV RX11 124 RX10 yX10_run wsX10_run) := goodIn_app (goodIn_of _ (by decide +kernel)) ggX11_behind_X10_run
set_option maxRecDepth 20000 in
theorem ggX11_behind_X10_allCanBe : GoodIn wsX11_behind wsX10_allCanBe := goodIn_r _ [152, 22, 25, 168, 169, 170, 171, 172, 173, 174] (by decide +kernel) (by decide +kernel)
set_option maxRecDepth 20000 in
theorem gX11_behind_X10_allCanBe : GoodIn wsX11_behind (wsV RX11 138 RX10 yX10_allCanBe wsX10_allCanBe) := goodIn_app (goodIn_of _ (by decide +kernel)) ggX11_behind_X10_allCanBe
set_option maxRecDepth 20000 in
theorem ggX11_behind_X8_traitOf : GoodIn wsX11_behind wsX8_traitOf := goodIn_r _ [156, 40, 41, 42, 43, 98, 7, 8, 9, 10, 11, 175, 176, 177, 178, 179, 180, 181] (by decide +kernel) (by decide +kernel)
set_option maxRecDepth 20000 in
theorem gX11_behind_X8_traitOf : GoodIn wsX11_behind (wsV RX11 150 RX8 yX8_traitOf wsX8_traitOf) := goodIn_app (goodIn_of _ (by decide +kernel)) ggX11_behind_X8_traitOf
theorem dX11_behind_0 : decode cX11_behind 0 = .ok (.aload_n 0, 1) := by decide +kernel
theorem dX11_behind_1 : decode cX11_behind 1 = .ok (.getfield 12, 3) := by decide +kernel
theorem dX11_behind_4 : decode cX11_behind 4 = .ok (.iload_n 1, 1) := by decide +kernel
theorem dX11_behind_5 : decode cX11_behind 5 = .ok (.invokevirtual 147, 3) := by decide +kernel
theorem dX11_behind_8 : decode cX11_behind 8 = .ok (.ifCond .ne 5, 3) := by decide +kernel
theorem dX11_behind_11 : decode cX11_behind 11 = .ok (.iconst (-1), 1) := by decide +kernel
theorem dX11_behind_12 : decode cX11_behind 12 = .ok (.ireturn, 1) := by decide +kernel
theorem dX11_behind_13 : decode cX11_behind 13 = .ok (.iload_n 2, 1) := by decide +kernel
theorem dX11_behind_14 : decode cX11_behind 14 = .ok (.iconst 0, 1) := by decide +kernel
theorem dX11_behind_15 : decode cX11_behind 15 = .ok (.iconst 2, 1) := by decide +kernel
theorem dX11_behind_16 : decode cX11_behind 16 = .ok (.invokestatic 82, 3) := by decide +kernel
theorem dX11_behind_19 : decode cX11_behind 19 = .ok (.ifCond .ne 6, 3) := by decide +kernel
theorem dX11_behind_22 : decode cX11_behind 22 = .ok (.bipush (-2), 2) := by decide +kernel
theorem dX11_behind_24 : decode cX11_behind 24 = .ok (.ireturn, 1) := by decide +kernel
theorem dX11_behind_25 : decode cX11_behind 25 = .ok (.aload_n 0, 1) := by decide +kernel
theorem dX11_behind_26 : decode cX11_behind 26 = .ok (.getfield 46, 3) := by decide +kernel
theorem dX11_behind_29 : decode cX11_behind 29 = .ok (.aload_n 0, 1) := by decide +kernel
theorem dX11_behind_30 : decode cX11_behind 30 = .ok (.getfield 33, 3) := by decide +kernel
theorem dX11_behind_33 : decode cX11_behind 33 = .ok (.aload_n 0, 1) := by decide +kernel
theorem dX11_behind_34 : decode cX11_behind 34 = .ok (.getfield 12, 3) := by decide +kernel
theorem dX11_behind_37 : decode cX11_behind 37 = .ok (.aload_n 0, 1) := by decide +kernel
theorem dX11_behind_38 : decode cX11_behind 38 = .ok (.getfield 19, 3) := by decide +kernel
theorem dX11_behind_41 : decode cX11_behind 41 = .ok (.invokevirtual 124, 3) := by decide +kernel
theorem dX11_behind_44 : decode cX11_behind 44 = .ok (.aload_n 0, 1) := by decide +kernel
theorem dX11_behind_45 : decode cX11_behind 45 = .ok (.getfield 46, 3) := by decide +kernel
theorem dX11_behind_48 : decode cX11_behind 48 = .ok (.invokevirtual 138, 3) := by decide +kernel
theorem dX11_behind_51 : decode cX11_behind 51 = .ok (.ifCond .ne 6, 3) := by decide +kernel
theorem dX11_behind_54 : decode cX11_behind 54 = .ok (.bipush (-5), 2) := by decide +kernel
theorem dX11_behind_56 : decode cX11_behind 56 = .ok (.ireturn, 1) := by decide +kernel
theorem dX11_behind_57 : decode cX11_behind 57 = .ok (.aload_n 0, 1) := by decide +kernel
theorem dX11_behind_58 : decode cX11_behind 58 = .ok (.getfield 46, 3) := by decide +kernel
theorem dX11_behind_61 : decode cX11_behind 61 = .ok (.getfield 142, 3) := by decide +kernel
theorem dX11_behind_64 : decode cX11_behind 64 = .ok (.iload_n 1, 1) := by decide +kernel
theorem dX11_behind_65 : decode cX11_behind 65 = .ok (.invokevirtual 147, 3) := by decide +kernel
theorem dX11_behind_68 : decode cX11_behind 68 = .ok (.ifCond .eq 18, 3) := by decide +kernel
theorem dX11_behind_71 : decode cX11_behind 71 = .ok (.aload_n 0, 1) := by decide +kernel
theorem dX11_behind_72 : decode cX11_behind 72 = .ok (.getfield 46, 3) := by decide +kernel
theorem dX11_behind_75 : decode cX11_behind 75 = .ok (.getfield 142, 3) := by decide +kernel
theorem dX11_behind_78 : decode cX11_behind 78 = .ok (.iload_n 1, 1) := by decide +kernel
theorem dX11_behind_79 : decode cX11_behind 79 = .ok (.iload_n 2, 1) := by decide +kernel
theorem dX11_behind_80 : decode cX11_behind 80 = .ok (.invokevirtual 150, 3) := by decide +kernel
theorem dX11_behind_83 : decode cX11_behind 83 = .ok (.goto 5, 3) := by decide +kernel
theorem dX11_behind_86 : decode cX11_behind 86 = .ok (.bipush (-6), 2) := by decide +kernel
theorem dX11_behind_88 : decode cX11_behind 88 = .ok (.ireturn, 1) := by decide +kernel
set_option maxRecDepth 20000 in
theorem ggX11_then_X11_within : GoodIn wsX11_then wsX11_within := goodIn_r _ [13] (by decide +kernel) (by decide +kernel)
set_option maxRecDepth 20000 in
theorem gX11_then_X11_within : GoodIn wsX11_then (va_wsS RX11 82 yX11_within wsX11_within) := goodIn_app (goodIn_of _ (by decide +kernel)) ggX11_then_X11_within
set_option maxRecDepth 20000 in
theorem ggX11_then_X10_run : GoodIn wsX11_then wsX10_run := goodIn_r _ [18, 19, 20, 21, 22, 23, 24, 25, 26, 27, 17, 28, 29, 30, 31, 32, 33, 34, 35, 36, 37, 38, 39, 40, 41, 42, 43, 44, 45, 46, 47, 48, 49, 50, 51, 52, 53, 54, 55, 56, 11, 12, 13, 57, 58, 59, 60, 61, 62, 63, 64, 65, 66, 67, 68, 69, 70, 71, 72, 73, 74, 75, 76, 77, 78, 79, 80, 81, 82, 83, 84, 85, 86, 87, 88, 89, 90, 91, 92, 93, 94, 95, 96, 97, 98, 99, 100, 101, 102, 103, 104, 105, 106, 107, 108, 109, 110, 111, 112, 113, 114, 115, 116, 117, 118, 119, 120, 121, 122, 123, 124, 125, 126, 127, 128, 129, 130, 131, 132, 133, 134, 135, 136, 137, 138, 139, 140, 141, 142, 143, 144, 145, 146, 147, 148, 149, 150, 151, 185, 186, 171, 172, 173, 174, 175, 176, 177, 178, 179, 180, 181, 182, 183, 184, 187, 188, 189, 190, 191] (by decide +kernel) (by decide +kernel)
set_option maxRecDepth 20000 in
theorem gX11_then_X10_run : GoodIn wsX11_then (wsV RX11 124 RX10 yX10_run wsX10_run) := goodIn_app (goodIn_of _ (by decide +kernel)) ggX11_then_X10_run
set_option maxRecDepth 20000 in
theorem ggX11_then_X10_allCanBe : GoodIn wsX11_then wsX10_allCanBe := goodIn_r _ [155, 20, 23, 171, 172, 173, 174, 175, 176, 177] (by decide +kernel) (by decide +kernel)
set_option maxRecDepth 20000 in
theorem gX11_then_X10_allCanBe : GoodIn wsX11_then (wsV RX11 138 RX10 yX10_allCanBe wsX10_allCanBe) := goodIn_app (goodIn_of _ (by decide +kernel)) ggX11_then_X10_allCanBe
set_option maxRecDepth 20000 in
theorem ggX11_then_X8_headsOnSideOne : GoodIn wsX11_then wsX8_headsOnSideOne := goodIn_r _ [159, 41, 40, 98, 99, 100, 35, 101, 37, 178, 179, 180, 181, 182, 183, 184] (by decide +kernel) (by decide +kernel)
set_option maxRecDepth 20000 in
theorem gX11_then_X8_headsOnSideOne : GoodIn wsX11_then (wsV RX11 154 RX8 yX8_headsOnSideOne wsX8_headsOnSideOne) := goodIn_app (goodIn_of _ (by decide +kernel)) ggX11_then_X8_headsOnSideOne
theorem dX11_then_0 : decode cX11_then 0 = .ok (.iload_n 1, 1) := by decide +kernel
theorem dX11_then_1 : decode cX11_then 1 = .ok (.iconst 0, 1) := by decide +kernel
theorem dX11_then_2 : decode cX11_then 2 = .ok (.iconst 4, 1) := by decide +kernel
theorem dX11_then_3 : decode cX11_then 3 = .ok (.invokestatic 82, 3) := by decide +kernel
theorem dX11_then_6 : decode cX11_then 6 = .ok (.ifCond .ne 6, 3) := by decide +kernel
theorem dX11_then_9 : decode cX11_then 9 = .ok (.bipush (-2), 2) := by decide +kernel
theorem dX11_then_11 : decode cX11_then 11 = .ok (.ireturn, 1) := by decide +kernel
theorem dX11_then_12 : decode cX11_then 12 = .ok (.aload_n 0, 1) := by decide +kernel
theorem dX11_then_13 : decode cX11_then 13 = .ok (.getfield 46, 3) := by decide +kernel
theorem dX11_then_16 : decode cX11_then 16 = .ok (.aload_n 0, 1) := by decide +kernel
theorem dX11_then_17 : decode cX11_then 17 = .ok (.getfield 33, 3) := by decide +kernel
theorem dX11_then_20 : decode cX11_then 20 = .ok (.aload_n 0, 1) := by decide +kernel
theorem dX11_then_21 : decode cX11_then 21 = .ok (.getfield 12, 3) := by decide +kernel
theorem dX11_then_24 : decode cX11_then 24 = .ok (.aload_n 0, 1) := by decide +kernel
theorem dX11_then_25 : decode cX11_then 25 = .ok (.getfield 19, 3) := by decide +kernel
theorem dX11_then_28 : decode cX11_then 28 = .ok (.invokevirtual 124, 3) := by decide +kernel
theorem dX11_then_31 : decode cX11_then 31 = .ok (.aload_n 0, 1) := by decide +kernel
theorem dX11_then_32 : decode cX11_then 32 = .ok (.getfield 46, 3) := by decide +kernel
theorem dX11_then_35 : decode cX11_then 35 = .ok (.invokevirtual 138, 3) := by decide +kernel
theorem dX11_then_38 : decode cX11_then 38 = .ok (.ifCond .ne 6, 3) := by decide +kernel
theorem dX11_then_41 : decode cX11_then 41 = .ok (.bipush (-5), 2) := by decide +kernel
theorem dX11_then_43 : decode cX11_then 43 = .ok (.ireturn, 1) := by decide +kernel
theorem dX11_then_44 : decode cX11_then 44 = .ok (.iload_n 1, 1) := by decide +kernel
theorem dX11_then_45 : decode cX11_then 45 = .ok (.tableswitch 72 0 3 #[31, 42, 53, 64], 31) := by decide +kernel
theorem dX11_then_76 : decode cX11_then 76 = .ok (.aload_n 0, 1) := by decide +kernel
theorem dX11_then_77 : decode cX11_then 77 = .ok (.getfield 46, 3) := by decide +kernel
theorem dX11_then_80 : decode cX11_then 80 = .ok (.getfield 142, 3) := by decide +kernel
theorem dX11_then_83 : decode cX11_then 83 = .ok (.invokevirtual 154, 3) := by decide +kernel
theorem dX11_then_86 : decode cX11_then 86 = .ok (.ireturn, 1) := by decide +kernel
theorem dX11_then_87 : decode cX11_then 87 = .ok (.aload_n 0, 1) := by decide +kernel
theorem dX11_then_88 : decode cX11_then 88 = .ok (.getfield 46, 3) := by decide +kernel
theorem dX11_then_91 : decode cX11_then 91 = .ok (.getfield 142, 3) := by decide +kernel
theorem dX11_then_94 : decode cX11_then 94 = .ok (.getfield 157, 3) := by decide +kernel
theorem dX11_then_97 : decode cX11_then 97 = .ok (.ireturn, 1) := by decide +kernel
theorem dX11_then_98 : decode cX11_then 98 = .ok (.aload_n 0, 1) := by decide +kernel
theorem dX11_then_99 : decode cX11_then 99 = .ok (.getfield 46, 3) := by decide +kernel
theorem dX11_then_102 : decode cX11_then 102 = .ok (.getfield 142, 3) := by decide +kernel
theorem dX11_then_105 : decode cX11_then 105 = .ok (.getfield 160, 3) := by decide +kernel
theorem dX11_then_108 : decode cX11_then 108 = .ok (.ireturn, 1) := by decide +kernel
theorem dX11_then_109 : decode cX11_then 109 = .ok (.aload_n 0, 1) := by decide +kernel
theorem dX11_then_110 : decode cX11_then 110 = .ok (.getfield 46, 3) := by decide +kernel
theorem dX11_then_113 : decode cX11_then 113 = .ok (.getfield 163, 3) := by decide +kernel
theorem dX11_then_116 : decode cX11_then 116 = .ok (.ireturn, 1) := by decide +kernel
theorem dX11_then_117 : decode cX11_then 117 = .ok (.aload_n 0, 1) := by decide +kernel
theorem dX11_then_118 : decode cX11_then 118 = .ok (.getfield 46, 3) := by decide +kernel
theorem dX11_then_121 : decode cX11_then 121 = .ok (.getfield 166, 3) := by decide +kernel
theorem dX11_then_124 : decode cX11_then 124 = .ok (.ireturn, 1) := by decide +kernel
set_option maxRecDepth 20000 in
theorem ggX11_who_X11_within : GoodIn wsX11_who wsX11_within := goodIn_r _ [7] (by decide +kernel) (by decide +kernel)
set_option maxRecDepth 20000 in
theorem gX11_who_X11_within : GoodIn wsX11_who (va_wsS RX11 82 yX11_within wsX11_within) := goodIn_app (goodIn_of _ (by decide +kernel)) ggX11_who_X11_within
set_option maxRecDepth 20000 in
theorem ggX11_who_X8_signers : GoodIn wsX11_who wsX8_signers := goodIn_r _ [12, 13, 14, 15, 16, 11, 17, 18, 19, 20, 21, 22, 23, 24, 25, 39, 40, 41, 42, 43, 44, 45] (by decide +kernel) (by decide +kernel)
set_option maxRecDepth 20000 in
theorem gX11_who_X8_signers : GoodIn wsX11_who (wsV RX11 169 RX8 yX8_signers wsX8_signers) := goodIn_app (goodIn_of _ (by decide +kernel)) ggX11_who_X8_signers
theorem dX11_who_0 : decode cX11_who 0 = .ok (.iload_n 1, 1) := by decide +kernel
theorem dX11_who_1 : decode cX11_who 1 = .ok (.iconst 0, 1) := by decide +kernel
theorem dX11_who_2 : decode cX11_who 2 = .ok (.bipush 9, 2) := by decide +kernel
theorem dX11_who_4 : decode cX11_who 4 = .ok (.invokestatic 82, 3) := by decide +kernel
theorem dX11_who_7 : decode cX11_who 7 = .ok (.ifCond .ne 5, 3) := by decide +kernel
theorem dX11_who_10 : decode cX11_who 10 = .ok (.iconst (-1), 1) := by decide +kernel
theorem dX11_who_11 : decode cX11_who 11 = .ok (.ireturn, 1) := by decide +kernel
theorem dX11_who_12 : decode cX11_who 12 = .ok (.aload_n 0, 1) := by decide +kernel
theorem dX11_who_13 : decode cX11_who 13 = .ok (.getfield 12, 3) := by decide +kernel
theorem dX11_who_16 : decode cX11_who 16 = .ok (.aload_n 0, 1) := by decide +kernel
theorem dX11_who_17 : decode cX11_who 17 = .ok (.getfield 19, 3) := by decide +kernel
theorem dX11_who_20 : decode cX11_who 20 = .ok (.getfield 100, 3) := by decide +kernel
theorem dX11_who_23 : decode cX11_who 23 = .ok (.iload_n 1, 1) := by decide +kernel
theorem dX11_who_24 : decode cX11_who 24 = .ok (.iaload, 1) := by decide +kernel
theorem dX11_who_25 : decode cX11_who 25 = .ok (.invokevirtual 169, 3) := by decide +kernel
theorem dX11_who_28 : decode cX11_who 28 = .ok (.ireturn, 1) := by decide +kernel
set_option maxRecDepth 20000 in
theorem ggX11_bring_X8_isThere : GoodIn wsX11_bring wsX8_isThere := goodIn_r _ [10, 11, 91, 92, 93, 94, 95, 96, 97] (by decide +kernel) (by decide +kernel)
set_option maxRecDepth 20000 in
theorem gX11_bring_X8_isThere : GoodIn wsX11_bring (wsV RX11 147 RX8 yX8_isThere wsX8_isThere) := goodIn_app (goodIn_of _ (by decide +kernel)) ggX11_bring_X8_isThere
set_option maxRecDepth 20000 in
theorem ggX11_bring_X11_within : GoodIn wsX11_bring wsX11_within := goodIn_r _ [15] (by decide +kernel) (by decide +kernel)
set_option maxRecDepth 20000 in
theorem gX11_bring_X11_within : GoodIn wsX11_bring (va_wsS RX11 82 yX11_within wsX11_within) := goodIn_app (goodIn_of _ (by decide +kernel)) ggX11_bring_X11_within
set_option maxRecDepth 20000 in
theorem ggX11_bring_X1_begin : GoodIn wsX11_bring wsX1_begin := goodIn_r _ [20, 21, 22, 23, 24, 25, 26, 27, 28, 29, 30, 31, 9, 32, 33, 34, 35, 36, 7, 8, 10, 11, 37, 38, 19, 39, 40, 41, 42, 43, 44, 45, 46, 47, 48, 13, 14, 15, 83, 84, 85, 86, 87, 88, 89, 90, 91, 92, 93, 94, 95, 96, 97] (by decide +kernel) (by decide +kernel)
set_option maxRecDepth 20000 in
theorem gX11_bring_X1_begin : GoodIn wsX11_bring (wsV RX11 172 RX1 yX1_begin wsX1_begin) := goodIn_app (goodIn_of _ (by decide +kernel)) ggX11_bring_X1_begin
set_option maxRecDepth 20000 in
theorem ggX11_bring_X1_search : GoodIn wsX11_bring wsX1_search := goodIn_r _ [52, 53, 54, 22, 48, 21, 47, 13, 14, 15, 55, 56, 57, 19, 58, 23, 24, 59, 60, 61, 62, 63, 64, 65, 66, 67, 68, 69, 70, 71, 43, 44, 45, 46, 83, 84, 85, 86, 87, 88, 89, 90, 98, 99] (by decide +kernel) (by decide +kernel)
set_option maxRecDepth 20000 in
theorem gX11_bring_X1_search : GoodIn wsX11_bring (wsV RX11 176 RX1 yX1_search wsX1_search) := goodIn_app (goodIn_of _ (by decide +kernel)) ggX11_bring_X1_search
theorem dX11_bring_0 : decode cX11_bring 0 = .ok (.aload_n 0, 1) := by decide +kernel
theorem dX11_bring_1 : decode cX11_bring 1 = .ok (.getfield 12, 3) := by decide +kernel
theorem dX11_bring_4 : decode cX11_bring 4 = .ok (.iload_n 1, 1) := by decide +kernel
theorem dX11_bring_5 : decode cX11_bring 5 = .ok (.invokevirtual 147, 3) := by decide +kernel
theorem dX11_bring_8 : decode cX11_bring 8 = .ok (.ifCond .eq 19, 3) := by decide +kernel
theorem dX11_bring_11 : decode cX11_bring 11 = .ok (.aload_n 0, 1) := by decide +kernel
theorem dX11_bring_12 : decode cX11_bring 12 = .ok (.getfield 12, 3) := by decide +kernel
theorem dX11_bring_15 : decode cX11_bring 15 = .ok (.iload_n 3, 1) := by decide +kernel
theorem dX11_bring_16 : decode cX11_bring 16 = .ok (.invokevirtual 147, 3) := by decide +kernel
theorem dX11_bring_19 : decode cX11_bring 19 = .ok (.ifCond .eq 8, 3) := by decide +kernel
theorem dX11_bring_22 : decode cX11_bring 22 = .ok (.iload_n 1, 1) := by decide +kernel
theorem dX11_bring_23 : decode cX11_bring 23 = .ok (.iload_n 3, 1) := by decide +kernel
theorem dX11_bring_24 : decode cX11_bring 24 = .ok (.if_icmp .ne 5, 3) := by decide +kernel
theorem dX11_bring_27 : decode cX11_bring 27 = .ok (.iconst (-1), 1) := by decide +kernel
theorem dX11_bring_28 : decode cX11_bring 28 = .ok (.ireturn, 1) := by decide +kernel
theorem dX11_bring_29 : decode cX11_bring 29 = .ok (.iload_n 2, 1) := by decide +kernel
theorem dX11_bring_30 : decode cX11_bring 30 = .ok (.iconst 0, 1) := by decide +kernel
theorem dX11_bring_31 : decode cX11_bring 31 = .ok (.iconst 1, 1) := by decide +kernel
theorem dX11_bring_32 : decode cX11_bring 32 = .ok (.invokestatic 82, 3) := by decide +kernel
theorem dX11_bring_35 : decode cX11_bring 35 = .ok (.ifCond .eq 23, 3) := by decide +kernel
theorem dX11_bring_38 : decode cX11_bring 38 = .ok (.iload 4, 2) := by decide +kernel
theorem dX11_bring_40 : decode cX11_bring 40 = .ok (.iconst 0, 1) := by decide +kernel
theorem dX11_bring_41 : decode cX11_bring 41 = .ok (.iconst 1, 1) := by decide +kernel
theorem dX11_bring_42 : decode cX11_bring 42 = .ok (.invokestatic 82, 3) := by decide +kernel
theorem dX11_bring_45 : decode cX11_bring 45 = .ok (.ifCond .eq 13, 3) := by decide +kernel
theorem dX11_bring_48 : decode cX11_bring 48 = .ok (.iload 5, 2) := by decide +kernel
theorem dX11_bring_50 : decode cX11_bring 50 = .ok (.iconst 0, 1) := by decide +kernel
theorem dX11_bring_51 : decode cX11_bring 51 = .ok (.iconst 1, 1) := by decide +kernel
theorem dX11_bring_52 : decode cX11_bring 52 = .ok (.invokestatic 82, 3) := by decide +kernel
theorem dX11_bring_55 : decode cX11_bring 55 = .ok (.ifCond .ne 6, 3) := by decide +kernel
theorem dX11_bring_58 : decode cX11_bring 58 = .ok (.bipush (-2), 2) := by decide +kernel
theorem dX11_bring_60 : decode cX11_bring 60 = .ok (.ireturn, 1) := by decide +kernel
theorem dX11_bring_61 : decode cX11_bring 61 = .ok (.aload_n 0, 1) := by decide +kernel
theorem dX11_bring_62 : decode cX11_bring 62 = .ok (.getfield 53, 3) := by decide +kernel
theorem dX11_bring_65 : decode cX11_bring 65 = .ok (.aload_n 0, 1) := by decide +kernel
theorem dX11_bring_66 : decode cX11_bring 66 = .ok (.getfield 12, 3) := by decide +kernel
theorem dX11_bring_69 : decode cX11_bring 69 = .ok (.iload_n 1, 1) := by decide +kernel
theorem dX11_bring_70 : decode cX11_bring 70 = .ok (.iload_n 3, 1) := by decide +kernel
theorem dX11_bring_71 : decode cX11_bring 71 = .ok (.invokevirtual 172, 3) := by decide +kernel
theorem dX11_bring_74 : decode cX11_bring 74 = .ok (.aload_n 0, 1) := by decide +kernel
theorem dX11_bring_75 : decode cX11_bring 75 = .ok (.getfield 53, 3) := by decide +kernel
theorem dX11_bring_78 : decode cX11_bring 78 = .ok (.aload_n 0, 1) := by decide +kernel
theorem dX11_bring_79 : decode cX11_bring 79 = .ok (.getfield 19, 3) := by decide +kernel
theorem dX11_bring_82 : decode cX11_bring 82 = .ok (.iload_n 2, 1) := by decide +kernel
theorem dX11_bring_83 : decode cX11_bring 83 = .ok (.iload 4, 2) := by decide +kernel
theorem dX11_bring_85 : decode cX11_bring 85 = .ok (.invokevirtual 176, 3) := by decide +kernel
theorem dX11_bring_88 : decode cX11_bring 88 = .ok (.iload 5, 2) := by decide +kernel
theorem dX11_bring_90 : decode cX11_bring 90 = .ok (.ifCond .ne 13, 3) := by decide +kernel
theorem dX11_bring_93 : decode cX11_bring 93 = .ok (.aload_n 0, 1) := by decide +kernel
theorem dX11_bring_94 : decode cX11_bring 94 = .ok (.getfield 53, 3) := by decide +kernel
theorem dX11_bring_97 : decode cX11_bring 97 = .ok (.getfield 180, 3) := by decide +kernel
theorem dX11_bring_100 : decode cX11_bring 100 = .ok (.goto 10, 3) := by decide +kernel
theorem dX11_bring_103 : decode cX11_bring 103 = .ok (.aload_n 0, 1) := by decide +kernel
theorem dX11_bring_104 : decode cX11_bring 104 = .ok (.getfield 53, 3) := by decide +kernel
theorem dX11_bring_107 : decode cX11_bring 107 = .ok (.getfield 183, 3) := by decide +kernel
theorem dX11_bring_110 : decode cX11_bring 110 = .ok (.ireturn, 1) := by decide +kernel
set_option maxRecDepth 20000 in
theorem ggX11_drop_X11_within : GoodIn wsX11_drop wsX11_within := goodIn_r _ [5] (by decide +kernel) (by decide +kernel)
set_option maxRecDepth 20000 in
theorem gX11_drop_X11_within : GoodIn wsX11_drop (va_wsS RX11 82 yX11_within wsX11_within) := goodIn_app (goodIn_of _ (by decide +kernel)) ggX11_drop_X11_within
set_option maxRecDepth 20000 in
theorem ggX11_drop_X9_leastToDrop : GoodIn wsX11_drop wsX9_leastToDrop := goodIn_r _ [10, 11, 12, 13, 14, 15, 16, 17, 18, 19, 20, 9, 21, 22, 23, 4, 24, 37, 38] (by decide +kernel) (by decide +kernel)
set_option maxRecDepth 20000 in
theorem gX11_drop_X9_leastToDrop : GoodIn wsX11_drop (wsV RX11 186 RX9 yX9_leastToDrop wsX9_leastToDrop) := goodIn_app (goodIn_of _ (by decide +kernel)) ggX11_drop_X9_leastToDrop
set_option maxRecDepth 20000 in
theorem ggX11_drop_J6_bitCount_0f7a4 : GoodIn wsX11_drop wsJ6_bitCount_0f7a4 := goodIn_r _ [14, 15, 16, 17] (by decide +kernel) (by decide +kernel)
set_option maxRecDepth 20000 in
theorem gX11_drop_J6_bitCount_0f7a4 : GoodIn wsX11_drop (va_wsS RX11 94 yJ6_bitCount_0f7a4 wsJ6_bitCount_0f7a4) := goodIn_app (goodIn_of _ (by decide +kernel)) ggX11_drop_J6_bitCount_0f7a4
theorem dX11_drop_0 : decode cX11_drop 0 = .ok (.iload_n 1, 1) := by decide +kernel
theorem dX11_drop_1 : decode cX11_drop 1 = .ok (.iconst 0, 1) := by decide +kernel
theorem dX11_drop_2 : decode cX11_drop 2 = .ok (.sipush 1023, 3) := by decide +kernel
theorem dX11_drop_5 : decode cX11_drop 5 = .ok (.invokestatic 82, 3) := by decide +kernel
theorem dX11_drop_8 : decode cX11_drop 8 = .ok (.ifCond .eq 12, 3) := by decide +kernel
theorem dX11_drop_11 : decode cX11_drop 11 = .ok (.iload_n 2, 1) := by decide +kernel
theorem dX11_drop_12 : decode cX11_drop 12 = .ok (.iconst 0, 1) := by decide +kernel
theorem dX11_drop_13 : decode cX11_drop 13 = .ok (.iconst 1, 1) := by decide +kernel
theorem dX11_drop_14 : decode cX11_drop 14 = .ok (.invokestatic 82, 3) := by decide +kernel
theorem dX11_drop_17 : decode cX11_drop 17 = .ok (.ifCond .ne 6, 3) := by decide +kernel
theorem dX11_drop_20 : decode cX11_drop 20 = .ok (.bipush (-2), 2) := by decide +kernel
theorem dX11_drop_22 : decode cX11_drop 22 = .ok (.ireturn, 1) := by decide +kernel
theorem dX11_drop_23 : decode cX11_drop 23 = .ok (.aload_n 0, 1) := by decide +kernel
theorem dX11_drop_24 : decode cX11_drop 24 = .ok (.getfield 19, 3) := by decide +kernel
theorem dX11_drop_27 : decode cX11_drop 27 = .ok (.iload_n 1, 1) := by decide +kernel
theorem dX11_drop_28 : decode cX11_drop 28 = .ok (.invokevirtual 186, 3) := by decide +kernel
theorem dX11_drop_31 : decode cX11_drop 31 = .ok (.istore_n 3, 1) := by decide +kernel
theorem dX11_drop_32 : decode cX11_drop 32 = .ok (.iload_n 2, 1) := by decide +kernel
theorem dX11_drop_33 : decode cX11_drop 33 = .ok (.ifCond .ne 10, 3) := by decide +kernel
theorem dX11_drop_36 : decode cX11_drop 36 = .ok (.iload_n 3, 1) := by decide +kernel
theorem dX11_drop_37 : decode cX11_drop 37 = .ok (.invokestatic 94, 3) := by decide +kernel
theorem dX11_drop_40 : decode cX11_drop 40 = .ok (.goto 4, 3) := by decide +kernel
theorem dX11_drop_43 : decode cX11_drop 43 = .ok (.iload_n 3, 1) := by decide +kernel
theorem dX11_drop_44 : decode cX11_drop 44 = .ok (.ireturn, 1) := by decide +kernel
set_option maxRecDepth 20000 in
theorem ggX11_share_X8_isThere : GoodIn wsX11_share wsX8_isThere := goodIn_r _ [7, 8, 38, 39, 40, 41, 42, 43, 44] (by decide +kernel) (by decide +kernel)
set_option maxRecDepth 20000 in
theorem gX11_share_X8_isThere : GoodIn wsX11_share (wsV RX11 147 RX8 yX8_isThere wsX8_isThere) := goodIn_app (goodIn_of _ (by decide +kernel)) ggX11_share_X8_isThere
set_option maxRecDepth 20000 in
theorem ggX11_share_X11_within : GoodIn wsX11_share wsX11_within := goodIn_r _ [12] (by decide +kernel) (by decide +kernel)
set_option maxRecDepth 20000 in
theorem gX11_share_X11_within : GoodIn wsX11_share (va_wsS RX11 82 yX11_within wsX11_within) := goodIn_app (goodIn_of _ (by decide +kernel)) ggX11_share_X11_within
set_option maxRecDepth 20000 in
theorem ggX11_share_X8_hasHeads : GoodIn wsX11_share wsX8_hasHeads := goodIn_r _ [16, 17, 18, 4, 5, 6, 7, 8, 38, 39, 40, 41, 42, 43, 44] (by decide +kernel) (by decide +kernel)
set_option maxRecDepth 20000 in
theorem gX11_share_X8_hasHeads : GoodIn wsX11_share (wsV RX11 189 RX8 yX8_hasHeads wsX8_hasHeads) := goodIn_app (goodIn_of _ (by decide +kernel)) ggX11_share_X8_hasHeads
set_option maxRecDepth 20000 in
theorem ggX11_share_J7_fill_53178 : GoodIn wsX11_share wsJ7_fill_53178 := goodIn_r _ [22] (by decide +kernel) (by decide +kernel)
set_option maxRecDepth 20000 in
theorem gX11_share_J7_fill_53178 : GoodIn wsX11_share (va_wsS RX11 192 yJ7_fill_53178 wsJ7_fill_53178) := goodIn_app (goodIn_of _ (by decide +kernel)) ggX11_share_J7_fill_53178
set_option maxRecDepth 20000 in
theorem ggX11_share_X8_nextToGet : GoodIn wsX11_share wsX8_nextToGet := goodIn_r _ [26, 17, 18, 4, 5, 6, 7, 8, 38, 39, 40, 41, 42, 43, 44] (by decide +kernel) (by decide +kernel)
set_option maxRecDepth 20000 in
theorem gX11_share_X8_nextToGet : GoodIn wsX11_share (wsV RX11 198 RX8 yX8_nextToGet wsX8_nextToGet) := goodIn_app (goodIn_of _ (by decide +kernel)) ggX11_share_X8_nextToGet
theorem dX11_share_0 : decode cX11_share 0 = .ok (.aload_n 0, 1) := by decide +kernel
theorem dX11_share_1 : decode cX11_share 1 = .ok (.getfield 12, 3) := by decide +kernel
theorem dX11_share_4 : decode cX11_share 4 = .ok (.iload_n 1, 1) := by decide +kernel
theorem dX11_share_5 : decode cX11_share 5 = .ok (.invokevirtual 147, 3) := by decide +kernel
theorem dX11_share_8 : decode cX11_share 8 = .ok (.ifCond .ne 5, 3) := by decide +kernel
theorem dX11_share_11 : decode cX11_share 11 = .ok (.iconst (-1), 1) := by decide +kernel
theorem dX11_share_12 : decode cX11_share 12 = .ok (.ireturn, 1) := by decide +kernel
theorem dX11_share_13 : decode cX11_share 13 = .ok (.iload_n 2, 1) := by decide +kernel
theorem dX11_share_14 : decode cX11_share 14 = .ok (.iconst 0, 1) := by decide +kernel
theorem dX11_share_15 : decode cX11_share 15 = .ok (.bipush 99, 2) := by decide +kernel
theorem dX11_share_17 : decode cX11_share 17 = .ok (.invokestatic 82, 3) := by decide +kernel
theorem dX11_share_20 : decode cX11_share 20 = .ok (.ifCond .ne 6, 3) := by decide +kernel
theorem dX11_share_23 : decode cX11_share 23 = .ok (.bipush (-2), 2) := by decide +kernel
theorem dX11_share_25 : decode cX11_share 25 = .ok (.ireturn, 1) := by decide +kernel
theorem dX11_share_26 : decode cX11_share 26 = .ok (.aload_n 0, 1) := by decide +kernel
theorem dX11_share_27 : decode cX11_share 27 = .ok (.getfield 12, 3) := by decide +kernel
theorem dX11_share_30 : decode cX11_share 30 = .ok (.invokevirtual 189, 3) := by decide +kernel
theorem dX11_share_33 : decode cX11_share 33 = .ok (.ifCond .ne 6, 3) := by decide +kernel
theorem dX11_share_36 : decode cX11_share 36 = .ok (.bipush (-6), 2) := by decide +kernel
theorem dX11_share_38 : decode cX11_share 38 = .ok (.ireturn, 1) := by decide +kernel
theorem dX11_share_39 : decode cX11_share 39 = .ok (.aload_n 0, 1) := by decide +kernel
theorem dX11_share_40 : decode cX11_share 40 = .ok (.getfield 78, 3) := by decide +kernel
theorem dX11_share_43 : decode cX11_share 43 = .ok (.iconst 0, 1) := by decide +kernel
theorem dX11_share_44 : decode cX11_share 44 = .ok (.invokestatic 192, 3) := by decide +kernel
theorem dX11_share_47 : decode cX11_share 47 = .ok (.iconst 0, 1) := by decide +kernel
theorem dX11_share_48 : decode cX11_share 48 = .ok (.istore_n 3, 1) := by decide +kernel
theorem dX11_share_49 : decode cX11_share 49 = .ok (.iload_n 3, 1) := by decide +kernel
theorem dX11_share_50 : decode cX11_share 50 = .ok (.iload_n 2, 1) := by decide +kernel
theorem dX11_share_51 : decode cX11_share 51 = .ok (.if_icmp .ge 43, 3) := by decide +kernel
theorem dX11_share_54 : decode cX11_share 54 = .ok (.aload_n 0, 1) := by decide +kernel
theorem dX11_share_55 : decode cX11_share 55 = .ok (.getfield 12, 3) := by decide +kernel
theorem dX11_share_58 : decode cX11_share 58 = .ok (.aload_n 0, 1) := by decide +kernel
theorem dX11_share_59 : decode cX11_share 59 = .ok (.getfield 78, 3) := by decide +kernel
theorem dX11_share_62 : decode cX11_share 62 = .ok (.invokevirtual 198, 3) := by decide +kernel
theorem dX11_share_65 : decode cX11_share 65 = .ok (.istore 4, 2) := by decide +kernel
theorem dX11_share_67 : decode cX11_share 67 = .ok (.iload 4, 2) := by decide +kernel
theorem dX11_share_69 : decode cX11_share 69 = .ok (.iconst 0, 1) := by decide +kernel
theorem dX11_share_70 : decode cX11_share 70 = .ok (.iconst 5, 1) := by decide +kernel
theorem dX11_share_71 : decode cX11_share 71 = .ok (.invokestatic 82, 3) := by decide +kernel
theorem dX11_share_74 : decode cX11_share 74 = .ok (.ifCond .eq 14, 3) := by decide +kernel
theorem dX11_share_77 : decode cX11_share 77 = .ok (.aload_n 0, 1) := by decide +kernel
theorem dX11_share_78 : decode cX11_share 78 = .ok (.getfield 78, 3) := by decide +kernel
theorem dX11_share_81 : decode cX11_share 81 = .ok (.iload 4, 2) := by decide +kernel
theorem dX11_share_83 : decode cX11_share 83 = .ok (.dup2, 1) := by decide +kernel
theorem dX11_share_84 : decode cX11_share 84 = .ok (.iaload, 1) := by decide +kernel
theorem dX11_share_85 : decode cX11_share 85 = .ok (.iconst 1, 1) := by decide +kernel
theorem dX11_share_86 : decode cX11_share 86 = .ok (.iadd, 1) := by decide +kernel
theorem dX11_share_87 : decode cX11_share 87 = .ok (.iastore, 1) := by decide +kernel
theorem dX11_share_88 : decode cX11_share 88 = .ok (.iinc 3 1, 3) := by decide +kernel
theorem dX11_share_91 : decode cX11_share 91 = .ok (.goto (-42), 3) := by decide +kernel
theorem dX11_share_94 : decode cX11_share 94 = .ok (.aload_n 0, 1) := by decide +kernel
theorem dX11_share_95 : decode cX11_share 95 = .ok (.getfield 78, 3) := by decide +kernel
theorem dX11_share_98 : decode cX11_share 98 = .ok (.iload_n 1, 1) := by decide +kernel
theorem dX11_share_99 : decode cX11_share 99 = .ok (.iaload, 1) := by decide +kernel
theorem dX11_share_100 : decode cX11_share 100 = .ok (.ireturn, 1) := by decide +kernel
set_option maxRecDepth 20000 in
theorem ggX11_waiting_X11_waitIsAsTold : GoodIn wsX11_waiting wsX11_waitIsAsTold := goodIn_r _ [6, 7, 8, 5, 9] (by decide +kernel) (by decide +kernel)
set_option maxRecDepth 20000 in
theorem gX11_waiting_X11_waitIsAsTold : GoodIn wsX11_waiting (va_wsS RX11 202 yX11_waitIsAsTold wsX11_waitIsAsTold) := goodIn_app (goodIn_of _ (by decide +kernel)) ggX11_waiting_X11_waitIsAsTold
set_option maxRecDepth 20000 in
theorem ggX11_waiting_X11_within : GoodIn wsX11_waiting wsX11_within := goodIn_r _ [9] (by decide +kernel) (by decide +kernel)
set_option maxRecDepth 20000 in
theorem gX11_waiting_X11_within : GoodIn wsX11_waiting (va_wsS RX11 82 yX11_within wsX11_within) := goodIn_app (goodIn_of _ (by decide +kernel)) ggX11_waiting_X11_within
set_option maxRecDepth 20000 in
theorem ggX11_waiting_X2_setWaiting : GoodIn wsX11_waiting wsX2_setWaiting := goodIn_r _ [14, 15, 16, 17, 18, 19, 20, 21, 22, 23, 13, 24, 25, 26, 27, 43, 44] (by decide +kernel) (by decide +kernel)
set_option maxRecDepth 20000 in
theorem gX11_waiting_X2_setWaiting : GoodIn wsX11_waiting (wsV RX11 208 RX2 yX2_setWaiting wsX2_setWaiting) := goodIn_app (goodIn_of _ (by decide +kernel)) ggX11_waiting_X2_setWaiting
set_option maxRecDepth 20000 in
theorem ggX11_waiting_X2_part : GoodIn wsX11_waiting wsX2_part := goodIn_r _ [31, 15, 16, 43, 44] (by decide +kernel) (by decide +kernel)
set_option maxRecDepth 20000 in
theorem gX11_waiting_X2_part : GoodIn wsX11_waiting (wsV RX11 212 RX2 yX2_part wsX2_part) := goodIn_app (goodIn_of _ (by decide +kernel)) ggX11_waiting_X2_part
theorem dX11_waiting_0 : decode cX11_waiting 0 = .ok (.iload_n 1, 1) := by decide +kernel
theorem dX11_waiting_1 : decode cX11_waiting 1 = .ok (.iload_n 2, 1) := by decide +kernel
theorem dX11_waiting_2 : decode cX11_waiting 2 = .ok (.invokestatic 202, 3) := by decide +kernel
theorem dX11_waiting_5 : decode cX11_waiting 5 = .ok (.ifCond .eq 12, 3) := by decide +kernel
theorem dX11_waiting_8 : decode cX11_waiting 8 = .ok (.iload_n 3, 1) := by decide +kernel
theorem dX11_waiting_9 : decode cX11_waiting 9 = .ok (.iconst 0, 1) := by decide +kernel
theorem dX11_waiting_10 : decode cX11_waiting 10 = .ok (.iconst 1, 1) := by decide +kernel
theorem dX11_waiting_11 : decode cX11_waiting 11 = .ok (.invokestatic 82, 3) := by decide +kernel
theorem dX11_waiting_14 : decode cX11_waiting 14 = .ok (.ifCond .ne 7, 3) := by decide +kernel
theorem dX11_waiting_17 : decode cX11_waiting 17 = .ok (.ldc2_w 206, 3) := by decide +kernel
theorem dX11_waiting_20 : decode cX11_waiting 20 = .ok (.lreturn, 1) := by decide +kernel
theorem dX11_waiting_21 : decode cX11_waiting 21 = .ok (.aload_n 0, 1) := by decide +kernel
theorem dX11_waiting_22 : decode cX11_waiting 22 = .ok (.getfield 74, 3) := by decide +kernel
theorem dX11_waiting_25 : decode cX11_waiting 25 = .ok (.iload_n 1, 1) := by decide +kernel
theorem dX11_waiting_26 : decode cX11_waiting 26 = .ok (.iload_n 2, 1) := by decide +kernel
theorem dX11_waiting_27 : decode cX11_waiting 27 = .ok (.invokevirtual 208, 3) := by decide +kernel
theorem dX11_waiting_30 : decode cX11_waiting 30 = .ok (.aload_n 0, 1) := by decide +kernel
theorem dX11_waiting_31 : decode cX11_waiting 31 = .ok (.getfield 74, 3) := by decide +kernel
theorem dX11_waiting_34 : decode cX11_waiting 34 = .ok (.iload_n 3, 1) := by decide +kernel
theorem dX11_waiting_35 : decode cX11_waiting 35 = .ok (.invokevirtual 212, 3) := by decide +kernel
theorem dX11_waiting_38 : decode cX11_waiting 38 = .ok (.lreturn, 1) := by decide +kernel
set_option maxRecDepth 20000 in
theorem ggX11_reads_X11_waitIsAsTold : GoodIn wsX11_reads wsX11_waitIsAsTold := goodIn_r _ [5, 6, 7, 4, 8] (by decide +kernel) (by decide +kernel)
set_option maxRecDepth 20000 in
theorem gX11_reads_X11_waitIsAsTold : GoodIn wsX11_reads (va_wsS RX11 202 yX11_waitIsAsTold wsX11_waitIsAsTold) := goodIn_app (goodIn_of _ (by decide +kernel)) ggX11_reads_X11_waitIsAsTold
set_option maxRecDepth 20000 in
theorem ggX11_reads_X2_setWaiting : GoodIn wsX11_reads wsX2_setWaiting := goodIn_r _ [13, 14, 15, 16, 17, 18, 19, 20, 21, 22, 12, 23, 24, 25, 26, 42, 43] (by decide +kernel) (by decide +kernel)
set_option maxRecDepth 20000 in
theorem gX11_reads_X2_setWaiting : GoodIn wsX11_reads (wsV RX11 208 RX2 yX2_setWaiting wsX2_setWaiting) := goodIn_app (goodIn_of _ (by decide +kernel)) ggX11_reads_X2_setWaiting
set_option maxRecDepth 20000 in
theorem ggX11_reads_X2_leastWholeNotBelow : GoodIn wsX11_reads wsX2_leastWholeNotBelow := goodIn_r _ [30, 15, 14, 42, 43] (by decide +kernel) (by decide +kernel)
set_option maxRecDepth 20000 in
theorem gX11_reads_X2_leastWholeNotBelow : GoodIn wsX11_reads (wsV RX11 216 RX2 yX2_leastWholeNotBelow wsX2_leastWholeNotBelow) := goodIn_app (goodIn_of _ (by decide +kernel)) ggX11_reads_X2_leastWholeNotBelow
theorem dX11_reads_0 : decode cX11_reads 0 = .ok (.iload_n 1, 1) := by decide +kernel
theorem dX11_reads_1 : decode cX11_reads 1 = .ok (.iload_n 2, 1) := by decide +kernel
theorem dX11_reads_2 : decode cX11_reads 2 = .ok (.invokestatic 202, 3) := by decide +kernel
theorem dX11_reads_5 : decode cX11_reads 5 = .ok (.ifCond .ne 6, 3) := by decide +kernel
theorem dX11_reads_8 : decode cX11_reads 8 = .ok (.bipush (-2), 2) := by decide +kernel
theorem dX11_reads_10 : decode cX11_reads 10 = .ok (.ireturn, 1) := by decide +kernel
theorem dX11_reads_11 : decode cX11_reads 11 = .ok (.aload_n 0, 1) := by decide +kernel
theorem dX11_reads_12 : decode cX11_reads 12 = .ok (.getfield 74, 3) := by decide +kernel
theorem dX11_reads_15 : decode cX11_reads 15 = .ok (.iload_n 1, 1) := by decide +kernel
theorem dX11_reads_16 : decode cX11_reads 16 = .ok (.iconst 1, 1) := by decide +kernel
theorem dX11_reads_17 : decode cX11_reads 17 = .ok (.isub, 1) := by decide +kernel
theorem dX11_reads_18 : decode cX11_reads 18 = .ok (.iload_n 2, 1) := by decide +kernel
theorem dX11_reads_19 : decode cX11_reads 19 = .ok (.invokevirtual 208, 3) := by decide +kernel
theorem dX11_reads_22 : decode cX11_reads 22 = .ok (.aload_n 0, 1) := by decide +kernel
theorem dX11_reads_23 : decode cX11_reads 23 = .ok (.getfield 74, 3) := by decide +kernel
theorem dX11_reads_26 : decode cX11_reads 26 = .ok (.iload_n 2, 1) := by decide +kernel
theorem dX11_reads_27 : decode cX11_reads 27 = .ok (.invokevirtual 216, 3) := by decide +kernel
theorem dX11_reads_30 : decode cX11_reads 30 = .ok (.ireturn, 1) := by decide +kernel
set_option maxRecDepth 20000 in
theorem ggX11_waitIsAsTold_X11_within : GoodIn wsX11_waitIsAsTold wsX11_within := goodIn_r _ [4] (by decide +kernel) (by decide +kernel)
set_option maxRecDepth 20000 in
theorem gX11_waitIsAsTold_X11_within : GoodIn wsX11_waitIsAsTold (va_wsS RX11 82 yX11_within wsX11_within) := goodIn_app (goodIn_of _ (by decide +kernel)) ggX11_waitIsAsTold_X11_within
theorem dX11_waitIsAsTold_0 : decode cX11_waitIsAsTold 0 = .ok (.iload_n 0, 1) := by decide +kernel
theorem dX11_waitIsAsTold_1 : decode cX11_waitIsAsTold 1 = .ok (.iconst 1, 1) := by decide +kernel
theorem dX11_waitIsAsTold_2 : decode cX11_waitIsAsTold 2 = .ok (.bipush 12, 2) := by decide +kernel
theorem dX11_waitIsAsTold_4 : decode cX11_waitIsAsTold 4 = .ok (.invokestatic 82, 3) := by decide +kernel
theorem dX11_waitIsAsTold_7 : decode cX11_waitIsAsTold 7 = .ok (.ifCond .eq 17, 3) := by decide +kernel
theorem dX11_waitIsAsTold_10 : decode cX11_waitIsAsTold 10 = .ok (.iload_n 1, 1) := by decide +kernel
theorem dX11_waitIsAsTold_11 : decode cX11_waitIsAsTold 11 = .ok (.iconst 1, 1) := by decide +kernel
theorem dX11_waitIsAsTold_12 : decode cX11_waitIsAsTold 12 = .ok (.bipush 9, 2) := by decide +kernel
theorem dX11_waitIsAsTold_14 : decode cX11_waitIsAsTold 14 = .ok (.invokestatic 82, 3) := by decide +kernel
theorem dX11_waitIsAsTold_17 : decode cX11_waitIsAsTold 17 = .ok (.ifCond .eq 7, 3) := by decide +kernel
theorem dX11_waitIsAsTold_20 : decode cX11_waitIsAsTold 20 = .ok (.iconst 1, 1) := by decide +kernel
theorem dX11_waitIsAsTold_21 : decode cX11_waitIsAsTold 21 = .ok (.goto 4, 3) := by decide +kernel
theorem dX11_waitIsAsTold_24 : decode cX11_waitIsAsTold 24 = .ok (.iconst 0, 1) := by decide +kernel
theorem dX11_waitIsAsTold_25 : decode cX11_waitIsAsTold 25 = .ok (.ireturn, 1) := by decide +kernel
set_option maxRecDepth 20000 in
theorem ggX11_counted_X11_within : GoodIn wsX11_counted wsX11_within := goodIn_r _ [6] (by decide +kernel) (by decide +kernel)
set_option maxRecDepth 20000 in
theorem gX11_counted_X11_within : GoodIn wsX11_counted (va_wsS RX11 82 yX11_within wsX11_within) := goodIn_app (goodIn_of _ (by decide +kernel)) ggX11_counted_X11_within
set_option maxRecDepth 20000 in
theorem ggX11_counted_X6_addCount : GoodIn wsX11_counted wsX6_addCount := goodIn_r _ [11, 12, 13, 14, 26, 27, 28, 29] (by decide +kernel) (by decide +kernel)
set_option maxRecDepth 20000 in
theorem gX11_counted_X6_addCount : GoodIn wsX11_counted (wsV RX11 219 RX6 yX6_addCount wsX6_addCount) := goodIn_app (goodIn_of _ (by decide +kernel)) ggX11_counted_X6_addCount
theorem dX11_counted_0 : decode cX11_counted 0 = .ok (.iload_n 1, 1) := by decide +kernel
theorem dX11_counted_1 : decode cX11_counted 1 = .ok (.iconst 0, 1) := by decide +kernel
theorem dX11_counted_2 : decode cX11_counted 2 = .ok (.iconst 5, 1) := by decide +kernel
theorem dX11_counted_3 : decode cX11_counted 3 = .ok (.invokestatic 82, 3) := by decide +kernel
theorem dX11_counted_6 : decode cX11_counted 6 = .ok (.ifCond .ne 5, 3) := by decide +kernel
theorem dX11_counted_9 : decode cX11_counted 9 = .ok (.iconst (-1), 1) := by decide +kernel
theorem dX11_counted_10 : decode cX11_counted 10 = .ok (.ireturn, 1) := by decide +kernel
theorem dX11_counted_11 : decode cX11_counted 11 = .ok (.iload_n 2, 1) := by decide +kernel
theorem dX11_counted_12 : decode cX11_counted 12 = .ok (.iconst 0, 1) := by decide +kernel
theorem dX11_counted_13 : decode cX11_counted 13 = .ok (.sipush 999, 3) := by decide +kernel
theorem dX11_counted_16 : decode cX11_counted 16 = .ok (.invokestatic 82, 3) := by decide +kernel
theorem dX11_counted_19 : decode cX11_counted 19 = .ok (.ifCond .ne 6, 3) := by decide +kernel
theorem dX11_counted_22 : decode cX11_counted 22 = .ok (.bipush (-2), 2) := by decide +kernel
theorem dX11_counted_24 : decode cX11_counted 24 = .ok (.ireturn, 1) := by decide +kernel
theorem dX11_counted_25 : decode cX11_counted 25 = .ok (.aload_n 0, 1) := by decide +kernel
theorem dX11_counted_26 : decode cX11_counted 26 = .ok (.getfield 26, 3) := by decide +kernel
theorem dX11_counted_29 : decode cX11_counted 29 = .ok (.iload_n 1, 1) := by decide +kernel
theorem dX11_counted_30 : decode cX11_counted 30 = .ok (.iload_n 2, 1) := by decide +kernel
theorem dX11_counted_31 : decode cX11_counted 31 = .ok (.invokevirtual 219, 3) := by decide +kernel
theorem dX11_counted_34 : decode cX11_counted 34 = .ok (.ifCond .ne 6, 3) := by decide +kernel
theorem dX11_counted_37 : decode cX11_counted 37 = .ok (.bipush (-4), 2) := by decide +kernel
theorem dX11_counted_39 : decode cX11_counted 39 = .ok (.ireturn, 1) := by decide +kernel
theorem dX11_counted_40 : decode cX11_counted 40 = .ok (.aload_n 0, 1) := by decide +kernel
theorem dX11_counted_41 : decode cX11_counted 41 = .ok (.getfield 26, 3) := by decide +kernel
theorem dX11_counted_44 : decode cX11_counted 44 = .ok (.getfield 222, 3) := by decide +kernel
theorem dX11_counted_47 : decode cX11_counted 47 = .ok (.ireturn, 1) := by decide +kernel
theorem dX11_forget_0 : decode cX11_forget 0 = .ok (.aload_n 0, 1) := by decide +kernel
theorem dX11_forget_1 : decode cX11_forget 1 = .ok (.getfield 26, 3) := by decide +kernel
theorem dX11_forget_4 : decode cX11_forget 4 = .ok (.getfield 222, 3) := by decide +kernel
theorem dX11_forget_7 : decode cX11_forget 7 = .ok (.istore_n 1, 1) := by decide +kernel
theorem dX11_forget_8 : decode cX11_forget 8 = .ok (.aload_n 0, 1) := by decide +kernel
theorem dX11_forget_9 : decode cX11_forget 9 = .ok (.getfield 26, 3) := by decide +kernel
theorem dX11_forget_12 : decode cX11_forget 12 = .ok (.iconst 0, 1) := by decide +kernel
theorem dX11_forget_13 : decode cX11_forget 13 = .ok (.putfield 222, 3) := by decide +kernel
theorem dX11_forget_16 : decode cX11_forget 16 = .ok (.iload_n 1, 1) := by decide +kernel
theorem dX11_forget_17 : decode cX11_forget 17 = .ok (.ireturn, 1) := by decide +kernel
set_option maxRecDepth 20000 in
theorem ggX11_went_X4_findSets : GoodIn wsX11_went wsX4_findSets := goodIn_r _ [9, 10, 11, 12, 13, 14, 15, 16, 17, 18, 19, 20, 21, 22, 23, 24, 25, 26, 27, 28, 29, 30, 31, 32, 33, 34, 35, 36, 37, 38, 39, 40, 41, 57, 58, 59, 60, 61, 62, 63, 64, 65, 66, 67, 68, 69, 70, 71, 72] (by decide +kernel) (by decide +kernel)
set_option maxRecDepth 20000 in
theorem gX11_went_X4_findSets : GoodIn wsX11_went (wsV RX11 225 RX4 yX4_findSets wsX4_findSets) := goodIn_app (goodIn_of _ (by decide +kernel)) ggX11_went_X4_findSets
set_option maxRecDepth 20000 in
theorem ggX11_went_X4_setAt : GoodIn wsX11_went wsX4_setAt := goodIn_r _ [45, 10, 12, 57, 58, 59, 60, 61] (by decide +kernel) (by decide +kernel)
set_option maxRecDepth 20000 in
theorem gX11_went_X4_setAt : GoodIn wsX11_went (wsV RX11 230 RX4 yX4_setAt wsX4_setAt) := goodIn_app (goodIn_of _ (by decide +kernel)) ggX11_went_X4_setAt
theorem dX11_went_0 : decode cX11_went 0 = .ok (.iload_n 1, 1) := by decide +kernel
theorem dX11_went_1 : decode cX11_went 1 = .ok (.iconst (-1), 1) := by decide +kernel
theorem dX11_went_2 : decode cX11_went 2 = .ok (.if_icmp .ge 6, 3) := by decide +kernel
theorem dX11_went_5 : decode cX11_went 5 = .ok (.bipush (-6), 2) := by decide +kernel
theorem dX11_went_7 : decode cX11_went 7 = .ok (.ireturn, 1) := by decide +kernel
theorem dX11_went_8 : decode cX11_went 8 = .ok (.aload_n 0, 1) := by decide +kernel
theorem dX11_went_9 : decode cX11_went 9 = .ok (.getfield 60, 3) := by decide +kernel
theorem dX11_went_12 : decode cX11_went 12 = .ok (.aload_n 0, 1) := by decide +kernel
theorem dX11_went_13 : decode cX11_went 13 = .ok (.getfield 26, 3) := by decide +kernel
theorem dX11_went_16 : decode cX11_went 16 = .ok (.aload_n 0, 1) := by decide +kernel
theorem dX11_went_17 : decode cX11_went 17 = .ok (.getfield 12, 3) := by decide +kernel
theorem dX11_went_20 : decode cX11_went 20 = .ok (.invokevirtual 225, 3) := by decide +kernel
theorem dX11_went_23 : decode cX11_went 23 = .ok (.iload_n 1, 1) := by decide +kernel
theorem dX11_went_24 : decode cX11_went 24 = .ok (.iconst (-1), 1) := by decide +kernel
theorem dX11_went_25 : decode cX11_went 25 = .ok (.if_icmp .ne 13, 3) := by decide +kernel
theorem dX11_went_28 : decode cX11_went 28 = .ok (.aload_n 0, 1) := by decide +kernel
theorem dX11_went_29 : decode cX11_went 29 = .ok (.getfield 60, 3) := by decide +kernel
theorem dX11_went_32 : decode cX11_went 32 = .ok (.getfield 229, 3) := by decide +kernel
theorem dX11_went_35 : decode cX11_went 35 = .ok (.goto 11, 3) := by decide +kernel
theorem dX11_went_38 : decode cX11_went 38 = .ok (.aload_n 0, 1) := by decide +kernel
theorem dX11_went_39 : decode cX11_went 39 = .ok (.getfield 60, 3) := by decide +kernel
theorem dX11_went_42 : decode cX11_went 42 = .ok (.iload_n 1, 1) := by decide +kernel
theorem dX11_went_43 : decode cX11_went 43 = .ok (.invokevirtual 230, 3) := by decide +kernel
theorem dX11_went_46 : decode cX11_went 46 = .ok (.ireturn, 1) := by decide +kernel
set_option maxRecDepth 20000 in
theorem ggX11_ask_X11_within : GoodIn wsX11_ask wsX11_within := goodIn_r _ [10] (by decide +kernel) (by decide +kernel)
set_option maxRecDepth 20000 in
theorem gX11_ask_X11_within : GoodIn wsX11_ask (va_wsS RX11 82 yX11_within wsX11_within) := goodIn_app (goodIn_of _ (by decide +kernel)) ggX11_ask_X11_within
set_option maxRecDepth 20000 in
theorem ggX11_ask_X4_findSets : GoodIn wsX11_ask wsX4_findSets := goodIn_r _ [15, 16, 17, 18, 19, 20, 21, 22, 23, 24, 25, 26, 27, 28, 29, 30, 31, 8, 9, 10, 32, 33, 34, 35, 36, 37, 38, 39, 40, 41, 42, 43, 44, 76, 77, 78, 79, 80, 81, 82, 83, 84, 85, 86, 87, 88, 89, 90, 91] (by decide +kernel) (by decide +kernel)
set_option maxRecDepth 20000 in
theorem gX11_ask_X4_findSets : GoodIn wsX11_ask (wsV RX11 225 RX4 yX4_findSets wsX4_findSets) := goodIn_app (goodIn_of _ (by decide +kernel)) ggX11_ask_X4_findSets
set_option maxRecDepth 20000 in
theorem ggX11_ask_X4_findNextRock : GoodIn wsX11_ask wsX4_findNextRock := goodIn_r _ [48, 49, 50, 51, 52, 53, 14, 54, 55, 16, 18, 56, 57, 58, 59, 60, 61, 62, 63, 64, 28, 29, 22, 30, 31, 8, 9, 10, 32, 33, 34, 35, 36, 37, 38, 39, 40, 41, 42, 43, 44, 76, 77, 78, 79, 80, 88, 89, 90, 91, 81, 82, 83, 84, 85, 86, 87] (by decide +kernel) (by decide +kernel)
set_option maxRecDepth 20000 in
theorem gX11_ask_X4_findNextRock : GoodIn wsX11_ask (wsV RX11 233 RX4 yX4_findNextRock wsX4_findNextRock) := goodIn_app (goodIn_of _ (by decide +kernel)) ggX11_ask_X4_findNextRock
theorem dX11_ask_0 : decode cX11_ask 0 = .ok (.iload_n 1, 1) := by decide +kernel
theorem dX11_ask_1 : decode cX11_ask 1 = .ok (.iconst 0, 1) := by decide +kernel
theorem dX11_ask_2 : decode cX11_ask 2 = .ok (.iconst 1, 1) := by decide +kernel
theorem dX11_ask_3 : decode cX11_ask 3 = .ok (.invokestatic 82, 3) := by decide +kernel
theorem dX11_ask_6 : decode cX11_ask 6 = .ok (.ifCond .ne 6, 3) := by decide +kernel
theorem dX11_ask_9 : decode cX11_ask 9 = .ok (.bipush (-2), 2) := by decide +kernel
theorem dX11_ask_11 : decode cX11_ask 11 = .ok (.ireturn, 1) := by decide +kernel
theorem dX11_ask_12 : decode cX11_ask 12 = .ok (.aload_n 0, 1) := by decide +kernel
theorem dX11_ask_13 : decode cX11_ask 13 = .ok (.getfield 60, 3) := by decide +kernel
theorem dX11_ask_16 : decode cX11_ask 16 = .ok (.aload_n 0, 1) := by decide +kernel
theorem dX11_ask_17 : decode cX11_ask 17 = .ok (.getfield 26, 3) := by decide +kernel
theorem dX11_ask_20 : decode cX11_ask 20 = .ok (.aload_n 0, 1) := by decide +kernel
theorem dX11_ask_21 : decode cX11_ask 21 = .ok (.getfield 12, 3) := by decide +kernel
theorem dX11_ask_24 : decode cX11_ask 24 = .ok (.invokevirtual 225, 3) := by decide +kernel
theorem dX11_ask_27 : decode cX11_ask 27 = .ok (.aload_n 0, 1) := by decide +kernel
theorem dX11_ask_28 : decode cX11_ask 28 = .ok (.getfield 60, 3) := by decide +kernel
theorem dX11_ask_31 : decode cX11_ask 31 = .ok (.getfield 229, 3) := by decide +kernel
theorem dX11_ask_34 : decode cX11_ask 34 = .ok (.ifCond .ne 6, 3) := by decide +kernel
theorem dX11_ask_37 : decode cX11_ask 37 = .ok (.bipush (-6), 2) := by decide +kernel
theorem dX11_ask_39 : decode cX11_ask 39 = .ok (.ireturn, 1) := by decide +kernel
theorem dX11_ask_40 : decode cX11_ask 40 = .ok (.aload_n 0, 1) := by decide +kernel
theorem dX11_ask_41 : decode cX11_ask 41 = .ok (.getfield 60, 3) := by decide +kernel
theorem dX11_ask_44 : decode cX11_ask 44 = .ok (.aload_n 0, 1) := by decide +kernel
theorem dX11_ask_45 : decode cX11_ask 45 = .ok (.getfield 26, 3) := by decide +kernel
theorem dX11_ask_48 : decode cX11_ask 48 = .ok (.aload_n 0, 1) := by decide +kernel
theorem dX11_ask_49 : decode cX11_ask 49 = .ok (.getfield 12, 3) := by decide +kernel
theorem dX11_ask_52 : decode cX11_ask 52 = .ok (.invokevirtual 233, 3) := by decide +kernel
theorem dX11_ask_55 : decode cX11_ask 55 = .ok (.iload_n 1, 1) := by decide +kernel
theorem dX11_ask_56 : decode cX11_ask 56 = .ok (.ifCond .ne 13, 3) := by decide +kernel
theorem dX11_ask_59 : decode cX11_ask 59 = .ok (.aload_n 0, 1) := by decide +kernel
theorem dX11_ask_60 : decode cX11_ask 60 = .ok (.getfield 60, 3) := by decide +kernel
theorem dX11_ask_63 : decode cX11_ask 63 = .ok (.getfield 236, 3) := by decide +kernel
theorem dX11_ask_66 : decode cX11_ask 66 = .ok (.goto 10, 3) := by decide +kernel
theorem dX11_ask_69 : decode cX11_ask 69 = .ok (.aload_n 0, 1) := by decide +kernel
theorem dX11_ask_70 : decode cX11_ask 70 = .ok (.getfield 60, 3) := by decide +kernel
theorem dX11_ask_73 : decode cX11_ask 73 = .ok (.getfield 239, 3) := by decide +kernel
theorem dX11_ask_76 : decode cX11_ask 76 = .ok (.ireturn, 1) := by decide +kernel
set_option maxRecDepth 20000 in
theorem ggX11_turning_X11_within : GoodIn wsX11_turning wsX11_within := goodIn_r _ [6] (by decide +kernel) (by decide +kernel)
set_option maxRecDepth 20000 in
theorem gX11_turning_X11_within : GoodIn wsX11_turning (va_wsS RX11 82 yX11_within wsX11_within) := goodIn_app (goodIn_of _ (by decide +kernel)) ggX11_turning_X11_within
set_option maxRecDepth 20000 in
theorem ggX11_turning_X3_winningFirst : GoodIn wsX11_turning wsX3_winningFirst := goodIn_r _ [11, 12, 13, 14, 15, 16, 17, 18, 19, 5, 20, 21, 22, 23, 10, 24, 25, 26, 27, 28, 4, 6, 40, 41, 42] (by decide +kernel) (by decide +kernel)
set_option maxRecDepth 20000 in
theorem gX11_turning_X3_winningFirst : GoodIn wsX11_turning (wsV RX11 242 RX3 yX3_winningFirst wsX3_winningFirst) := goodIn_app (goodIn_of _ (by decide +kernel)) ggX11_turning_X3_winningFirst
theorem dX11_turning_0 : decode cX11_turning 0 = .ok (.iload_n 1, 1) := by decide +kernel
theorem dX11_turning_1 : decode cX11_turning 1 = .ok (.iconst 0, 1) := by decide +kernel
theorem dX11_turning_2 : decode cX11_turning 2 = .ok (.bipush 30, 2) := by decide +kernel
theorem dX11_turning_4 : decode cX11_turning 4 = .ok (.invokestatic 82, 3) := by decide +kernel
theorem dX11_turning_7 : decode cX11_turning 7 = .ok (.ifCond .eq 12, 3) := by decide +kernel
theorem dX11_turning_10 : decode cX11_turning 10 = .ok (.iload_n 2, 1) := by decide +kernel
theorem dX11_turning_11 : decode cX11_turning 11 = .ok (.iconst 0, 1) := by decide +kernel
theorem dX11_turning_12 : decode cX11_turning 12 = .ok (.iconst 1, 1) := by decide +kernel
theorem dX11_turning_13 : decode cX11_turning 13 = .ok (.invokestatic 82, 3) := by decide +kernel
theorem dX11_turning_16 : decode cX11_turning 16 = .ok (.ifCond .ne 6, 3) := by decide +kernel
theorem dX11_turning_19 : decode cX11_turning 19 = .ok (.bipush (-2), 2) := by decide +kernel
theorem dX11_turning_21 : decode cX11_turning 21 = .ok (.ireturn, 1) := by decide +kernel
theorem dX11_turning_22 : decode cX11_turning 22 = .ok (.aload_n 0, 1) := by decide +kernel
theorem dX11_turning_23 : decode cX11_turning 23 = .ok (.getfield 67, 3) := by decide +kernel
theorem dX11_turning_26 : decode cX11_turning 26 = .ok (.aload_n 0, 1) := by decide +kernel
theorem dX11_turning_27 : decode cX11_turning 27 = .ok (.getfield 19, 3) := by decide +kernel
theorem dX11_turning_30 : decode cX11_turning 30 = .ok (.iload_n 1, 1) := by decide +kernel
theorem dX11_turning_31 : decode cX11_turning 31 = .ok (.invokevirtual 242, 3) := by decide +kernel
theorem dX11_turning_34 : decode cX11_turning 34 = .ok (.istore_n 3, 1) := by decide +kernel
theorem dX11_turning_35 : decode cX11_turning 35 = .ok (.iload_n 2, 1) := by decide +kernel
theorem dX11_turning_36 : decode cX11_turning 36 = .ok (.iconst 1, 1) := by decide +kernel
theorem dX11_turning_37 : decode cX11_turning 37 = .ok (.if_icmp .ne 5, 3) := by decide +kernel
theorem dX11_turning_40 : decode cX11_turning 40 = .ok (.iload_n 3, 1) := by decide +kernel
theorem dX11_turning_41 : decode cX11_turning 41 = .ok (.ireturn, 1) := by decide +kernel
theorem dX11_turning_42 : decode cX11_turning 42 = .ok (.iload_n 3, 1) := by decide +kernel
theorem dX11_turning_43 : decode cX11_turning 43 = .ok (.bipush (-6), 2) := by decide +kernel
theorem dX11_turning_45 : decode cX11_turning 45 = .ok (.if_icmp .ne 7, 3) := by decide +kernel
theorem dX11_turning_48 : decode cX11_turning 48 = .ok (.iconst 0, 1) := by decide +kernel
theorem dX11_turning_49 : decode cX11_turning 49 = .ok (.goto 4, 3) := by decide +kernel
theorem dX11_turning_52 : decode cX11_turning 52 = .ok (.iconst 1, 1) := by decide +kernel
theorem dX11_turning_53 : decode cX11_turning 53 = .ok (.ireturn, 1) := by decide +kernel
set_option maxRecDepth 20000 in
theorem ggX11_drift_X11_within : GoodIn wsX11_drift wsX11_within := goodIn_r _ [6] (by decide +kernel) (by decide +kernel)
set_option maxRecDepth 20000 in
theorem gX11_drift_X11_within : GoodIn wsX11_drift (va_wsS RX11 82 yX11_within wsX11_within) := goodIn_app (goodIn_of _ (by decide +kernel)) ggX11_drift_X11_within
set_option maxRecDepth 20000 in
theorem ggX11_drift_X2_setDrift : GoodIn wsX11_drift wsX2_setDrift := goodIn_r _ [11, 12, 13, 14, 15, 16, 17, 10, 18, 19, 20, 21, 37, 38] (by decide +kernel) (by decide +kernel)
set_option maxRecDepth 20000 in
theorem gX11_drift_X2_setDrift : GoodIn wsX11_drift (wsV RX11 246 RX2 yX2_setDrift wsX2_setDrift) := goodIn_app (goodIn_of _ (by decide +kernel)) ggX11_drift_X2_setDrift
set_option maxRecDepth 20000 in
theorem ggX11_drift_X2_part : GoodIn wsX11_drift wsX2_part := goodIn_r _ [25, 14, 12, 37, 38] (by decide +kernel) (by decide +kernel)
set_option maxRecDepth 20000 in
theorem gX11_drift_X2_part : GoodIn wsX11_drift (wsV RX11 212 RX2 yX2_part wsX2_part) := goodIn_app (goodIn_of _ (by decide +kernel)) ggX11_drift_X2_part
theorem dX11_drift_0 : decode cX11_drift 0 = .ok (.iload_n 1, 1) := by decide +kernel
theorem dX11_drift_1 : decode cX11_drift 1 = .ok (.iconst 0, 1) := by decide +kernel
theorem dX11_drift_2 : decode cX11_drift 2 = .ok (.iconst 1, 1) := by decide +kernel
theorem dX11_drift_3 : decode cX11_drift 3 = .ok (.invokestatic 82, 3) := by decide +kernel
theorem dX11_drift_6 : decode cX11_drift 6 = .ok (.ifCond .eq 64, 3) := by decide +kernel
theorem dX11_drift_9 : decode cX11_drift 9 = .ok (.iload_n 2, 1) := by decide +kernel
theorem dX11_drift_10 : decode cX11_drift 10 = .ok (.iconst 0, 1) := by decide +kernel
theorem dX11_drift_11 : decode cX11_drift 11 = .ok (.bipush 10, 2) := by decide +kernel
theorem dX11_drift_13 : decode cX11_drift 13 = .ok (.invokestatic 82, 3) := by decide +kernel
theorem dX11_drift_16 : decode cX11_drift 16 = .ok (.ifCond .eq 54, 3) := by decide +kernel
theorem dX11_drift_19 : decode cX11_drift 19 = .ok (.iload_n 3, 1) := by decide +kernel
theorem dX11_drift_20 : decode cX11_drift 20 = .ok (.iconst 0, 1) := by decide +kernel
theorem dX11_drift_21 : decode cX11_drift 21 = .ok (.bipush 10, 2) := by decide +kernel
theorem dX11_drift_23 : decode cX11_drift 23 = .ok (.invokestatic 82, 3) := by decide +kernel
theorem dX11_drift_26 : decode cX11_drift 26 = .ok (.ifCond .eq 44, 3) := by decide +kernel
theorem dX11_drift_29 : decode cX11_drift 29 = .ok (.iload 5, 2) := by decide +kernel
theorem dX11_drift_31 : decode cX11_drift 31 = .ok (.iconst 0, 1) := by decide +kernel
theorem dX11_drift_32 : decode cX11_drift 32 = .ok (.iconst 1, 1) := by decide +kernel
theorem dX11_drift_33 : decode cX11_drift 33 = .ok (.invokestatic 82, 3) := by decide +kernel
theorem dX11_drift_36 : decode cX11_drift 36 = .ok (.ifCond .eq 34, 3) := by decide +kernel
theorem dX11_drift_39 : decode cX11_drift 39 = .ok (.iload 6, 2) := by decide +kernel
theorem dX11_drift_41 : decode cX11_drift 41 = .ok (.iconst 0, 1) := by decide +kernel
theorem dX11_drift_42 : decode cX11_drift 42 = .ok (.iconst 1, 1) := by decide +kernel
theorem dX11_drift_43 : decode cX11_drift 43 = .ok (.invokestatic 82, 3) := by decide +kernel
theorem dX11_drift_46 : decode cX11_drift 46 = .ok (.ifCond .eq 24, 3) := by decide +kernel
theorem dX11_drift_49 : decode cX11_drift 49 = .ok (.iload 4, 2) := by decide +kernel
theorem dX11_drift_51 : decode cX11_drift 51 = .ok (.iconst 0, 1) := by decide +kernel
theorem dX11_drift_52 : decode cX11_drift 52 = .ok (.iload 5, 2) := by decide +kernel
theorem dX11_drift_54 : decode cX11_drift 54 = .ok (.ifCond .ne 8, 3) := by decide +kernel
theorem dX11_drift_57 : decode cX11_drift 57 = .ok (.bipush 17, 2) := by decide +kernel
theorem dX11_drift_59 : decode cX11_drift 59 = .ok (.goto 5, 3) := by decide +kernel
theorem dX11_drift_62 : decode cX11_drift 62 = .ok (.bipush 16, 2) := by decide +kernel
theorem dX11_drift_64 : decode cX11_drift 64 = .ok (.invokestatic 82, 3) := by decide +kernel
theorem dX11_drift_67 : decode cX11_drift 67 = .ok (.ifCond .ne 7, 3) := by decide +kernel
theorem dX11_drift_70 : decode cX11_drift 70 = .ok (.ldc2_w 206, 3) := by decide +kernel
theorem dX11_drift_73 : decode cX11_drift 73 = .ok (.lreturn, 1) := by decide +kernel
theorem dX11_drift_74 : decode cX11_drift 74 = .ok (.aload_n 0, 1) := by decide +kernel
theorem dX11_drift_75 : decode cX11_drift 75 = .ok (.getfield 74, 3) := by decide +kernel
theorem dX11_drift_78 : decode cX11_drift 78 = .ok (.iload_n 1, 1) := by decide +kernel
theorem dX11_drift_79 : decode cX11_drift 79 = .ok (.iload_n 2, 1) := by decide +kernel
theorem dX11_drift_80 : decode cX11_drift 80 = .ok (.iload_n 3, 1) := by decide +kernel
theorem dX11_drift_81 : decode cX11_drift 81 = .ok (.iload 4, 2) := by decide +kernel
theorem dX11_drift_83 : decode cX11_drift 83 = .ok (.iload 5, 2) := by decide +kernel
theorem dX11_drift_85 : decode cX11_drift 85 = .ok (.invokevirtual 246, 3) := by decide +kernel
theorem dX11_drift_88 : decode cX11_drift 88 = .ok (.aload_n 0, 1) := by decide +kernel
theorem dX11_drift_89 : decode cX11_drift 89 = .ok (.getfield 74, 3) := by decide +kernel
theorem dX11_drift_92 : decode cX11_drift 92 = .ok (.iload 6, 2) := by decide +kernel
theorem dX11_drift_94 : decode cX11_drift 94 = .ok (.invokevirtual 212, 3) := by decide +kernel
theorem dX11_drift_97 : decode cX11_drift 97 = .ok (.lreturn, 1) := by decide +kernel
set_option maxRecDepth 20000 in
theorem ggX11_year_X11_within : GoodIn wsX11_year wsX11_within := goodIn_r _ [9] (by decide +kernel) (by decide +kernel)
set_option maxRecDepth 20000 in
theorem gX11_year_X11_within : GoodIn wsX11_year (va_wsS RX11 82 yX11_within wsX11_within) := goodIn_app (goodIn_of _ (by decide +kernel)) ggX11_year_X11_within
set_option maxRecDepth 20000 in
theorem ggX11_year_X10_runYear : GoodIn wsX11_year wsX10_runYear := goodIn_r _ [14, 15, 16, 17, 18, 19, 20, 21, 22, 23, 24, 25, 26, 27, 28, 29, 30, 31, 32, 33, 34, 35, 36, 37, 38, 39, 40, 41, 42, 43, 44, 45, 46, 47, 48, 49, 50, 51, 52, 53, 54, 7, 8, 9, 55, 56, 57, 58, 59, 60, 61, 62, 63, 64, 65, 66, 67, 68, 69, 70, 71, 72, 73, 74, 75, 76, 77, 78, 79, 80, 81, 82, 83, 84, 85, 86, 87, 88, 89, 90, 91, 92, 93, 94, 95, 96, 97, 98, 99, 100, 101, 102, 103, 104, 105, 106, 107, 108, 128, 129, 130, 131, 132, 133, 134, 135, 136, 137, 138, 139, 140, 141, 142, 143, 144, 145, 146] (by decide +kernel) (by decide +kernel)
set_option maxRecDepth 20000 in
theorem gX11_year_X10_runYear : GoodIn wsX11_year (wsV RX11 249 RX10 yX10_runYear wsX10_runYear) := goodIn_app (goodIn_of _ (by decide +kernel)) ggX11_year_X10_runYear
set_option maxRecDepth 20000 in
theorem ggX11_year_X8_headsOnSideOne : GoodIn wsX11_year wsX8_headsOnSideOne := goodIn_r _ [112, 27, 26, 63, 64, 65, 21, 66, 23, 135, 136, 137, 138, 139, 140, 141] (by decide +kernel) (by decide +kernel)
set_option maxRecDepth 20000 in
theorem gX11_year_X8_headsOnSideOne : GoodIn wsX11_year (wsV RX11 154 RX8 yX8_headsOnSideOne wsX8_headsOnSideOne) := goodIn_app (goodIn_of _ (by decide +kernel)) ggX11_year_X8_headsOnSideOne
set_option maxRecDepth 20000 in
theorem ggX11_year_X8_allMoods : GoodIn wsX11_year wsX8_allMoods := goodIn_r _ [116, 28, 63, 64, 65, 21, 66, 23, 135, 136, 137, 138, 139, 140, 141] (by decide +kernel) (by decide +kernel)
set_option maxRecDepth 20000 in
theorem gX11_year_X8_allMoods : GoodIn wsX11_year (wsV RX11 253 RX8 yX8_allMoods wsX8_allMoods) := goodIn_app (goodIn_of _ (by decide +kernel)) ggX11_year_X8_allMoods
theorem dX11_year_0 : decode cX11_year 0 = .ok (.iload_n 1, 1) := by decide +kernel
theorem dX11_year_1 : decode cX11_year 1 = .ok (.iconst 0, 1) := by decide +kernel
theorem dX11_year_2 : decode cX11_year 2 = .ok (.sipush 9999, 3) := by decide +kernel
theorem dX11_year_5 : decode cX11_year 5 = .ok (.invokestatic 82, 3) := by decide +kernel
theorem dX11_year_8 : decode cX11_year 8 = .ok (.ifCond .eq 22, 3) := by decide +kernel
theorem dX11_year_11 : decode cX11_year 11 = .ok (.iload_n 2, 1) := by decide +kernel
theorem dX11_year_12 : decode cX11_year 12 = .ok (.iconst 1, 1) := by decide +kernel
theorem dX11_year_13 : decode cX11_year 13 = .ok (.bipush 99, 2) := by decide +kernel
theorem dX11_year_15 : decode cX11_year 15 = .ok (.invokestatic 82, 3) := by decide +kernel
theorem dX11_year_18 : decode cX11_year 18 = .ok (.ifCond .eq 12, 3) := by decide +kernel
theorem dX11_year_21 : decode cX11_year 21 = .ok (.iload_n 3, 1) := by decide +kernel
theorem dX11_year_22 : decode cX11_year 22 = .ok (.iconst 0, 1) := by decide +kernel
theorem dX11_year_23 : decode cX11_year 23 = .ok (.iconst 2, 1) := by decide +kernel
theorem dX11_year_24 : decode cX11_year 24 = .ok (.invokestatic 82, 3) := by decide +kernel
theorem dX11_year_27 : decode cX11_year 27 = .ok (.ifCond .ne 6, 3) := by decide +kernel
theorem dX11_year_30 : decode cX11_year 30 = .ok (.bipush (-2), 2) := by decide +kernel
theorem dX11_year_32 : decode cX11_year 32 = .ok (.ireturn, 1) := by decide +kernel
theorem dX11_year_33 : decode cX11_year 33 = .ok (.aload_n 0, 1) := by decide +kernel
theorem dX11_year_34 : decode cX11_year 34 = .ok (.getfield 46, 3) := by decide +kernel
theorem dX11_year_37 : decode cX11_year 37 = .ok (.iload_n 1, 1) := by decide +kernel
theorem dX11_year_38 : decode cX11_year 38 = .ok (.iload_n 2, 1) := by decide +kernel
theorem dX11_year_39 : decode cX11_year 39 = .ok (.aload_n 0, 1) := by decide +kernel
theorem dX11_year_40 : decode cX11_year 40 = .ok (.getfield 12, 3) := by decide +kernel
theorem dX11_year_43 : decode cX11_year 43 = .ok (.aload_n 0, 1) := by decide +kernel
theorem dX11_year_44 : decode cX11_year 44 = .ok (.getfield 19, 3) := by decide +kernel
theorem dX11_year_47 : decode cX11_year 47 = .ok (.invokevirtual 249, 3) := by decide +kernel
theorem dX11_year_50 : decode cX11_year 50 = .ok (.iload_n 3, 1) := by decide +kernel
theorem dX11_year_51 : decode cX11_year 51 = .ok (.lookupswitch 47 #[(0, 25), (1, 36)], 25) := by decide +kernel
theorem dX11_year_76 : decode cX11_year 76 = .ok (.aload_n 0, 1) := by decide +kernel
theorem dX11_year_77 : decode cX11_year 77 = .ok (.getfield 46, 3) := by decide +kernel
theorem dX11_year_80 : decode cX11_year 80 = .ok (.getfield 142, 3) := by decide +kernel
theorem dX11_year_83 : decode cX11_year 83 = .ok (.invokevirtual 154, 3) := by decide +kernel
theorem dX11_year_86 : decode cX11_year 86 = .ok (.ireturn, 1) := by decide +kernel
theorem dX11_year_87 : decode cX11_year 87 = .ok (.aload_n 0, 1) := by decide +kernel
theorem dX11_year_88 : decode cX11_year 88 = .ok (.getfield 46, 3) := by decide +kernel
theorem dX11_year_91 : decode cX11_year 91 = .ok (.getfield 142, 3) := by decide +kernel
theorem dX11_year_94 : decode cX11_year 94 = .ok (.getfield 157, 3) := by decide +kernel
theorem dX11_year_97 : decode cX11_year 97 = .ok (.ireturn, 1) := by decide +kernel
theorem dX11_year_98 : decode cX11_year 98 = .ok (.aload_n 0, 1) := by decide +kernel
theorem dX11_year_99 : decode cX11_year 99 = .ok (.getfield 46, 3) := by decide +kernel
theorem dX11_year_102 : decode cX11_year 102 = .ok (.getfield 142, 3) := by decide +kernel
theorem dX11_year_105 : decode cX11_year 105 = .ok (.invokevirtual 253, 3) := by decide +kernel
theorem dX11_year_108 : decode cX11_year 108 = .ok (.ireturn, 1) := by decide +kernel
set_option maxRecDepth 20000 in
theorem ggX11_image_X11_within : GoodIn wsX11_image wsX11_within := goodIn_r _ [14] (by decide +kernel) (by decide +kernel)
set_option maxRecDepth 20000 in
theorem gX11_image_X11_within : GoodIn wsX11_image (va_wsS RX11 82 yX11_within wsX11_within) := goodIn_app (goodIn_of _ (by decide +kernel)) ggX11_image_X11_within
set_option maxRecDepth 20000 in
theorem ggX11_image_X5_init : GoodIn wsX11_image wsX5_init := goodIn_r _ [16, 17, 18, 19, 20, 21, 22, 23, 24, 25, 26, 27, 28, 29, 30, 31, 32, 33, 34, 35, 36, 37, 38, 39, 40, 41, 42, 43, 44, 45, 46, 47, 48, 49, 50, 51, 52, 53, 54, 55, 56, 57, 88, 89, 90, 91, 92, 93, 94, 85, 86, 87, 95, 96, 97, 98, 99, 100] (by decide +kernel) (by decide +kernel)
set_option maxRecDepth 20000 in
theorem gX11_image_X5_init_n256 : GoodIn wsX11_image (wsX5_init) := ggX11_image_X5_init
set_option maxRecDepth 20000 in
theorem ggX11_image_X8_copyFrom : GoodIn wsX11_image wsX8_copyFrom := goodIn_r _ [61, 62, 63, 64, 36, 37, 38, 39, 88, 89, 90, 91, 92, 93, 94] (by decide +kernel) (by decide +kernel)
set_option maxRecDepth 20000 in
theorem gX11_image_X8_copyFrom : GoodIn wsX11_image (wsV RX11 143 RX8 yX8_copyFrom wsX8_copyFrom) := goodIn_app (goodIn_of _ (by decide +kernel)) ggX11_image_X8_copyFrom
set_option maxRecDepth 20000 in
theorem ggX11_image_X9_copyFrom : GoodIn wsX11_image wsX9_copyFrom := goodIn_r _ [68, 44, 45, 95, 96] (by decide +kernel) (by decide +kernel)
set_option maxRecDepth 20000 in
theorem gX11_image_X9_copyFrom : GoodIn wsX11_image (wsV RX11 259 RX9 yX9_copyFrom wsX9_copyFrom) := goodIn_app (goodIn_of _ (by decide +kernel)) ggX11_image_X9_copyFrom
set_option maxRecDepth 20000 in
theorem ggX11_image_X6_copyFrom : GoodIn wsX11_image wsX6_copyFrom := goodIn_r _ [72, 54, 73, 55, 56, 97, 98, 99, 100] (by decide +kernel) (by decide +kernel)
set_option maxRecDepth 20000 in
theorem gX11_image_X6_copyFrom : GoodIn wsX11_image (wsV RX11 263 RX6 yX6_copyFrom wsX6_copyFrom) := goodIn_app (goodIn_of _ (by decide +kernel)) ggX11_image_X6_copyFrom
theorem dX11_image_0 : decode cX11_image 0 = .ok (.iload_n 1, 1) := by decide +kernel
theorem dX11_image_1 : decode cX11_image 1 = .ok (.iconst 0, 1) := by decide +kernel
theorem dX11_image_2 : decode cX11_image 2 = .ok (.iconst 1, 1) := by decide +kernel
theorem dX11_image_3 : decode cX11_image 3 = .ok (.invokestatic 82, 3) := by decide +kernel
theorem dX11_image_6 : decode cX11_image 6 = .ok (.ifCond .ne 6, 3) := by decide +kernel
theorem dX11_image_9 : decode cX11_image 9 = .ok (.bipush (-2), 2) := by decide +kernel
theorem dX11_image_11 : decode cX11_image 11 = .ok (.ireturn, 1) := by decide +kernel
theorem dX11_image_12 : decode cX11_image 12 = .ok (.aload_n 0, 1) := by decide +kernel
theorem dX11_image_13 : decode cX11_image 13 = .ok (.getfield 39, 3) := by decide +kernel
theorem dX11_image_16 : decode cX11_image 16 = .ok (.iload_n 1, 1) := by decide +kernel
theorem dX11_image_17 : decode cX11_image 17 = .ok (.aaload, 1) := by decide +kernel
theorem dX11_image_18 : decode cX11_image 18 = .ok (.astore_n 2, 1) := by decide +kernel
theorem dX11_image_19 : decode cX11_image 19 = .ok (.aload_n 2, 1) := by decide +kernel
theorem dX11_image_20 : decode cX11_image 20 = .ok (.ifnonnull 18, 3) := by decide +kernel
theorem dX11_image_23 : decode cX11_image 23 = .ok (.new 37, 3) := by decide +kernel
theorem dX11_image_26 : decode cX11_image 26 = .ok (.dup, 1) := by decide +kernel
theorem dX11_image_27 : decode cX11_image 27 = .ok (.invokespecial 256, 3) := by decide +kernel
theorem dX11_image_30 : decode cX11_image 30 = .ok (.astore_n 2, 1) := by decide +kernel
theorem dX11_image_31 : decode cX11_image 31 = .ok (.aload_n 0, 1) := by decide +kernel
theorem dX11_image_32 : decode cX11_image 32 = .ok (.getfield 39, 3) := by decide +kernel
theorem dX11_image_35 : decode cX11_image 35 = .ok (.iload_n 1, 1) := by decide +kernel
theorem dX11_image_36 : decode cX11_image 36 = .ok (.aload_n 2, 1) := by decide +kernel
theorem dX11_image_37 : decode cX11_image 37 = .ok (.aastore, 1) := by decide +kernel
theorem dX11_image_38 : decode cX11_image 38 = .ok (.aload_n 2, 1) := by decide +kernel
theorem dX11_image_39 : decode cX11_image 39 = .ok (.getfield 257, 3) := by decide +kernel
theorem dX11_image_42 : decode cX11_image 42 = .ok (.aload_n 0, 1) := by decide +kernel
theorem dX11_image_43 : decode cX11_image 43 = .ok (.getfield 12, 3) := by decide +kernel
theorem dX11_image_46 : decode cX11_image 46 = .ok (.invokevirtual 143, 3) := by decide +kernel
theorem dX11_image_49 : decode cX11_image 49 = .ok (.aload_n 2, 1) := by decide +kernel
theorem dX11_image_50 : decode cX11_image 50 = .ok (.getfield 258, 3) := by decide +kernel
theorem dX11_image_53 : decode cX11_image 53 = .ok (.aload_n 0, 1) := by decide +kernel
theorem dX11_image_54 : decode cX11_image 54 = .ok (.getfield 19, 3) := by decide +kernel
theorem dX11_image_57 : decode cX11_image 57 = .ok (.invokevirtual 259, 3) := by decide +kernel
theorem dX11_image_60 : decode cX11_image 60 = .ok (.aload_n 2, 1) := by decide +kernel
theorem dX11_image_61 : decode cX11_image 61 = .ok (.getfield 262, 3) := by decide +kernel
theorem dX11_image_64 : decode cX11_image 64 = .ok (.aload_n 0, 1) := by decide +kernel
theorem dX11_image_65 : decode cX11_image 65 = .ok (.getfield 26, 3) := by decide +kernel
theorem dX11_image_68 : decode cX11_image 68 = .ok (.invokevirtual 263, 3) := by decide +kernel
theorem dX11_image_71 : decode cX11_image 71 = .ok (.iconst 1, 1) := by decide +kernel
theorem dX11_image_72 : decode cX11_image 72 = .ok (.ireturn, 1) := by decide +kernel
set_option maxRecDepth 20000 in
theorem ggX11_restore_X11_within : GoodIn wsX11_restore wsX11_within := goodIn_r _ [11] (by decide +kernel) (by decide +kernel)
set_option maxRecDepth 20000 in
theorem gX11_restore_X11_within : GoodIn wsX11_restore (va_wsS RX11 82 yX11_within wsX11_within) := goodIn_app (goodIn_of _ (by decide +kernel)) ggX11_restore_X11_within
set_option maxRecDepth 20000 in
theorem ggX11_restore_X8_copyFrom : GoodIn wsX11_restore wsX8_copyFrom := goodIn_r _ [16, 17, 18, 19, 20, 21, 22, 23, 54, 55, 56, 57, 58, 59, 60] (by decide +kernel) (by decide +kernel)
set_option maxRecDepth 20000 in
theorem gX11_restore_X8_copyFrom : GoodIn wsX11_restore (wsV RX11 143 RX8 yX8_copyFrom wsX8_copyFrom) := goodIn_app (goodIn_of _ (by decide +kernel)) ggX11_restore_X8_copyFrom
set_option maxRecDepth 20000 in
theorem ggX11_restore_X9_copyFrom : GoodIn wsX11_restore wsX9_copyFrom := goodIn_r _ [28, 29, 30, 61, 62] (by decide +kernel) (by decide +kernel)
set_option maxRecDepth 20000 in
theorem gX11_restore_X9_copyFrom : GoodIn wsX11_restore (wsV RX11 259 RX9 yX9_copyFrom wsX9_copyFrom) := goodIn_app (goodIn_of _ (by decide +kernel)) ggX11_restore_X9_copyFrom
set_option maxRecDepth 20000 in
theorem ggX11_restore_X6_copyFrom : GoodIn wsX11_restore wsX6_copyFrom := goodIn_r _ [35, 36, 37, 38, 39, 63, 64, 65, 66] (by decide +kernel) (by decide +kernel)
set_option maxRecDepth 20000 in
theorem gX11_restore_X6_copyFrom : GoodIn wsX11_restore (wsV RX11 263 RX6 yX6_copyFrom wsX6_copyFrom) := goodIn_app (goodIn_of _ (by decide +kernel)) ggX11_restore_X6_copyFrom
theorem dX11_restore_0 : decode cX11_restore 0 = .ok (.iload_n 1, 1) := by decide +kernel
theorem dX11_restore_1 : decode cX11_restore 1 = .ok (.iconst 0, 1) := by decide +kernel
theorem dX11_restore_2 : decode cX11_restore 2 = .ok (.iconst 1, 1) := by decide +kernel
theorem dX11_restore_3 : decode cX11_restore 3 = .ok (.invokestatic 82, 3) := by decide +kernel
theorem dX11_restore_6 : decode cX11_restore 6 = .ok (.ifCond .ne 6, 3) := by decide +kernel
theorem dX11_restore_9 : decode cX11_restore 9 = .ok (.bipush (-2), 2) := by decide +kernel
theorem dX11_restore_11 : decode cX11_restore 11 = .ok (.ireturn, 1) := by decide +kernel
theorem dX11_restore_12 : decode cX11_restore 12 = .ok (.aload_n 0, 1) := by decide +kernel
theorem dX11_restore_13 : decode cX11_restore 13 = .ok (.getfield 39, 3) := by decide +kernel
theorem dX11_restore_16 : decode cX11_restore 16 = .ok (.iload_n 1, 1) := by decide +kernel
theorem dX11_restore_17 : decode cX11_restore 17 = .ok (.aaload, 1) := by decide +kernel
theorem dX11_restore_18 : decode cX11_restore 18 = .ok (.astore_n 2, 1) := by decide +kernel
theorem dX11_restore_19 : decode cX11_restore 19 = .ok (.aload_n 2, 1) := by decide +kernel
theorem dX11_restore_20 : decode cX11_restore 20 = .ok (.ifnonnull 6, 3) := by decide +kernel
theorem dX11_restore_23 : decode cX11_restore 23 = .ok (.bipush (-3), 2) := by decide +kernel
theorem dX11_restore_25 : decode cX11_restore 25 = .ok (.ireturn, 1) := by decide +kernel
theorem dX11_restore_26 : decode cX11_restore 26 = .ok (.aload_n 0, 1) := by decide +kernel
theorem dX11_restore_27 : decode cX11_restore 27 = .ok (.getfield 12, 3) := by decide +kernel
theorem dX11_restore_30 : decode cX11_restore 30 = .ok (.aload_n 2, 1) := by decide +kernel
theorem dX11_restore_31 : decode cX11_restore 31 = .ok (.getfield 257, 3) := by decide +kernel
theorem dX11_restore_34 : decode cX11_restore 34 = .ok (.invokevirtual 143, 3) := by decide +kernel
theorem dX11_restore_37 : decode cX11_restore 37 = .ok (.aload_n 0, 1) := by decide +kernel
theorem dX11_restore_38 : decode cX11_restore 38 = .ok (.getfield 19, 3) := by decide +kernel
theorem dX11_restore_41 : decode cX11_restore 41 = .ok (.aload_n 2, 1) := by decide +kernel
theorem dX11_restore_42 : decode cX11_restore 42 = .ok (.getfield 258, 3) := by decide +kernel
theorem dX11_restore_45 : decode cX11_restore 45 = .ok (.invokevirtual 259, 3) := by decide +kernel
theorem dX11_restore_48 : decode cX11_restore 48 = .ok (.aload_n 0, 1) := by decide +kernel
theorem dX11_restore_49 : decode cX11_restore 49 = .ok (.getfield 26, 3) := by decide +kernel
theorem dX11_restore_52 : decode cX11_restore 52 = .ok (.aload_n 2, 1) := by decide +kernel
theorem dX11_restore_53 : decode cX11_restore 53 = .ok (.getfield 262, 3) := by decide +kernel
theorem dX11_restore_56 : decode cX11_restore 56 = .ok (.invokevirtual 263, 3) := by decide +kernel
theorem dX11_restore_59 : decode cX11_restore 59 = .ok (.iconst 1, 1) := by decide +kernel
theorem dX11_restore_60 : decode cX11_restore 60 = .ok (.ireturn, 1) := by decide +kernel
set_option maxRecDepth 20000 in
theorem ggX11_told_X11_within : GoodIn wsX11_told wsX11_within := goodIn_r _ [16] (by decide +kernel) (by decide +kernel)
set_option maxRecDepth 20000 in
theorem gX11_told_X11_within : GoodIn wsX11_told (va_wsS RX11 82 yX11_within wsX11_within) := goodIn_app (goodIn_of _ (by decide +kernel)) ggX11_told_X11_within
set_option maxRecDepth 20000 in
theorem ggX11_told_X8_traitOf : GoodIn wsX11_told wsX8_traitOf := goodIn_r _ [21, 22, 23, 24, 25, 26, 27, 28, 20, 29, 30, 50, 51, 52, 53, 54, 55, 56] (by decide +kernel) (by decide +kernel)
set_option maxRecDepth 20000 in
theorem gX11_told_X8_traitOf : GoodIn wsX11_told (wsV RX11 150 RX8 yX8_traitOf wsX8_traitOf) := goodIn_app (goodIn_of _ (by decide +kernel)) ggX11_told_X8_traitOf
theorem dX11_told_0 : decode cX11_told 0 = .ok (.iload_n 1, 1) := by decide +kernel
theorem dX11_told_1 : decode cX11_told 1 = .ok (.bipush 10, 2) := by decide +kernel
theorem dX11_told_3 : decode cX11_told 3 = .ok (.bipush 19, 2) := by decide +kernel
theorem dX11_told_5 : decode cX11_told 5 = .ok (.invokestatic 82, 3) := by decide +kernel
theorem dX11_told_8 : decode cX11_told 8 = .ok (.ifCond .eq 16, 3) := by decide +kernel
theorem dX11_told_11 : decode cX11_told 11 = .ok (.aload_n 0, 1) := by decide +kernel
theorem dX11_told_12 : decode cX11_told 12 = .ok (.getfield 19, 3) := by decide +kernel
theorem dX11_told_15 : decode cX11_told 15 = .ok (.getfield 100, 3) := by decide +kernel
theorem dX11_told_18 : decode cX11_told 18 = .ok (.iload_n 1, 1) := by decide +kernel
theorem dX11_told_19 : decode cX11_told 19 = .ok (.bipush 10, 2) := by decide +kernel
theorem dX11_told_21 : decode cX11_told 21 = .ok (.isub, 1) := by decide +kernel
theorem dX11_told_22 : decode cX11_told 22 = .ok (.iaload, 1) := by decide +kernel
theorem dX11_told_23 : decode cX11_told 23 = .ok (.ireturn, 1) := by decide +kernel
theorem dX11_told_24 : decode cX11_told 24 = .ok (.iload_n 1, 1) := by decide +kernel
theorem dX11_told_25 : decode cX11_told 25 = .ok (.bipush 20, 2) := by decide +kernel
theorem dX11_told_27 : decode cX11_told 27 = .ok (.bipush 29, 2) := by decide +kernel
theorem dX11_told_29 : decode cX11_told 29 = .ok (.invokestatic 82, 3) := by decide +kernel
theorem dX11_told_32 : decode cX11_told 32 = .ok (.ifCond .eq 16, 3) := by decide +kernel
theorem dX11_told_35 : decode cX11_told 35 = .ok (.aload_n 0, 1) := by decide +kernel
theorem dX11_told_36 : decode cX11_told 36 = .ok (.getfield 19, 3) := by decide +kernel
theorem dX11_told_39 : decode cX11_told 39 = .ok (.getfield 266, 3) := by decide +kernel
theorem dX11_told_42 : decode cX11_told 42 = .ok (.iload_n 1, 1) := by decide +kernel
theorem dX11_told_43 : decode cX11_told 43 = .ok (.bipush 20, 2) := by decide +kernel
theorem dX11_told_45 : decode cX11_told 45 = .ok (.isub, 1) := by decide +kernel
theorem dX11_told_46 : decode cX11_told 46 = .ok (.iaload, 1) := by decide +kernel
theorem dX11_told_47 : decode cX11_told 47 = .ok (.ireturn, 1) := by decide +kernel
theorem dX11_told_48 : decode cX11_told 48 = .ok (.iload_n 1, 1) := by decide +kernel
theorem dX11_told_49 : decode cX11_told 49 = .ok (.bipush 30, 2) := by decide +kernel
theorem dX11_told_51 : decode cX11_told 51 = .ok (.bipush 35, 2) := by decide +kernel
theorem dX11_told_53 : decode cX11_told 53 = .ok (.invokestatic 82, 3) := by decide +kernel
theorem dX11_told_56 : decode cX11_told 56 = .ok (.ifCond .eq 16, 3) := by decide +kernel
theorem dX11_told_59 : decode cX11_told 59 = .ok (.aload_n 0, 1) := by decide +kernel
theorem dX11_told_60 : decode cX11_told 60 = .ok (.getfield 26, 3) := by decide +kernel
theorem dX11_told_63 : decode cX11_told 63 = .ok (.getfield 111, 3) := by decide +kernel
theorem dX11_told_66 : decode cX11_told 66 = .ok (.iload_n 1, 1) := by decide +kernel
theorem dX11_told_67 : decode cX11_told 67 = .ok (.bipush 30, 2) := by decide +kernel
theorem dX11_told_69 : decode cX11_told 69 = .ok (.isub, 1) := by decide +kernel
theorem dX11_told_70 : decode cX11_told 70 = .ok (.iaload, 1) := by decide +kernel
theorem dX11_told_71 : decode cX11_told 71 = .ok (.ireturn, 1) := by decide +kernel
theorem dX11_told_72 : decode cX11_told 72 = .ok (.iload_n 1, 1) := by decide +kernel
theorem dX11_told_73 : decode cX11_told 73 = .ok (.bipush 100, 2) := by decide +kernel
theorem dX11_told_75 : decode cX11_told 75 = .ok (.if_icmp .lt 25, 3) := by decide +kernel
theorem dX11_told_78 : decode cX11_told 78 = .ok (.aload_n 0, 1) := by decide +kernel
theorem dX11_told_79 : decode cX11_told 79 = .ok (.getfield 12, 3) := by decide +kernel
theorem dX11_told_82 : decode cX11_told 82 = .ok (.iload_n 1, 1) := by decide +kernel
theorem dX11_told_83 : decode cX11_told 83 = .ok (.bipush 100, 2) := by decide +kernel
theorem dX11_told_85 : decode cX11_told 85 = .ok (.isub, 1) := by decide +kernel
theorem dX11_told_86 : decode cX11_told 86 = .ok (.bipush 10, 2) := by decide +kernel
theorem dX11_told_88 : decode cX11_told 88 = .ok (.idiv, 1) := by decide +kernel
theorem dX11_told_89 : decode cX11_told 89 = .ok (.iload_n 1, 1) := by decide +kernel
theorem dX11_told_90 : decode cX11_told 90 = .ok (.bipush 100, 2) := by decide +kernel
theorem dX11_told_92 : decode cX11_told 92 = .ok (.isub, 1) := by decide +kernel
theorem dX11_told_93 : decode cX11_told 93 = .ok (.bipush 10, 2) := by decide +kernel
theorem dX11_told_95 : decode cX11_told 95 = .ok (.irem, 1) := by decide +kernel
theorem dX11_told_96 : decode cX11_told 96 = .ok (.invokevirtual 150, 3) := by decide +kernel
theorem dX11_told_99 : decode cX11_told 99 = .ok (.ireturn, 1) := by decide +kernel
theorem dX11_told_100 : decode cX11_told 100 = .ok (.iload_n 1, 1) := by decide +kernel
theorem dX11_told_101 : decode cX11_told 101 = .ok (.tableswitch 75 0 4 #[35, 43, 51, 59, 67], 35) := by decide +kernel
theorem dX11_told_136 : decode cX11_told 136 = .ok (.aload_n 0, 1) := by decide +kernel
theorem dX11_told_137 : decode cX11_told 137 = .ok (.getfield 33, 3) := by decide +kernel
theorem dX11_told_140 : decode cX11_told 140 = .ok (.getfield 118, 3) := by decide +kernel
theorem dX11_told_143 : decode cX11_told 143 = .ok (.ireturn, 1) := by decide +kernel
theorem dX11_told_144 : decode cX11_told 144 = .ok (.aload_n 0, 1) := by decide +kernel
theorem dX11_told_145 : decode cX11_told 145 = .ok (.getfield 12, 3) := by decide +kernel
theorem dX11_told_148 : decode cX11_told 148 = .ok (.getfield 90, 3) := by decide +kernel
theorem dX11_told_151 : decode cX11_told 151 = .ok (.ireturn, 1) := by decide +kernel
theorem dX11_told_152 : decode cX11_told 152 = .ok (.aload_n 0, 1) := by decide +kernel
theorem dX11_told_153 : decode cX11_told 153 = .ok (.getfield 12, 3) := by decide +kernel
theorem dX11_told_156 : decode cX11_told 156 = .ok (.getfield 160, 3) := by decide +kernel
theorem dX11_told_159 : decode cX11_told 159 = .ok (.ireturn, 1) := by decide +kernel
theorem dX11_told_160 : decode cX11_told 160 = .ok (.aload_n 0, 1) := by decide +kernel
theorem dX11_told_161 : decode cX11_told 161 = .ok (.getfield 12, 3) := by decide +kernel
theorem dX11_told_164 : decode cX11_told 164 = .ok (.getfield 157, 3) := by decide +kernel
theorem dX11_told_167 : decode cX11_told 167 = .ok (.ireturn, 1) := by decide +kernel
theorem dX11_told_168 : decode cX11_told 168 = .ok (.aload_n 0, 1) := by decide +kernel
theorem dX11_told_169 : decode cX11_told 169 = .ok (.getfield 26, 3) := by decide +kernel
theorem dX11_told_172 : decode cX11_told 172 = .ok (.getfield 222, 3) := by decide +kernel
theorem dX11_told_175 : decode cX11_told 175 = .ok (.ireturn, 1) := by decide +kernel
theorem dX11_told_176 : decode cX11_told 176 = .ok (.bipush (-2), 2) := by decide +kernel
theorem dX11_told_178 : decode cX11_told 178 = .ok (.ireturn, 1) := by decide +kernel
theorem dX11_within_0 : decode cX11_within 0 = .ok (.iload_n 0, 1) := by decide +kernel
theorem dX11_within_1 : decode cX11_within 1 = .ok (.iload_n 1, 1) := by decide +kernel
theorem dX11_within_2 : decode cX11_within 2 = .ok (.if_icmp .lt 12, 3) := by decide +kernel
theorem dX11_within_5 : decode cX11_within 5 = .ok (.iload_n 0, 1) := by decide +kernel
theorem dX11_within_6 : decode cX11_within 6 = .ok (.iload_n 2, 1) := by decide +kernel
theorem dX11_within_7 : decode cX11_within 7 = .ok (.if_icmp .gt 7, 3) := by decide +kernel
theorem dX11_within_10 : decode cX11_within 10 = .ok (.iconst 1, 1) := by decide +kernel
theorem dX11_within_11 : decode cX11_within 11 = .ok (.goto 4, 3) := by decide +kernel
theorem dX11_within_14 : decode cX11_within 14 = .ok (.iconst 0, 1) := by decide +kernel
theorem dX11_within_15 : decode cX11_within 15 = .ok (.ireturn, 1) := by decide +kernel
theorem dX11_has_0 : decode cX11_has 0 = .ok (.iload_n 0, 1) := by decide +kernel
theorem dX11_has_1 : decode cX11_has 1 = .ok (.iload_n 1, 1) := by decide +kernel
theorem dX11_has_2 : decode cX11_has 2 = .ok (.ishr, 1) := by decide +kernel
theorem dX11_has_3 : decode cX11_has 3 = .ok (.iconst 1, 1) := by decide +kernel
theorem dX11_has_4 : decode cX11_has 4 = .ok (.iand, 1) := by decide +kernel
theorem dX11_has_5 : decode cX11_has 5 = .ok (.iconst 1, 1) := by decide +kernel
theorem dX11_has_6 : decode cX11_has 6 = .ok (.if_icmp .ne 7, 3) := by decide +kernel
theorem dX11_has_9 : decode cX11_has 9 = .ok (.iconst 1, 1) := by decide +kernel
theorem dX11_has_10 : decode cX11_has 10 = .ok (.goto 4, 3) := by decide +kernel
theorem dX11_has_13 : decode cX11_has 13 = .ok (.iconst 0, 1) := by decide +kernel
theorem dX11_has_14 : decode cX11_has 14 = .ok (.ireturn, 1) := by decide +kernel
