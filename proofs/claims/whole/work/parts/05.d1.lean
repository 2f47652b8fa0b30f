theorem dX1_init_0 : decode cX1_init 0 = .ok (.aload_n 0, 1) := by decide +kernel
theorem dX1_init_1 : decode cX1_init 1 = .ok (.invokespecial 5, 3) := by decide +kernel
theorem dX1_init_4 : decode cX1_init 4 = .ok (.aload_n 0, 1) := by decide +kernel
theorem dX1_init_5 : decode cX1_init 5 = .ok (.sipush 400, 3) := by decide +kernel
theorem dX1_init_8 : decode cX1_init 8 = .ok (.newarray .int, 2) := by decide +kernel
theorem dX1_init_10 : decode cX1_init 10 = .ok (.putfield 11, 3) := by decide +kernel
theorem dX1_init_13 : decode cX1_init 13 = .ok (.aload_n 0, 1) := by decide +kernel
theorem dX1_init_14 : decode cX1_init 14 = .ok (.sipush 400, 3) := by decide +kernel
theorem dX1_init_17 : decode cX1_init 17 = .ok (.newarray .int, 2) := by decide +kernel
theorem dX1_init_19 : decode cX1_init 19 = .ok (.putfield 15, 3) := by decide +kernel
theorem dX1_init_22 : decode cX1_init 22 = .ok (.aload_n 0, 1) := by decide +kernel
theorem dX1_init_23 : decode cX1_init 23 = .ok (.sipush 400, 3) := by decide +kernel
theorem dX1_init_26 : decode cX1_init 26 = .ok (.newarray .int, 2) := by decide +kernel
theorem dX1_init_28 : decode cX1_init 28 = .ok (.putfield 18, 3) := by decide +kernel
theorem dX1_init_31 : decode cX1_init 31 = .ok (.return_, 1) := by decide +kernel
set_option maxRecDepth 20000 in
theorem ggX1_begin_J7_fill_53178 : GoodIn wsX1_begin wsJ7_fill_53178 := goodIn_r _ [8] (by decide +kernel) (by decide +kernel)
set_option maxRecDepth 20000 in
theorem gX1_begin_J7_fill_53178 : GoodIn wsX1_begin (va_wsS RX1 21 yJ7_fill_53178 wsJ7_fill_53178) := goodIn_app (goodIn_of _ (by decide +kernel)) ggX1_begin_J7_fill_53178
set_option maxRecDepth 20000 in
theorem ggX1_begin_X8_listens : GoodIn wsX1_begin wsX8_listens := goodIn_r _ [13, 14, 15, 16, 17, 18, 19, 12, 20, 21, 46, 47, 48, 49, 50, 51, 52] (by decide +kernel) (by decide +kernel)
set_option maxRecDepth 20000 in
theorem gX1_begin_X8_listens : GoodIn wsX1_begin (wsV RX1 31 RX8 yX8_listens wsX8_listens) := goodIn_app (goodIn_of _ (by decide +kernel)) ggX1_begin_X8_listens
set_option maxRecDepth 20000 in
theorem ggX1_begin_X1_placeOf : GoodIn wsX1_begin wsX1_placeOf := goodIn_r _ [25, 26, 27, 28, 18, 19, 12, 20, 21, 46, 47, 48, 49, 50, 51, 52] (by decide +kernel) (by decide +kernel)
set_option maxRecDepth 20000 in
theorem gX1_begin_X1_placeOf : GoodIn wsX1_begin (va_wsS RX1 44 yX1_placeOf wsX1_placeOf) := goodIn_app (goodIn_of _ (by decide +kernel)) ggX1_begin_X1_placeOf
set_option maxRecDepth 20000 in
theorem ggX1_begin_X1_reach : GoodIn wsX1_begin wsX1_reach := goodIn_r _ [32, 2, 1, 33, 34, 35, 36, 37, 38, 39, 40, 41, 42, 43, 44, 45] (by decide +kernel) (by decide +kernel)
set_option maxRecDepth 20000 in
theorem gX1_begin_X1_reach : GoodIn wsX1_begin (wsV RX1 48 RX1 yX1_reach wsX1_reach) := goodIn_app (goodIn_of _ (by decide +kernel)) ggX1_begin_X1_reach
theorem dX1_begin_0 : decode cX1_begin 0 = .ok (.aload_n 0, 1) := by decide +kernel
theorem dX1_begin_1 : decode cX1_begin 1 = .ok (.getfield 11, 3) := by decide +kernel
theorem dX1_begin_4 : decode cX1_begin 4 = .ok (.bipush (-6), 2) := by decide +kernel
theorem dX1_begin_6 : decode cX1_begin 6 = .ok (.invokestatic 21, 3) := by decide +kernel
theorem dX1_begin_9 : decode cX1_begin 9 = .ok (.aload_n 0, 1) := by decide +kernel
theorem dX1_begin_10 : decode cX1_begin 10 = .ok (.iconst 0, 1) := by decide +kernel
theorem dX1_begin_11 : decode cX1_begin 11 = .ok (.putfield 27, 3) := by decide +kernel
theorem dX1_begin_14 : decode cX1_begin 14 = .ok (.aload_n 0, 1) := by decide +kernel
theorem dX1_begin_15 : decode cX1_begin 15 = .ok (.aload_n 1, 1) := by decide +kernel
theorem dX1_begin_16 : decode cX1_begin 16 = .ok (.iload_n 2, 1) := by decide +kernel
theorem dX1_begin_17 : decode cX1_begin 17 = .ok (.invokevirtual 31, 3) := by decide +kernel
theorem dX1_begin_20 : decode cX1_begin 20 = .ok (.putfield 37, 3) := by decide +kernel
theorem dX1_begin_23 : decode cX1_begin 23 = .ok (.aload_n 0, 1) := by decide +kernel
theorem dX1_begin_24 : decode cX1_begin 24 = .ok (.aload_n 1, 1) := by decide +kernel
theorem dX1_begin_25 : decode cX1_begin 25 = .ok (.iload_n 3, 1) := by decide +kernel
theorem dX1_begin_26 : decode cX1_begin 26 = .ok (.invokevirtual 31, 3) := by decide +kernel
theorem dX1_begin_29 : decode cX1_begin 29 = .ok (.putfield 41, 3) := by decide +kernel
theorem dX1_begin_32 : decode cX1_begin 32 = .ok (.aload_n 0, 1) := by decide +kernel
theorem dX1_begin_33 : decode cX1_begin 33 = .ok (.aload_n 1, 1) := by decide +kernel
theorem dX1_begin_34 : decode cX1_begin 34 = .ok (.iload_n 2, 1) := by decide +kernel
theorem dX1_begin_35 : decode cX1_begin 35 = .ok (.invokestatic 44, 3) := by decide +kernel
theorem dX1_begin_38 : decode cX1_begin 38 = .ok (.bipush 20, 2) := by decide +kernel
theorem dX1_begin_40 : decode cX1_begin 40 = .ok (.imul, 1) := by decide +kernel
theorem dX1_begin_41 : decode cX1_begin 41 = .ok (.aload_n 1, 1) := by decide +kernel
theorem dX1_begin_42 : decode cX1_begin 42 = .ok (.iload_n 3, 1) := by decide +kernel
theorem dX1_begin_43 : decode cX1_begin 43 = .ok (.invokestatic 44, 3) := by decide +kernel
theorem dX1_begin_46 : decode cX1_begin 46 = .ok (.iadd, 1) := by decide +kernel
theorem dX1_begin_47 : decode cX1_begin 47 = .ok (.iconst 0, 1) := by decide +kernel
theorem dX1_begin_48 : decode cX1_begin 48 = .ok (.bipush (-6), 2) := by decide +kernel
theorem dX1_begin_50 : decode cX1_begin 50 = .ok (.invokevirtual 48, 3) := by decide +kernel
theorem dX1_begin_53 : decode cX1_begin 53 = .ok (.return_, 1) := by decide +kernel
set_option maxRecDepth 20000 in
theorem ggX1_search_X11_within : GoodIn wsX1_search wsX11_within := goodIn_r _ [9] (by decide +kernel) (by decide +kernel)
set_option maxRecDepth 20000 in
theorem gX1_search_X11_within_n58 : GoodIn wsX1_search (wsX11_within) := ggX1_search_X11_within
set_option maxRecDepth 20000 in
theorem ggX1_search_X1_goOnFrom : GoodIn wsX1_search wsX1_goOnFrom := goodIn_r _ [14, 15, 16, 17, 18, 19, 20, 21, 22, 7, 8, 9, 23, 24, 13, 25, 26, 27, 28, 29, 30, 31, 32, 33, 3, 5, 6, 4, 34, 35, 36, 37, 38, 39, 40, 41, 42, 43] (by decide +kernel) (by decide +kernel)
set_option maxRecDepth 20000 in
theorem gX1_search_X1_goOnFrom : GoodIn wsX1_search (wsV RX1 62 RX1 yX1_goOnFrom wsX1_goOnFrom) := goodIn_app (goodIn_of _ (by decide +kernel)) ggX1_search_X1_goOnFrom
theorem dX1_search_0 : decode cX1_search 0 = .ok (.aload_n 0, 1) := by decide +kernel
theorem dX1_search_1 : decode cX1_search 1 = .ok (.bipush (-6), 2) := by decide +kernel
theorem dX1_search_3 : decode cX1_search 3 = .ok (.putfield 52, 3) := by decide +kernel
theorem dX1_search_6 : decode cX1_search 6 = .ok (.aload_n 0, 1) := by decide +kernel
theorem dX1_search_7 : decode cX1_search 7 = .ok (.bipush (-6), 2) := by decide +kernel
theorem dX1_search_9 : decode cX1_search 9 = .ok (.putfield 55, 3) := by decide +kernel
theorem dX1_search_12 : decode cX1_search 12 = .ok (.iconst 0, 1) := by decide +kernel
theorem dX1_search_13 : decode cX1_search 13 = .ok (.istore 4, 2) := by decide +kernel
theorem dX1_search_15 : decode cX1_search 15 = .ok (.iload 4, 2) := by decide +kernel
theorem dX1_search_17 : decode cX1_search 17 = .ok (.aload_n 0, 1) := by decide +kernel
theorem dX1_search_18 : decode cX1_search 18 = .ok (.getfield 27, 3) := by decide +kernel
theorem dX1_search_21 : decode cX1_search 21 = .ok (.if_icmp .ge 109, 3) := by decide +kernel
theorem dX1_search_24 : decode cX1_search 24 = .ok (.iload 4, 2) := by decide +kernel
theorem dX1_search_26 : decode cX1_search 26 = .ok (.sipush 400, 3) := by decide +kernel
theorem dX1_search_29 : decode cX1_search 29 = .ok (.if_icmp .ge 101, 3) := by decide +kernel
theorem dX1_search_32 : decode cX1_search 32 = .ok (.aload_n 0, 1) := by decide +kernel
theorem dX1_search_33 : decode cX1_search 33 = .ok (.getfield 18, 3) := by decide +kernel
theorem dX1_search_36 : decode cX1_search 36 = .ok (.iload 4, 2) := by decide +kernel
theorem dX1_search_38 : decode cX1_search 38 = .ok (.iaload, 1) := by decide +kernel
theorem dX1_search_39 : decode cX1_search 39 = .ok (.istore 5, 2) := by decide +kernel
theorem dX1_search_41 : decode cX1_search 41 = .ok (.iload 5, 2) := by decide +kernel
theorem dX1_search_43 : decode cX1_search 43 = .ok (.iconst 0, 1) := by decide +kernel
theorem dX1_search_44 : decode cX1_search 44 = .ok (.sipush 399, 3) := by decide +kernel
theorem dX1_search_47 : decode cX1_search 47 = .ok (.invokestatic 58, 3) := by decide +kernel
theorem dX1_search_50 : decode cX1_search 50 = .ok (.ifCond .ne 4, 3) := by decide +kernel
theorem dX1_search_53 : decode cX1_search 53 = .ok (.return_, 1) := by decide +kernel
theorem dX1_search_54 : decode cX1_search 54 = .ok (.iload 5, 2) := by decide +kernel
theorem dX1_search_56 : decode cX1_search 56 = .ok (.bipush 20, 2) := by decide +kernel
theorem dX1_search_58 : decode cX1_search 58 = .ok (.idiv, 1) := by decide +kernel
theorem dX1_search_59 : decode cX1_search 59 = .ok (.bipush 10, 2) := by decide +kernel
theorem dX1_search_61 : decode cX1_search 61 = .ok (.idiv, 1) := by decide +kernel
theorem dX1_search_62 : decode cX1_search 62 = .ok (.iload_n 2, 1) := by decide +kernel
theorem dX1_search_63 : decode cX1_search 63 = .ok (.if_icmp .ne 38, 3) := by decide +kernel
theorem dX1_search_66 : decode cX1_search 66 = .ok (.iload 5, 2) := by decide +kernel
theorem dX1_search_68 : decode cX1_search 68 = .ok (.bipush 20, 2) := by decide +kernel
theorem dX1_search_70 : decode cX1_search 70 = .ok (.irem, 1) := by decide +kernel
theorem dX1_search_71 : decode cX1_search 71 = .ok (.bipush 10, 2) := by decide +kernel
theorem dX1_search_73 : decode cX1_search 73 = .ok (.idiv, 1) := by decide +kernel
theorem dX1_search_74 : decode cX1_search 74 = .ok (.iload_n 3, 1) := by decide +kernel
theorem dX1_search_75 : decode cX1_search 75 = .ok (.if_icmp .ne 26, 3) := by decide +kernel
theorem dX1_search_78 : decode cX1_search 78 = .ok (.aload_n 0, 1) := by decide +kernel
theorem dX1_search_79 : decode cX1_search 79 = .ok (.aload_n 0, 1) := by decide +kernel
theorem dX1_search_80 : decode cX1_search 80 = .ok (.getfield 11, 3) := by decide +kernel
theorem dX1_search_83 : decode cX1_search 83 = .ok (.iload 5, 2) := by decide +kernel
theorem dX1_search_85 : decode cX1_search 85 = .ok (.iaload, 1) := by decide +kernel
theorem dX1_search_86 : decode cX1_search 86 = .ok (.putfield 52, 3) := by decide +kernel
theorem dX1_search_89 : decode cX1_search 89 = .ok (.aload_n 0, 1) := by decide +kernel
theorem dX1_search_90 : decode cX1_search 90 = .ok (.aload_n 0, 1) := by decide +kernel
theorem dX1_search_91 : decode cX1_search 91 = .ok (.getfield 15, 3) := by decide +kernel
theorem dX1_search_94 : decode cX1_search 94 = .ok (.iload 5, 2) := by decide +kernel
theorem dX1_search_96 : decode cX1_search 96 = .ok (.iaload, 1) := by decide +kernel
theorem dX1_search_97 : decode cX1_search 97 = .ok (.putfield 55, 3) := by decide +kernel
theorem dX1_search_100 : decode cX1_search 100 = .ok (.return_, 1) := by decide +kernel
theorem dX1_search_101 : decode cX1_search 101 = .ok (.aload_n 0, 1) := by decide +kernel
theorem dX1_search_102 : decode cX1_search 102 = .ok (.iload 5, 2) := by decide +kernel
theorem dX1_search_104 : decode cX1_search 104 = .ok (.aload_n 0, 1) := by decide +kernel
theorem dX1_search_105 : decode cX1_search 105 = .ok (.getfield 11, 3) := by decide +kernel
theorem dX1_search_108 : decode cX1_search 108 = .ok (.iload 5, 2) := by decide +kernel
theorem dX1_search_110 : decode cX1_search 110 = .ok (.iaload, 1) := by decide +kernel
theorem dX1_search_111 : decode cX1_search 111 = .ok (.iconst 1, 1) := by decide +kernel
theorem dX1_search_112 : decode cX1_search 112 = .ok (.iadd, 1) := by decide +kernel
theorem dX1_search_113 : decode cX1_search 113 = .ok (.aload_n 0, 1) := by decide +kernel
theorem dX1_search_114 : decode cX1_search 114 = .ok (.getfield 15, 3) := by decide +kernel
theorem dX1_search_117 : decode cX1_search 117 = .ok (.iload 5, 2) := by decide +kernel
theorem dX1_search_119 : decode cX1_search 119 = .ok (.iaload, 1) := by decide +kernel
theorem dX1_search_120 : decode cX1_search 120 = .ok (.aload_n 1, 1) := by decide +kernel
theorem dX1_search_121 : decode cX1_search 121 = .ok (.invokevirtual 62, 3) := by decide +kernel
theorem dX1_search_124 : decode cX1_search 124 = .ok (.iinc 4 1, 3) := by decide +kernel
theorem dX1_search_127 : decode cX1_search 127 = .ok (.goto (-112), 3) := by decide +kernel
theorem dX1_search_130 : decode cX1_search 130 = .ok (.return_, 1) := by decide +kernel
set_option maxRecDepth 20000 in
theorem ggX1_goOnFrom_X9_wordsOf : GoodIn wsX1_goOnFrom wsX9_wordsOf := goodIn_r _ [7, 8, 9, 10, 11, 36, 37] (by decide +kernel) (by decide +kernel)
set_option maxRecDepth 20000 in
theorem gX1_goOnFrom_X9_wordsOf : GoodIn wsX1_goOnFrom (wsV RX1 66 RX9 yX9_wordsOf wsX9_wordsOf) := goodIn_app (goodIn_of _ (by decide +kernel)) ggX1_goOnFrom_X9_wordsOf
set_option maxRecDepth 20000 in
theorem ggX1_goOnFrom_X1_behindReading : GoodIn wsX1_goOnFrom wsX1_behindReading := goodIn_r _ [15, 16, 17, 18, 19] (by decide +kernel) (by decide +kernel)
set_option maxRecDepth 20000 in
theorem gX1_goOnFrom_X1_behindReading : GoodIn wsX1_goOnFrom (va_wsS RX1 72 yX1_behindReading wsX1_behindReading) := goodIn_app (goodIn_of _ (by decide +kernel)) ggX1_goOnFrom_X1_behindReading
set_option maxRecDepth 20000 in
theorem ggX1_goOnFrom_X1_reach : GoodIn wsX1_goOnFrom wsX1_reach := goodIn_r _ [23, 24, 25, 26, 27, 9, 10, 11, 28, 29, 30, 31, 32, 33, 34, 35] (by decide +kernel) (by decide +kernel)
set_option maxRecDepth 20000 in
theorem gX1_goOnFrom_X1_reach : GoodIn wsX1_goOnFrom (wsV RX1 48 RX1 yX1_reach wsX1_reach) := goodIn_app (goodIn_of _ (by decide +kernel)) ggX1_goOnFrom_X1_reach
theorem dX1_goOnFrom_0 : decode cX1_goOnFrom 0 = .ok (.iconst 0, 1) := by decide +kernel
theorem dX1_goOnFrom_1 : decode cX1_goOnFrom 1 = .ok (.istore 5, 2) := by decide +kernel
theorem dX1_goOnFrom_3 : decode cX1_goOnFrom 3 = .ok (.iload 5, 2) := by decide +kernel
theorem dX1_goOnFrom_5 : decode cX1_goOnFrom 5 = .ok (.bipush 10, 2) := by decide +kernel
theorem dX1_goOnFrom_7 : decode cX1_goOnFrom 7 = .ok (.if_icmp .ge 73, 3) := by decide +kernel
theorem dX1_goOnFrom_10 : decode cX1_goOnFrom 10 = .ok (.aload 4, 2) := by decide +kernel
theorem dX1_goOnFrom_12 : decode cX1_goOnFrom 12 = .ok (.iload 5, 2) := by decide +kernel
theorem dX1_goOnFrom_14 : decode cX1_goOnFrom 14 = .ok (.invokevirtual 66, 3) := by decide +kernel
theorem dX1_goOnFrom_17 : decode cX1_goOnFrom 17 = .ok (.istore 6, 2) := by decide +kernel
theorem dX1_goOnFrom_19 : decode cX1_goOnFrom 19 = .ok (.iload_n 1, 1) := by decide +kernel
theorem dX1_goOnFrom_20 : decode cX1_goOnFrom 20 = .ok (.bipush 20, 2) := by decide +kernel
theorem dX1_goOnFrom_22 : decode cX1_goOnFrom 22 = .ok (.idiv, 1) := by decide +kernel
theorem dX1_goOnFrom_23 : decode cX1_goOnFrom 23 = .ok (.iload 6, 2) := by decide +kernel
theorem dX1_goOnFrom_25 : decode cX1_goOnFrom 25 = .ok (.aload_n 0, 1) := by decide +kernel
theorem dX1_goOnFrom_26 : decode cX1_goOnFrom 26 = .ok (.getfield 37, 3) := by decide +kernel
theorem dX1_goOnFrom_29 : decode cX1_goOnFrom 29 = .ok (.invokestatic 72, 3) := by decide +kernel
theorem dX1_goOnFrom_32 : decode cX1_goOnFrom 32 = .ok (.istore 7, 2) := by decide +kernel
theorem dX1_goOnFrom_34 : decode cX1_goOnFrom 34 = .ok (.iload_n 1, 1) := by decide +kernel
theorem dX1_goOnFrom_35 : decode cX1_goOnFrom 35 = .ok (.bipush 20, 2) := by decide +kernel
theorem dX1_goOnFrom_37 : decode cX1_goOnFrom 37 = .ok (.irem, 1) := by decide +kernel
theorem dX1_goOnFrom_38 : decode cX1_goOnFrom 38 = .ok (.iload 6, 2) := by decide +kernel
theorem dX1_goOnFrom_40 : decode cX1_goOnFrom 40 = .ok (.aload_n 0, 1) := by decide +kernel
theorem dX1_goOnFrom_41 : decode cX1_goOnFrom 41 = .ok (.getfield 41, 3) := by decide +kernel
theorem dX1_goOnFrom_44 : decode cX1_goOnFrom 44 = .ok (.invokestatic 72, 3) := by decide +kernel
theorem dX1_goOnFrom_47 : decode cX1_goOnFrom 47 = .ok (.istore 8, 2) := by decide +kernel
theorem dX1_goOnFrom_49 : decode cX1_goOnFrom 49 = .ok (.aload_n 0, 1) := by decide +kernel
theorem dX1_goOnFrom_50 : decode cX1_goOnFrom 50 = .ok (.iload 7, 2) := by decide +kernel
theorem dX1_goOnFrom_52 : decode cX1_goOnFrom 52 = .ok (.bipush 20, 2) := by decide +kernel
theorem dX1_goOnFrom_54 : decode cX1_goOnFrom 54 = .ok (.imul, 1) := by decide +kernel
theorem dX1_goOnFrom_55 : decode cX1_goOnFrom 55 = .ok (.iload 8, 2) := by decide +kernel
theorem dX1_goOnFrom_57 : decode cX1_goOnFrom 57 = .ok (.iadd, 1) := by decide +kernel
theorem dX1_goOnFrom_58 : decode cX1_goOnFrom 58 = .ok (.iload_n 2, 1) := by decide +kernel
theorem dX1_goOnFrom_59 : decode cX1_goOnFrom 59 = .ok (.iload_n 3, 1) := by decide +kernel
theorem dX1_goOnFrom_60 : decode cX1_goOnFrom 60 = .ok (.bipush (-6), 2) := by decide +kernel
theorem dX1_goOnFrom_62 : decode cX1_goOnFrom 62 = .ok (.if_icmp .ne 8, 3) := by decide +kernel
theorem dX1_goOnFrom_65 : decode cX1_goOnFrom 65 = .ok (.iload 5, 2) := by decide +kernel
theorem dX1_goOnFrom_67 : decode cX1_goOnFrom 67 = .ok (.goto 4, 3) := by decide +kernel
theorem dX1_goOnFrom_70 : decode cX1_goOnFrom 70 = .ok (.iload_n 3, 1) := by decide +kernel
theorem dX1_goOnFrom_71 : decode cX1_goOnFrom 71 = .ok (.invokevirtual 48, 3) := by decide +kernel
theorem dX1_goOnFrom_74 : decode cX1_goOnFrom 74 = .ok (.iinc 5 1, 3) := by decide +kernel
theorem dX1_goOnFrom_77 : decode cX1_goOnFrom 77 = .ok (.goto (-74), 3) := by decide +kernel
theorem dX1_goOnFrom_80 : decode cX1_goOnFrom 80 = .ok (.return_, 1) := by decide +kernel
set_option maxRecDepth 20000 in
theorem ggX1_reach_X11_within : GoodIn wsX1_reach wsX11_within := goodIn_r _ [7] (by decide +kernel) (by decide +kernel)
set_option maxRecDepth 20000 in
theorem gX1_reach_X11_within_n58 : GoodIn wsX1_reach (wsX11_within) := ggX1_reach_X11_within
theorem dX1_reach_0 : decode cX1_reach 0 = .ok (.iload_n 1, 1) := by decide +kernel
theorem dX1_reach_1 : decode cX1_reach 1 = .ok (.iconst 0, 1) := by decide +kernel
theorem dX1_reach_2 : decode cX1_reach 2 = .ok (.sipush 399, 3) := by decide +kernel
theorem dX1_reach_5 : decode cX1_reach 5 = .ok (.invokestatic 58, 3) := by decide +kernel
theorem dX1_reach_8 : decode cX1_reach 8 = .ok (.ifCond .eq 24, 3) := by decide +kernel
theorem dX1_reach_11 : decode cX1_reach 11 = .ok (.aload_n 0, 1) := by decide +kernel
theorem dX1_reach_12 : decode cX1_reach 12 = .ok (.getfield 27, 3) := by decide +kernel
theorem dX1_reach_15 : decode cX1_reach 15 = .ok (.sipush 400, 3) := by decide +kernel
theorem dX1_reach_18 : decode cX1_reach 18 = .ok (.if_icmp .ge 14, 3) := by decide +kernel
theorem dX1_reach_21 : decode cX1_reach 21 = .ok (.aload_n 0, 1) := by decide +kernel
theorem dX1_reach_22 : decode cX1_reach 22 = .ok (.getfield 11, 3) := by decide +kernel
theorem dX1_reach_25 : decode cX1_reach 25 = .ok (.iload_n 1, 1) := by decide +kernel
theorem dX1_reach_26 : decode cX1_reach 26 = .ok (.iaload, 1) := by decide +kernel
theorem dX1_reach_27 : decode cX1_reach 27 = .ok (.bipush (-6), 2) := by decide +kernel
theorem dX1_reach_29 : decode cX1_reach 29 = .ok (.if_icmp .eq 4, 3) := by decide +kernel
theorem dX1_reach_32 : decode cX1_reach 32 = .ok (.return_, 1) := by decide +kernel
theorem dX1_reach_33 : decode cX1_reach 33 = .ok (.aload_n 0, 1) := by decide +kernel
theorem dX1_reach_34 : decode cX1_reach 34 = .ok (.getfield 11, 3) := by decide +kernel
theorem dX1_reach_37 : decode cX1_reach 37 = .ok (.iload_n 1, 1) := by decide +kernel
theorem dX1_reach_38 : decode cX1_reach 38 = .ok (.iload_n 2, 1) := by decide +kernel
theorem dX1_reach_39 : decode cX1_reach 39 = .ok (.iastore, 1) := by decide +kernel
theorem dX1_reach_40 : decode cX1_reach 40 = .ok (.aload_n 0, 1) := by decide +kernel
theorem dX1_reach_41 : decode cX1_reach 41 = .ok (.getfield 15, 3) := by decide +kernel
theorem dX1_reach_44 : decode cX1_reach 44 = .ok (.iload_n 1, 1) := by decide +kernel
theorem dX1_reach_45 : decode cX1_reach 45 = .ok (.iload_n 3, 1) := by decide +kernel
theorem dX1_reach_46 : decode cX1_reach 46 = .ok (.iastore, 1) := by decide +kernel
theorem dX1_reach_47 : decode cX1_reach 47 = .ok (.aload_n 0, 1) := by decide +kernel
theorem dX1_reach_48 : decode cX1_reach 48 = .ok (.getfield 18, 3) := by decide +kernel
theorem dX1_reach_51 : decode cX1_reach 51 = .ok (.aload_n 0, 1) := by decide +kernel
theorem dX1_reach_52 : decode cX1_reach 52 = .ok (.getfield 27, 3) := by decide +kernel
theorem dX1_reach_55 : decode cX1_reach 55 = .ok (.iload_n 1, 1) := by decide +kernel
theorem dX1_reach_56 : decode cX1_reach 56 = .ok (.iastore, 1) := by decide +kernel
theorem dX1_reach_57 : decode cX1_reach 57 = .ok (.aload_n 0, 1) := by decide +kernel
theorem dX1_reach_58 : decode cX1_reach 58 = .ok (.dup, 1) := by decide +kernel
theorem dX1_reach_59 : decode cX1_reach 59 = .ok (.getfield 27, 3) := by decide +kernel
theorem dX1_reach_62 : decode cX1_reach 62 = .ok (.iconst 1, 1) := by decide +kernel
theorem dX1_reach_63 : decode cX1_reach 63 = .ok (.iadd, 1) := by decide +kernel
theorem dX1_reach_64 : decode cX1_reach 64 = .ok (.putfield 27, 3) := by decide +kernel
theorem dX1_reach_67 : decode cX1_reach 67 = .ok (.return_, 1) := by decide +kernel
set_option maxRecDepth 20000 in
theorem ggX1_placeOf_X8_isThere : GoodIn wsX1_placeOf wsX8_isThere := goodIn_r _ [7, 8, 9, 10, 11, 12, 13, 14, 15] (by decide +kernel) (by decide +kernel)
set_option maxRecDepth 20000 in
theorem gX1_placeOf_X8_isThere : GoodIn wsX1_placeOf (wsV RX1 76 RX8 yX8_isThere wsX8_isThere) := goodIn_app (goodIn_of _ (by decide +kernel)) ggX1_placeOf_X8_isThere
theorem dX1_placeOf_0 : decode cX1_placeOf 0 = .ok (.aload_n 0, 1) := by decide +kernel
theorem dX1_placeOf_1 : decode cX1_placeOf 1 = .ok (.iload_n 1, 1) := by decide +kernel
theorem dX1_placeOf_2 : decode cX1_placeOf 2 = .ok (.invokevirtual 76, 3) := by decide +kernel
theorem dX1_placeOf_5 : decode cX1_placeOf 5 = .ok (.ifCond .eq 22, 3) := by decide +kernel
theorem dX1_placeOf_8 : decode cX1_placeOf 8 = .ok (.aload_n 0, 1) := by decide +kernel
theorem dX1_placeOf_9 : decode cX1_placeOf 9 = .ok (.getfield 79, 3) := by decide +kernel
theorem dX1_placeOf_12 : decode cX1_placeOf 12 = .ok (.iload_n 1, 1) := by decide +kernel
theorem dX1_placeOf_13 : decode cX1_placeOf 13 = .ok (.iaload, 1) := by decide +kernel
theorem dX1_placeOf_14 : decode cX1_placeOf 14 = .ok (.bipush 10, 2) := by decide +kernel
theorem dX1_placeOf_16 : decode cX1_placeOf 16 = .ok (.imul, 1) := by decide +kernel
theorem dX1_placeOf_17 : decode cX1_placeOf 17 = .ok (.aload_n 0, 1) := by decide +kernel
theorem dX1_placeOf_18 : decode cX1_placeOf 18 = .ok (.getfield 82, 3) := by decide +kernel
theorem dX1_placeOf_21 : decode cX1_placeOf 21 = .ok (.iload_n 1, 1) := by decide +kernel
theorem dX1_placeOf_22 : decode cX1_placeOf 22 = .ok (.iaload, 1) := by decide +kernel
theorem dX1_placeOf_23 : decode cX1_placeOf 23 = .ok (.iadd, 1) := by decide +kernel
theorem dX1_placeOf_24 : decode cX1_placeOf 24 = .ok (.goto 4, 3) := by decide +kernel
theorem dX1_placeOf_27 : decode cX1_placeOf 27 = .ok (.iconst 0, 1) := by decide +kernel
theorem dX1_placeOf_28 : decode cX1_placeOf 28 = .ok (.ireturn, 1) := by decide +kernel
theorem dX1_behindReading_0 : decode cX1_behindReading 0 = .ok (.iload_n 0, 1) := by decide +kernel
theorem dX1_behindReading_1 : decode cX1_behindReading 1 = .ok (.bipush 10, 2) := by decide +kernel
theorem dX1_behindReading_3 : decode cX1_behindReading 3 = .ok (.idiv, 1) := by decide +kernel
theorem dX1_behindReading_4 : decode cX1_behindReading 4 = .ok (.istore_n 3, 1) := by decide +kernel
theorem dX1_behindReading_5 : decode cX1_behindReading 5 = .ok (.iload_n 0, 1) := by decide +kernel
theorem dX1_behindReading_6 : decode cX1_behindReading 6 = .ok (.bipush 10, 2) := by decide +kernel
theorem dX1_behindReading_8 : decode cX1_behindReading 8 = .ok (.irem, 1) := by decide +kernel
theorem dX1_behindReading_9 : decode cX1_behindReading 9 = .ok (.istore 4, 2) := by decide +kernel
theorem dX1_behindReading_11 : decode cX1_behindReading 11 = .ok (.iload_n 2, 1) := by decide +kernel
theorem dX1_behindReading_12 : decode cX1_behindReading 12 = .ok (.ifCond .eq 21, 3) := by decide +kernel
theorem dX1_behindReading_15 : decode cX1_behindReading 15 = .ok (.iload 4, 2) := by decide +kernel
theorem dX1_behindReading_17 : decode cX1_behindReading 17 = .ok (.iload_n 1, 1) := by decide +kernel
theorem dX1_behindReading_18 : decode cX1_behindReading 18 = .ok (.if_icmp .lt 15, 3) := by decide +kernel
theorem dX1_behindReading_21 : decode cX1_behindReading 21 = .ok (.iconst 1, 1) := by decide +kernel
theorem dX1_behindReading_22 : decode cX1_behindReading 22 = .ok (.iload_n 3, 1) := by decide +kernel
theorem dX1_behindReading_23 : decode cX1_behindReading 23 = .ok (.isub, 1) := by decide +kernel
theorem dX1_behindReading_24 : decode cX1_behindReading 24 = .ok (.bipush 10, 2) := by decide +kernel
theorem dX1_behindReading_26 : decode cX1_behindReading 26 = .ok (.imul, 1) := by decide +kernel
theorem dX1_behindReading_27 : decode cX1_behindReading 27 = .ok (.iload 4, 2) := by decide +kernel
theorem dX1_behindReading_29 : decode cX1_behindReading 29 = .ok (.iadd, 1) := by decide +kernel
theorem dX1_behindReading_30 : decode cX1_behindReading 30 = .ok (.iload_n 1, 1) := by decide +kernel
theorem dX1_behindReading_31 : decode cX1_behindReading 31 = .ok (.isub, 1) := by decide +kernel
theorem dX1_behindReading_32 : decode cX1_behindReading 32 = .ok (.ireturn, 1) := by decide +kernel
theorem dX1_behindReading_33 : decode cX1_behindReading 33 = .ok (.iload_n 3, 1) := by decide +kernel
theorem dX1_behindReading_34 : decode cX1_behindReading 34 = .ok (.bipush 10, 2) := by decide +kernel
theorem dX1_behindReading_36 : decode cX1_behindReading 36 = .ok (.imul, 1) := by decide +kernel
theorem dX1_behindReading_37 : decode cX1_behindReading 37 = .ok (.bipush 9, 2) := by decide +kernel
theorem dX1_behindReading_39 : decode cX1_behindReading 39 = .ok (.iload 4, 2) := by decide +kernel
theorem dX1_behindReading_41 : decode cX1_behindReading 41 = .ok (.iconst 1, 1) := by decide +kernel
theorem dX1_behindReading_42 : decode cX1_behindReading 42 = .ok (.iadd, 1) := by decide +kernel
theorem dX1_behindReading_43 : decode cX1_behindReading 43 = .ok (.invokestatic 85, 3) := by decide +kernel
theorem dX1_behindReading_46 : decode cX1_behindReading 46 = .ok (.iadd, 1) := by decide +kernel
theorem dX1_behindReading_47 : decode cX1_behindReading 47 = .ok (.ireturn, 1) := by decide +kernel
theorem dX2_init_0 : decode cX2_init 0 = .ok (.aload_n 0, 1) := by decide +kernel
theorem dX2_init_1 : decode cX2_init 1 = .ok (.invokespecial 1, 3) := by decide +kernel
theorem dX2_init_4 : decode cX2_init 4 = .ok (.aload_n 0, 1) := by decide +kernel
theorem dX2_init_5 : decode cX2_init 5 = .ok (.lconst 1, 1) := by decide +kernel
theorem dX2_init_6 : decode cX2_init 6 = .ok (.putfield 7, 3) := by decide +kernel
theorem dX2_init_9 : decode cX2_init 9 = .ok (.return_, 1) := by decide +kernel
set_option maxRecDepth 20000 in
theorem ggX2_setWaiting_X2_reduce : GoodIn wsX2_setWaiting wsX2_reduce := goodIn_r _ [11, 1, 2, 12, 13, 10, 14, 15, 16] (by decide +kernel) (by decide +kernel)
set_option maxRecDepth 20000 in
theorem gX2_setWaiting_X2_reduce : GoodIn wsX2_setWaiting (wsV RX2 22 RX2 yX2_reduce wsX2_reduce) := goodIn_app (goodIn_of _ (by decide +kernel)) ggX2_setWaiting_X2_reduce
theorem dX2_setWaiting_0 : decode cX2_setWaiting 0 = .ok (.aload_n 0, 1) := by decide +kernel
theorem dX2_setWaiting_1 : decode cX2_setWaiting 1 = .ok (.lconst 0, 1) := by decide +kernel
theorem dX2_setWaiting_2 : decode cX2_setWaiting 2 = .ok (.putfield 13, 3) := by decide +kernel
theorem dX2_setWaiting_5 : decode cX2_setWaiting 5 = .ok (.aload_n 0, 1) := by decide +kernel
theorem dX2_setWaiting_6 : decode cX2_setWaiting 6 = .ok (.lconst 1, 1) := by decide +kernel
theorem dX2_setWaiting_7 : decode cX2_setWaiting 7 = .ok (.putfield 7, 3) := by decide +kernel
theorem dX2_setWaiting_10 : decode cX2_setWaiting 10 = .ok (.iconst 0, 1) := by decide +kernel
theorem dX2_setWaiting_11 : decode cX2_setWaiting 11 = .ok (.istore_n 3, 1) := by decide +kernel
theorem dX2_setWaiting_12 : decode cX2_setWaiting 12 = .ok (.iload_n 3, 1) := by decide +kernel
theorem dX2_setWaiting_13 : decode cX2_setWaiting 13 = .ok (.iload_n 1, 1) := by decide +kernel
theorem dX2_setWaiting_14 : decode cX2_setWaiting 14 = .ok (.if_icmp .ge 66, 3) := by decide +kernel
theorem dX2_setWaiting_17 : decode cX2_setWaiting 17 = .ok (.lconst 0, 1) := by decide +kernel
theorem dX2_setWaiting_18 : decode cX2_setWaiting 18 = .ok (.lstore 4, 2) := by decide +kernel
theorem dX2_setWaiting_20 : decode cX2_setWaiting 20 = .ok (.iconst 0, 1) := by decide +kernel
theorem dX2_setWaiting_21 : decode cX2_setWaiting 21 = .ok (.istore 6, 2) := by decide +kernel
theorem dX2_setWaiting_23 : decode cX2_setWaiting 23 = .ok (.iload 6, 2) := by decide +kernel
theorem dX2_setWaiting_25 : decode cX2_setWaiting 25 = .ok (.iload_n 2, 1) := by decide +kernel
theorem dX2_setWaiting_26 : decode cX2_setWaiting 26 = .ok (.if_icmp .gt 29, 3) := by decide +kernel
theorem dX2_setWaiting_29 : decode cX2_setWaiting 29 = .ok (.lload 4, 2) := by decide +kernel
theorem dX2_setWaiting_31 : decode cX2_setWaiting 31 = .ok (.iload 6, 2) := by decide +kernel
theorem dX2_setWaiting_33 : decode cX2_setWaiting 33 = .ok (.i2l, 1) := by decide +kernel
theorem dX2_setWaiting_34 : decode cX2_setWaiting 34 = .ok (.aload_n 0, 1) := by decide +kernel
theorem dX2_setWaiting_35 : decode cX2_setWaiting 35 = .ok (.getfield 7, 3) := by decide +kernel
theorem dX2_setWaiting_38 : decode cX2_setWaiting 38 = .ok (.lmul, 1) := by decide +kernel
theorem dX2_setWaiting_39 : decode cX2_setWaiting 39 = .ok (.aload_n 0, 1) := by decide +kernel
theorem dX2_setWaiting_40 : decode cX2_setWaiting 40 = .ok (.getfield 13, 3) := by decide +kernel
theorem dX2_setWaiting_43 : decode cX2_setWaiting 43 = .ok (.invokestatic 16, 3) := by decide +kernel
theorem dX2_setWaiting_46 : decode cX2_setWaiting 46 = .ok (.ladd, 1) := by decide +kernel
theorem dX2_setWaiting_47 : decode cX2_setWaiting 47 = .ok (.lstore 4, 2) := by decide +kernel
theorem dX2_setWaiting_49 : decode cX2_setWaiting 49 = .ok (.iinc 6 1, 3) := by decide +kernel
theorem dX2_setWaiting_52 : decode cX2_setWaiting 52 = .ok (.goto (-29), 3) := by decide +kernel
theorem dX2_setWaiting_55 : decode cX2_setWaiting 55 = .ok (.aload_n 0, 1) := by decide +kernel
theorem dX2_setWaiting_56 : decode cX2_setWaiting 56 = .ok (.lload 4, 2) := by decide +kernel
theorem dX2_setWaiting_58 : decode cX2_setWaiting 58 = .ok (.putfield 13, 3) := by decide +kernel
theorem dX2_setWaiting_61 : decode cX2_setWaiting 61 = .ok (.aload_n 0, 1) := by decide +kernel
theorem dX2_setWaiting_62 : decode cX2_setWaiting 62 = .ok (.dup, 1) := by decide +kernel
theorem dX2_setWaiting_63 : decode cX2_setWaiting 63 = .ok (.getfield 7, 3) := by decide +kernel
theorem dX2_setWaiting_66 : decode cX2_setWaiting 66 = .ok (.iload_n 2, 1) := by decide +kernel
theorem dX2_setWaiting_67 : decode cX2_setWaiting 67 = .ok (.iconst 1, 1) := by decide +kernel
theorem dX2_setWaiting_68 : decode cX2_setWaiting 68 = .ok (.iadd, 1) := by decide +kernel
theorem dX2_setWaiting_69 : decode cX2_setWaiting 69 = .ok (.i2l, 1) := by decide +kernel
theorem dX2_setWaiting_70 : decode cX2_setWaiting 70 = .ok (.lmul, 1) := by decide +kernel
theorem dX2_setWaiting_71 : decode cX2_setWaiting 71 = .ok (.putfield 7, 3) := by decide +kernel
theorem dX2_setWaiting_74 : decode cX2_setWaiting 74 = .ok (.iinc 3 1, 3) := by decide +kernel
theorem dX2_setWaiting_77 : decode cX2_setWaiting 77 = .ok (.goto (-65), 3) := by decide +kernel
theorem dX2_setWaiting_80 : decode cX2_setWaiting 80 = .ok (.aload_n 0, 1) := by decide +kernel
theorem dX2_setWaiting_81 : decode cX2_setWaiting 81 = .ok (.invokevirtual 22, 3) := by decide +kernel
theorem dX2_setWaiting_84 : decode cX2_setWaiting 84 = .ok (.return_, 1) := by decide +kernel
set_option maxRecDepth 20000 in
theorem ggX2_setDrift_X2_reduce : GoodIn wsX2_setDrift wsX2_reduce := goodIn_r _ [8, 3, 1, 9, 10, 7, 11, 12, 13] (by decide +kernel) (by decide +kernel)
set_option maxRecDepth 20000 in
theorem gX2_setDrift_X2_reduce : GoodIn wsX2_setDrift (wsV RX2 22 RX2 yX2_reduce wsX2_reduce) := goodIn_app (goodIn_of _ (by decide +kernel)) ggX2_setDrift_X2_reduce
theorem dX2_setDrift_0 : decode cX2_setDrift 0 = .ok (.iload_n 1, 1) := by decide +kernel
theorem dX2_setDrift_1 : decode cX2_setDrift 1 = .ok (.i2l, 1) := by decide +kernel
theorem dX2_setDrift_2 : decode cX2_setDrift 2 = .ok (.lstore 6, 2) := by decide +kernel
theorem dX2_setDrift_4 : decode cX2_setDrift 4 = .ok (.lconst 0, 1) := by decide +kernel
theorem dX2_setDrift_5 : decode cX2_setDrift 5 = .ok (.lstore 8, 2) := by decide +kernel
theorem dX2_setDrift_7 : decode cX2_setDrift 7 = .ok (.aload_n 0, 1) := by decide +kernel
theorem dX2_setDrift_8 : decode cX2_setDrift 8 = .ok (.lconst 1, 1) := by decide +kernel
theorem dX2_setDrift_9 : decode cX2_setDrift 9 = .ok (.putfield 7, 3) := by decide +kernel
theorem dX2_setDrift_12 : decode cX2_setDrift 12 = .ok (.iconst 0, 1) := by decide +kernel
theorem dX2_setDrift_13 : decode cX2_setDrift 13 = .ok (.istore 10, 2) := by decide +kernel
theorem dX2_setDrift_15 : decode cX2_setDrift 15 = .ok (.iload 10, 2) := by decide +kernel
theorem dX2_setDrift_17 : decode cX2_setDrift 17 = .ok (.iload 4, 2) := by decide +kernel
theorem dX2_setDrift_19 : decode cX2_setDrift 19 = .ok (.if_icmp .ge 53, 3) := by decide +kernel
theorem dX2_setDrift_22 : decode cX2_setDrift 22 = .ok (.lload 6, 2) := by decide +kernel
theorem dX2_setDrift_24 : decode cX2_setDrift 24 = .ok (.bipush 10, 2) := by decide +kernel
theorem dX2_setDrift_26 : decode cX2_setDrift 26 = .ok (.iload_n 3, 1) := by decide +kernel
theorem dX2_setDrift_27 : decode cX2_setDrift 27 = .ok (.isub, 1) := by decide +kernel
theorem dX2_setDrift_28 : decode cX2_setDrift 28 = .ok (.i2l, 1) := by decide +kernel
theorem dX2_setDrift_29 : decode cX2_setDrift 29 = .ok (.lmul, 1) := by decide +kernel
theorem dX2_setDrift_30 : decode cX2_setDrift 30 = .ok (.aload_n 0, 1) := by decide +kernel
theorem dX2_setDrift_31 : decode cX2_setDrift 31 = .ok (.getfield 7, 3) := by decide +kernel
theorem dX2_setDrift_34 : decode cX2_setDrift 34 = .ok (.lload 6, 2) := by decide +kernel
theorem dX2_setDrift_36 : decode cX2_setDrift 36 = .ok (.lsub, 1) := by decide +kernel
theorem dX2_setDrift_37 : decode cX2_setDrift 37 = .ok (.iload_n 2, 1) := by decide +kernel
theorem dX2_setDrift_38 : decode cX2_setDrift 38 = .ok (.i2l, 1) := by decide +kernel
theorem dX2_setDrift_39 : decode cX2_setDrift 39 = .ok (.lmul, 1) := by decide +kernel
theorem dX2_setDrift_40 : decode cX2_setDrift 40 = .ok (.ladd, 1) := by decide +kernel
theorem dX2_setDrift_41 : decode cX2_setDrift 41 = .ok (.lstore 6, 2) := by decide +kernel
theorem dX2_setDrift_43 : decode cX2_setDrift 43 = .ok (.lload 8, 2) := by decide +kernel
theorem dX2_setDrift_45 : decode cX2_setDrift 45 = .ok (.ldc2_w 25, 3) := by decide +kernel
theorem dX2_setDrift_48 : decode cX2_setDrift 48 = .ok (.lmul, 1) := by decide +kernel
theorem dX2_setDrift_49 : decode cX2_setDrift 49 = .ok (.lload 6, 2) := by decide +kernel
theorem dX2_setDrift_51 : decode cX2_setDrift 51 = .ok (.ladd, 1) := by decide +kernel
theorem dX2_setDrift_52 : decode cX2_setDrift 52 = .ok (.lstore 8, 2) := by decide +kernel
theorem dX2_setDrift_54 : decode cX2_setDrift 54 = .ok (.aload_n 0, 1) := by decide +kernel
theorem dX2_setDrift_55 : decode cX2_setDrift 55 = .ok (.dup, 1) := by decide +kernel
theorem dX2_setDrift_56 : decode cX2_setDrift 56 = .ok (.getfield 7, 3) := by decide +kernel
theorem dX2_setDrift_59 : decode cX2_setDrift 59 = .ok (.ldc2_w 25, 3) := by decide +kernel
theorem dX2_setDrift_62 : decode cX2_setDrift 62 = .ok (.lmul, 1) := by decide +kernel
theorem dX2_setDrift_63 : decode cX2_setDrift 63 = .ok (.putfield 7, 3) := by decide +kernel
theorem dX2_setDrift_66 : decode cX2_setDrift 66 = .ok (.iinc 10 1, 3) := by decide +kernel
theorem dX2_setDrift_69 : decode cX2_setDrift 69 = .ok (.goto (-54), 3) := by decide +kernel
theorem dX2_setDrift_72 : decode cX2_setDrift 72 = .ok (.aload_n 0, 1) := by decide +kernel
theorem dX2_setDrift_73 : decode cX2_setDrift 73 = .ok (.iload 5, 2) := by decide +kernel
theorem dX2_setDrift_75 : decode cX2_setDrift 75 = .ok (.ifCond .ne 8, 3) := by decide +kernel
theorem dX2_setDrift_78 : decode cX2_setDrift 78 = .ok (.lload 6, 2) := by decide +kernel
theorem dX2_setDrift_80 : decode cX2_setDrift 80 = .ok (.goto 5, 3) := by decide +kernel
theorem dX2_setDrift_83 : decode cX2_setDrift 83 = .ok (.lload 8, 2) := by decide +kernel
theorem dX2_setDrift_85 : decode cX2_setDrift 85 = .ok (.putfield 13, 3) := by decide +kernel
theorem dX2_setDrift_88 : decode cX2_setDrift 88 = .ok (.aload_n 0, 1) := by decide +kernel
theorem dX2_setDrift_89 : decode cX2_setDrift 89 = .ok (.invokevirtual 22, 3) := by decide +kernel
theorem dX2_setDrift_92 : decode cX2_setDrift 92 = .ok (.return_, 1) := by decide +kernel
theorem dX2_leastWholeNotBelow_0 : decode cX2_leastWholeNotBelow 0 = .ok (.iconst 0, 1) := by decide +kernel
theorem dX2_leastWholeNotBelow_1 : decode cX2_leastWholeNotBelow 1 = .ok (.istore_n 2, 1) := by decide +kernel
theorem dX2_leastWholeNotBelow_2 : decode cX2_leastWholeNotBelow 2 = .ok (.iload_n 2, 1) := by decide +kernel
theorem dX2_leastWholeNotBelow_3 : decode cX2_leastWholeNotBelow 3 = .ok (.iload_n 1, 1) := by decide +kernel
theorem dX2_leastWholeNotBelow_4 : decode cX2_leastWholeNotBelow 4 = .ok (.if_icmp .ge 26, 3) := by decide +kernel
theorem dX2_leastWholeNotBelow_7 : decode cX2_leastWholeNotBelow 7 = .ok (.iload_n 2, 1) := by decide +kernel
theorem dX2_leastWholeNotBelow_8 : decode cX2_leastWholeNotBelow 8 = .ok (.i2l, 1) := by decide +kernel
theorem dX2_leastWholeNotBelow_9 : decode cX2_leastWholeNotBelow 9 = .ok (.aload_n 0, 1) := by decide +kernel
theorem dX2_leastWholeNotBelow_10 : decode cX2_leastWholeNotBelow 10 = .ok (.getfield 7, 3) := by decide +kernel
theorem dX2_leastWholeNotBelow_13 : decode cX2_leastWholeNotBelow 13 = .ok (.lmul, 1) := by decide +kernel
theorem dX2_leastWholeNotBelow_14 : decode cX2_leastWholeNotBelow 14 = .ok (.aload_n 0, 1) := by decide +kernel
theorem dX2_leastWholeNotBelow_15 : decode cX2_leastWholeNotBelow 15 = .ok (.getfield 13, 3) := by decide +kernel
theorem dX2_leastWholeNotBelow_18 : decode cX2_leastWholeNotBelow 18 = .ok (.lcmp, 1) := by decide +kernel
theorem dX2_leastWholeNotBelow_19 : decode cX2_leastWholeNotBelow 19 = .ok (.ifCond .lt 5, 3) := by decide +kernel
theorem dX2_leastWholeNotBelow_22 : decode cX2_leastWholeNotBelow 22 = .ok (.iload_n 2, 1) := by decide +kernel
theorem dX2_leastWholeNotBelow_23 : decode cX2_leastWholeNotBelow 23 = .ok (.ireturn, 1) := by decide +kernel
theorem dX2_leastWholeNotBelow_24 : decode cX2_leastWholeNotBelow 24 = .ok (.iinc 2 1, 3) := by decide +kernel
theorem dX2_leastWholeNotBelow_27 : decode cX2_leastWholeNotBelow 27 = .ok (.goto (-25), 3) := by decide +kernel
theorem dX2_leastWholeNotBelow_30 : decode cX2_leastWholeNotBelow 30 = .ok (.iload_n 1, 1) := by decide +kernel
theorem dX2_leastWholeNotBelow_31 : decode cX2_leastWholeNotBelow 31 = .ok (.ireturn, 1) := by decide +kernel
theorem dX2_part_0 : decode cX2_part 0 = .ok (.iload_n 1, 1) := by decide +kernel
theorem dX2_part_1 : decode cX2_part 1 = .ok (.ifCond .ne 10, 3) := by decide +kernel
theorem dX2_part_4 : decode cX2_part 4 = .ok (.aload_n 0, 1) := by decide +kernel
theorem dX2_part_5 : decode cX2_part 5 = .ok (.getfield 13, 3) := by decide +kernel
theorem dX2_part_8 : decode cX2_part 8 = .ok (.goto 7, 3) := by decide +kernel
theorem dX2_part_11 : decode cX2_part 11 = .ok (.aload_n 0, 1) := by decide +kernel
theorem dX2_part_12 : decode cX2_part 12 = .ok (.getfield 7, 3) := by decide +kernel
theorem dX2_part_15 : decode cX2_part 15 = .ok (.lreturn, 1) := by decide +kernel
set_option maxRecDepth 20000 in
theorem ggX2_reduce_X2_commonDivisor : GoodIn wsX2_reduce wsX2_commonDivisor := goodIn_r _ [6] (by decide +kernel) (by decide +kernel)
set_option maxRecDepth 20000 in
theorem gX2_reduce_X2_commonDivisor : GoodIn wsX2_reduce (va_wsS RX2 27 yX2_commonDivisor wsX2_commonDivisor) := goodIn_app (goodIn_of _ (by decide +kernel)) ggX2_reduce_X2_commonDivisor
theorem dX2_reduce_0 : decode cX2_reduce 0 = .ok (.aload_n 0, 1) := by decide +kernel
theorem dX2_reduce_1 : decode cX2_reduce 1 = .ok (.getfield 13, 3) := by decide +kernel
theorem dX2_reduce_4 : decode cX2_reduce 4 = .ok (.aload_n 0, 1) := by decide +kernel
theorem dX2_reduce_5 : decode cX2_reduce 5 = .ok (.getfield 7, 3) := by decide +kernel
theorem dX2_reduce_8 : decode cX2_reduce 8 = .ok (.invokestatic 27, 3) := by decide +kernel
theorem dX2_reduce_11 : decode cX2_reduce 11 = .ok (.lstore_n 1, 1) := by decide +kernel
theorem dX2_reduce_12 : decode cX2_reduce 12 = .ok (.lload_n 1, 1) := by decide +kernel
theorem dX2_reduce_13 : decode cX2_reduce 13 = .ok (.lconst 1, 1) := by decide +kernel
theorem dX2_reduce_14 : decode cX2_reduce 14 = .ok (.lcmp, 1) := by decide +kernel
theorem dX2_reduce_15 : decode cX2_reduce 15 = .ok (.ifCond .le 23, 3) := by decide +kernel
theorem dX2_reduce_18 : decode cX2_reduce 18 = .ok (.aload_n 0, 1) := by decide +kernel
theorem dX2_reduce_19 : decode cX2_reduce 19 = .ok (.dup, 1) := by decide +kernel
theorem dX2_reduce_20 : decode cX2_reduce 20 = .ok (.getfield 13, 3) := by decide +kernel
theorem dX2_reduce_23 : decode cX2_reduce 23 = .ok (.lload_n 1, 1) := by decide +kernel
theorem dX2_reduce_24 : decode cX2_reduce 24 = .ok (.ldiv, 1) := by decide +kernel
theorem dX2_reduce_25 : decode cX2_reduce 25 = .ok (.putfield 13, 3) := by decide +kernel
theorem dX2_reduce_28 : decode cX2_reduce 28 = .ok (.aload_n 0, 1) := by decide +kernel
theorem dX2_reduce_29 : decode cX2_reduce 29 = .ok (.dup, 1) := by decide +kernel
theorem dX2_reduce_30 : decode cX2_reduce 30 = .ok (.getfield 7, 3) := by decide +kernel
theorem dX2_reduce_33 : decode cX2_reduce 33 = .ok (.lload_n 1, 1) := by decide +kernel
theorem dX2_reduce_34 : decode cX2_reduce 34 = .ok (.ldiv, 1) := by decide +kernel
theorem dX2_reduce_35 : decode cX2_reduce 35 = .ok (.putfield 7, 3) := by decide +kernel
theorem dX2_reduce_38 : decode cX2_reduce 38 = .ok (.return_, 1) := by decide +kernel
theorem dX2_commonDivisor_0 : decode cX2_commonDivisor 0 = .ok (.lload_n 0, 1) := by decide +kernel
theorem dX2_commonDivisor_1 : decode cX2_commonDivisor 1 = .ok (.lstore 4, 2) := by decide +kernel
theorem dX2_commonDivisor_3 : decode cX2_commonDivisor 3 = .ok (.lload_n 2, 1) := by decide +kernel
theorem dX2_commonDivisor_4 : decode cX2_commonDivisor 4 = .ok (.lstore 6, 2) := by decide +kernel
theorem dX2_commonDivisor_6 : decode cX2_commonDivisor 6 = .ok (.iconst 0, 1) := by decide +kernel
theorem dX2_commonDivisor_7 : decode cX2_commonDivisor 7 = .ok (.istore 8, 2) := by decide +kernel
theorem dX2_commonDivisor_9 : decode cX2_commonDivisor 9 = .ok (.iload 8, 2) := by decide +kernel
theorem dX2_commonDivisor_11 : decode cX2_commonDivisor 11 = .ok (.sipush 1000, 3) := by decide +kernel
theorem dX2_commonDivisor_14 : decode cX2_commonDivisor 14 = .ok (.if_icmp .ge 31, 3) := by decide +kernel
theorem dX2_commonDivisor_17 : decode cX2_commonDivisor 17 = .ok (.lload 6, 2) := by decide +kernel
theorem dX2_commonDivisor_19 : decode cX2_commonDivisor 19 = .ok (.lconst 0, 1) := by decide +kernel
theorem dX2_commonDivisor_20 : decode cX2_commonDivisor 20 = .ok (.lcmp, 1) := by decide +kernel
theorem dX2_commonDivisor_21 : decode cX2_commonDivisor 21 = .ok (.ifCond .eq 24, 3) := by decide +kernel
theorem dX2_commonDivisor_24 : decode cX2_commonDivisor 24 = .ok (.lload 4, 2) := by decide +kernel
theorem dX2_commonDivisor_26 : decode cX2_commonDivisor 26 = .ok (.lload 6, 2) := by decide +kernel
theorem dX2_commonDivisor_28 : decode cX2_commonDivisor 28 = .ok (.lrem, 1) := by decide +kernel
theorem dX2_commonDivisor_29 : decode cX2_commonDivisor 29 = .ok (.lstore 9, 2) := by decide +kernel
theorem dX2_commonDivisor_31 : decode cX2_commonDivisor 31 = .ok (.lload 6, 2) := by decide +kernel
theorem dX2_commonDivisor_33 : decode cX2_commonDivisor 33 = .ok (.lstore 4, 2) := by decide +kernel
theorem dX2_commonDivisor_35 : decode cX2_commonDivisor 35 = .ok (.lload 9, 2) := by decide +kernel
theorem dX2_commonDivisor_37 : decode cX2_commonDivisor 37 = .ok (.lstore 6, 2) := by decide +kernel
theorem dX2_commonDivisor_39 : decode cX2_commonDivisor 39 = .ok (.iinc 8 1, 3) := by decide +kernel
theorem dX2_commonDivisor_42 : decode cX2_commonDivisor 42 = .ok (.goto (-33), 3) := by decide +kernel
theorem dX2_commonDivisor_45 : decode cX2_commonDivisor 45 = .ok (.lload 4, 2) := by decide +kernel
theorem dX2_commonDivisor_47 : decode cX2_commonDivisor 47 = .ok (.lreturn, 1) := by decide +kernel
theorem dX3_init_0 : decode cX3_init 0 = .ok (.aload_n 0, 1) := by decide +kernel
theorem dX3_init_1 : decode cX3_init 1 = .ok (.invokespecial 3, 3) := by decide +kernel
theorem dX3_init_4 : decode cX3_init 4 = .ok (.aload_n 0, 1) := by decide +kernel
theorem dX3_init_5 : decode cX3_init 5 = .ok (.sipush 1024, 3) := by decide +kernel
theorem dX3_init_8 : decode cX3_init 8 = .ok (.newarray .boolean, 2) := by decide +kernel
theorem dX3_init_10 : decode cX3_init 10 = .ok (.putfield 9, 3) := by decide +kernel
theorem dX3_init_13 : decode cX3_init 13 = .ok (.return_, 1) := by decide +kernel
set_option maxRecDepth 20000 in
theorem ggX3_winningFirst_X9_wordsOfAll : GoodIn wsX3_winningFirst wsX9_wordsOfAll := goodIn_r _ [6, 7, 8, 9, 10, 23, 24] (by decide +kernel) (by decide +kernel)
set_option maxRecDepth 20000 in
theorem gX3_winningFirst_X9_wordsOfAll : GoodIn wsX3_winningFirst (wsV RX3 15 RX9 yX9_wordsOfAll wsX9_wordsOfAll) := goodIn_app (goodIn_of _ (by decide +kernel)) ggX3_winningFirst_X9_wordsOfAll
set_option maxRecDepth 20000 in
theorem ggX3_winningFirst_X3_winningNext : GoodIn wsX3_winningFirst wsX3_winningNext := goodIn_r _ [15, 1, 16, 17, 18, 5, 19, 7, 20, 9, 21, 22, 23, 24] (by decide +kernel) (by decide +kernel)
set_option maxRecDepth 20000 in
theorem gX3_winningFirst_X3_winningNext : GoodIn wsX3_winningFirst (wsV RX3 21 RX3 yX3_winningNext wsX3_winningNext) := goodIn_app (goodIn_of _ (by decide +kernel)) ggX3_winningFirst_X3_winningNext
theorem dX3_winningFirst_0 : decode cX3_winningFirst 0 = .ok (.bipush (-6), 2) := by decide +kernel
theorem dX3_winningFirst_2 : decode cX3_winningFirst 2 = .ok (.istore_n 3, 1) := by decide +kernel
theorem dX3_winningFirst_3 : decode cX3_winningFirst 3 = .ok (.sipush 1023, 3) := by decide +kernel
theorem dX3_winningFirst_6 : decode cX3_winningFirst 6 = .ok (.istore 4, 2) := by decide +kernel
theorem dX3_winningFirst_8 : decode cX3_winningFirst 8 = .ok (.iload 4, 2) := by decide +kernel
theorem dX3_winningFirst_10 : decode cX3_winningFirst 10 = .ok (.ifCond .lt 43, 3) := by decide +kernel
theorem dX3_winningFirst_13 : decode cX3_winningFirst 13 = .ok (.aload_n 0, 1) := by decide +kernel
theorem dX3_winningFirst_14 : decode cX3_winningFirst 14 = .ok (.iload 4, 2) := by decide +kernel
theorem dX3_winningFirst_16 : decode cX3_winningFirst 16 = .ok (.iload_n 2, 1) := by decide +kernel
theorem dX3_winningFirst_17 : decode cX3_winningFirst 17 = .ok (.aload_n 1, 1) := by decide +kernel
theorem dX3_winningFirst_18 : decode cX3_winningFirst 18 = .ok (.iload 4, 2) := by decide +kernel
theorem dX3_winningFirst_20 : decode cX3_winningFirst 20 = .ok (.invokevirtual 15, 3) := by decide +kernel
theorem dX3_winningFirst_23 : decode cX3_winningFirst 23 = .ok (.isub, 1) := by decide +kernel
theorem dX3_winningFirst_24 : decode cX3_winningFirst 24 = .ok (.aload_n 1, 1) := by decide +kernel
theorem dX3_winningFirst_25 : decode cX3_winningFirst 25 = .ok (.invokevirtual 21, 3) := by decide +kernel
theorem dX3_winningFirst_28 : decode cX3_winningFirst 28 = .ok (.istore_n 3, 1) := by decide +kernel
theorem dX3_winningFirst_29 : decode cX3_winningFirst 29 = .ok (.aload_n 0, 1) := by decide +kernel
theorem dX3_winningFirst_30 : decode cX3_winningFirst 30 = .ok (.getfield 9, 3) := by decide +kernel
theorem dX3_winningFirst_33 : decode cX3_winningFirst 33 = .ok (.iload 4, 2) := by decide +kernel
theorem dX3_winningFirst_35 : decode cX3_winningFirst 35 = .ok (.iload_n 3, 1) := by decide +kernel
theorem dX3_winningFirst_36 : decode cX3_winningFirst 36 = .ok (.bipush (-6), 2) := by decide +kernel
theorem dX3_winningFirst_38 : decode cX3_winningFirst 38 = .ok (.if_icmp .eq 7, 3) := by decide +kernel
theorem dX3_winningFirst_41 : decode cX3_winningFirst 41 = .ok (.iconst 1, 1) := by decide +kernel
theorem dX3_winningFirst_42 : decode cX3_winningFirst 42 = .ok (.goto 4, 3) := by decide +kernel
theorem dX3_winningFirst_45 : decode cX3_winningFirst 45 = .ok (.iconst 0, 1) := by decide +kernel
theorem dX3_winningFirst_46 : decode cX3_winningFirst 46 = .ok (.bastore, 1) := by decide +kernel
theorem dX3_winningFirst_47 : decode cX3_winningFirst 47 = .ok (.iinc 4 (-1), 3) := by decide +kernel
theorem dX3_winningFirst_50 : decode cX3_winningFirst 50 = .ok (.goto (-42), 3) := by decide +kernel
theorem dX3_winningFirst_53 : decode cX3_winningFirst 53 = .ok (.iload_n 3, 1) := by decide +kernel
theorem dX3_winningFirst_54 : decode cX3_winningFirst 54 = .ok (.ireturn, 1) := by decide +kernel
set_option maxRecDepth 20000 in
theorem ggX3_winningNext_X9_wordsOf : GoodIn wsX3_winningNext wsX9_wordsOf := goodIn_r _ [6, 7, 8, 9, 10, 12, 13] (by decide +kernel) (by decide +kernel)
set_option maxRecDepth 20000 in
theorem gX3_winningNext_X9_wordsOf : GoodIn wsX3_winningNext (wsV RX3 25 RX9 yX9_wordsOf wsX9_wordsOf) := goodIn_app (goodIn_of _ (by decide +kernel)) ggX3_winningNext_X9_wordsOf
theorem dX3_winningNext_0 : decode cX3_winningNext 0 = .ok (.iconst 0, 1) := by decide +kernel
theorem dX3_winningNext_1 : decode cX3_winningNext 1 = .ok (.istore 4, 2) := by decide +kernel
theorem dX3_winningNext_3 : decode cX3_winningNext 3 = .ok (.iload 4, 2) := by decide +kernel
theorem dX3_winningNext_5 : decode cX3_winningNext 5 = .ok (.bipush 10, 2) := by decide +kernel
theorem dX3_winningNext_7 : decode cX3_winningNext 7 = .ok (.if_icmp .ge 56, 3) := by decide +kernel
theorem dX3_winningNext_10 : decode cX3_winningNext 10 = .ok (.iload_n 1, 1) := by decide +kernel
theorem dX3_winningNext_11 : decode cX3_winningNext 11 = .ok (.iconst 1, 1) := by decide +kernel
theorem dX3_winningNext_12 : decode cX3_winningNext 12 = .ok (.iload 4, 2) := by decide +kernel
theorem dX3_winningNext_14 : decode cX3_winningNext 14 = .ok (.ishl, 1) := by decide +kernel
theorem dX3_winningNext_15 : decode cX3_winningNext 15 = .ok (.ior, 1) := by decide +kernel
theorem dX3_winningNext_16 : decode cX3_winningNext 16 = .ok (.istore 5, 2) := by decide +kernel
theorem dX3_winningNext_18 : decode cX3_winningNext 18 = .ok (.iload 5, 2) := by decide +kernel
theorem dX3_winningNext_20 : decode cX3_winningNext 20 = .ok (.iload_n 1, 1) := by decide +kernel
theorem dX3_winningNext_21 : decode cX3_winningNext 21 = .ok (.if_icmp .eq 36, 3) := by decide +kernel
theorem dX3_winningNext_24 : decode cX3_winningNext 24 = .ok (.iload 5, 2) := by decide +kernel
theorem dX3_winningNext_26 : decode cX3_winningNext 26 = .ok (.aload_n 0, 1) := by decide +kernel
theorem dX3_winningNext_27 : decode cX3_winningNext 27 = .ok (.getfield 9, 3) := by decide +kernel
theorem dX3_winningNext_30 : decode cX3_winningNext 30 = .ok (.arraylength, 1) := by decide +kernel
theorem dX3_winningNext_31 : decode cX3_winningNext 31 = .ok (.if_icmp .ge 26, 3) := by decide +kernel
theorem dX3_winningNext_34 : decode cX3_winningNext 34 = .ok (.aload_n 3, 1) := by decide +kernel
theorem dX3_winningNext_35 : decode cX3_winningNext 35 = .ok (.iload 4, 2) := by decide +kernel
theorem dX3_winningNext_37 : decode cX3_winningNext 37 = .ok (.invokevirtual 25, 3) := by decide +kernel
theorem dX3_winningNext_40 : decode cX3_winningNext 40 = .ok (.iload_n 2, 1) := by decide +kernel
theorem dX3_winningNext_41 : decode cX3_winningNext 41 = .ok (.if_icmp .gt 16, 3) := by decide +kernel
theorem dX3_winningNext_44 : decode cX3_winningNext 44 = .ok (.aload_n 0, 1) := by decide +kernel
theorem dX3_winningNext_45 : decode cX3_winningNext 45 = .ok (.getfield 9, 3) := by decide +kernel
theorem dX3_winningNext_48 : decode cX3_winningNext 48 = .ok (.iload 5, 2) := by decide +kernel
theorem dX3_winningNext_50 : decode cX3_winningNext 50 = .ok (.baload, 1) := by decide +kernel
theorem dX3_winningNext_51 : decode cX3_winningNext 51 = .ok (.ifCond .ne 6, 3) := by decide +kernel
theorem dX3_winningNext_54 : decode cX3_winningNext 54 = .ok (.iload 4, 2) := by decide +kernel
theorem dX3_winningNext_56 : decode cX3_winningNext 56 = .ok (.ireturn, 1) := by decide +kernel
theorem dX3_winningNext_57 : decode cX3_winningNext 57 = .ok (.iinc 4 1, 3) := by decide +kernel
theorem dX3_winningNext_60 : decode cX3_winningNext 60 = .ok (.goto (-57), 3) := by decide +kernel
theorem dX3_winningNext_63 : decode cX3_winningNext 63 = .ok (.bipush (-6), 2) := by decide +kernel
theorem dX3_winningNext_65 : decode cX3_winningNext 65 = .ok (.ireturn, 1) := by decide +kernel
theorem dX4_init_0 : decode cX4_init 0 = .ok (.aload_n 0, 1) := by decide +kernel
theorem dX4_init_1 : decode cX4_init 1 = .ok (.invokespecial 3, 3) := by decide +kernel
theorem dX4_init_4 : decode cX4_init 4 = .ok (.aload_n 0, 1) := by decide +kernel
theorem dX4_init_5 : decode cX4_init 5 = .ok (.bipush 64, 2) := by decide +kernel
theorem dX4_init_7 : decode cX4_init 7 = .ok (.newarray .int, 2) := by decide +kernel
theorem dX4_init_9 : decode cX4_init 9 = .ok (.putfield 9, 3) := by decide +kernel
theorem dX4_init_12 : decode cX4_init 12 = .ok (.aload_n 0, 1) := by decide +kernel
theorem dX4_init_13 : decode cX4_init 13 = .ok (.sipush 595, 3) := by decide +kernel
theorem dX4_init_16 : decode cX4_init 16 = .ok (.newarray .int, 2) := by decide +kernel
theorem dX4_init_18 : decode cX4_init 18 = .ok (.putfield 15, 3) := by decide +kernel
theorem dX4_init_21 : decode cX4_init 21 = .ok (.return_, 1) := by decide +kernel
set_option maxRecDepth 20000 in
theorem ggX4_findSets_X6_allCountsFit : GoodIn wsX4_findSets wsX6_allCountsFit := goodIn_r _ [8, 9, 10, 11, 12, 13, 14, 7, 15, 16, 17, 18, 19, 20, 21, 22, 23, 24, 25, 26, 27, 28, 29, 30, 31, 32, 45, 46, 47, 48, 38, 39, 40, 41, 42, 43, 44] (by decide +kernel) (by decide +kernel)
set_option maxRecDepth 20000 in
theorem gX4_findSets_X6_allCountsFit : GoodIn wsX4_findSets (wsV RX4 27 RX6 yX6_allCountsFit wsX6_allCountsFit) := goodIn_app (goodIn_of _ (by decide +kernel)) ggX4_findSets_X6_allCountsFit
theorem dX4_findSets_0 : decode cX4_findSets 0 = .ok (.aload_n 0, 1) := by decide +kernel
theorem dX4_findSets_1 : decode cX4_findSets 1 = .ok (.iconst 0, 1) := by decide +kernel
theorem dX4_findSets_2 : decode cX4_findSets 2 = .ok (.putfield 18, 3) := by decide +kernel
theorem dX4_findSets_5 : decode cX4_findSets 5 = .ok (.iconst 0, 1) := by decide +kernel
theorem dX4_findSets_6 : decode cX4_findSets 6 = .ok (.istore_n 3, 1) := by decide +kernel
theorem dX4_findSets_7 : decode cX4_findSets 7 = .ok (.iload_n 3, 1) := by decide +kernel
theorem dX4_findSets_8 : decode cX4_findSets 8 = .ok (.bipush 63, 2) := by decide +kernel
theorem dX4_findSets_10 : decode cX4_findSets 10 = .ok (.if_icmp .gt 73, 3) := by decide +kernel
theorem dX4_findSets_13 : decode cX4_findSets 13 = .ok (.iload_n 3, 1) := by decide +kernel
theorem dX4_findSets_14 : decode cX4_findSets 14 = .ok (.aload_n 2, 1) := by decide +kernel
theorem dX4_findSets_15 : decode cX4_findSets 15 = .ok (.getfield 22, 3) := by decide +kernel
theorem dX4_findSets_18 : decode cX4_findSets 18 = .ok (.iconst (-1), 1) := by decide +kernel
theorem dX4_findSets_19 : decode cX4_findSets 19 = .ok (.ixor, 1) := by decide +kernel
theorem dX4_findSets_20 : decode cX4_findSets 20 = .ok (.iand, 1) := by decide +kernel
theorem dX4_findSets_21 : decode cX4_findSets 21 = .ok (.ifCond .ne 7, 3) := by decide +kernel
theorem dX4_findSets_24 : decode cX4_findSets 24 = .ok (.iconst 1, 1) := by decide +kernel
theorem dX4_findSets_25 : decode cX4_findSets 25 = .ok (.goto 4, 3) := by decide +kernel
theorem dX4_findSets_28 : decode cX4_findSets 28 = .ok (.iconst 0, 1) := by decide +kernel
theorem dX4_findSets_29 : decode cX4_findSets 29 = .ok (.istore 4, 2) := by decide +kernel
theorem dX4_findSets_31 : decode cX4_findSets 31 = .ok (.iload 4, 2) := by decide +kernel
theorem dX4_findSets_33 : decode cX4_findSets 33 = .ok (.ifCond .eq 44, 3) := by decide +kernel
theorem dX4_findSets_36 : decode cX4_findSets 36 = .ok (.aload_n 0, 1) := by decide +kernel
theorem dX4_findSets_37 : decode cX4_findSets 37 = .ok (.getfield 18, 3) := by decide +kernel
theorem dX4_findSets_40 : decode cX4_findSets 40 = .ok (.aload_n 0, 1) := by decide +kernel
theorem dX4_findSets_41 : decode cX4_findSets 41 = .ok (.getfield 9, 3) := by decide +kernel
theorem dX4_findSets_44 : decode cX4_findSets 44 = .ok (.arraylength, 1) := by decide +kernel
theorem dX4_findSets_45 : decode cX4_findSets 45 = .ok (.if_icmp .ge 32, 3) := by decide +kernel
theorem dX4_findSets_48 : decode cX4_findSets 48 = .ok (.aload_n 1, 1) := by decide +kernel
theorem dX4_findSets_49 : decode cX4_findSets 49 = .ok (.iload_n 3, 1) := by decide +kernel
theorem dX4_findSets_50 : decode cX4_findSets 50 = .ok (.aload_n 2, 1) := by decide +kernel
theorem dX4_findSets_51 : decode cX4_findSets 51 = .ok (.invokevirtual 27, 3) := by decide +kernel
theorem dX4_findSets_54 : decode cX4_findSets 54 = .ok (.ifCond .eq 23, 3) := by decide +kernel
theorem dX4_findSets_57 : decode cX4_findSets 57 = .ok (.aload_n 0, 1) := by decide +kernel
theorem dX4_findSets_58 : decode cX4_findSets 58 = .ok (.getfield 9, 3) := by decide +kernel
theorem dX4_findSets_61 : decode cX4_findSets 61 = .ok (.aload_n 0, 1) := by decide +kernel
theorem dX4_findSets_62 : decode cX4_findSets 62 = .ok (.getfield 18, 3) := by decide +kernel
theorem dX4_findSets_65 : decode cX4_findSets 65 = .ok (.iload_n 3, 1) := by decide +kernel
theorem dX4_findSets_66 : decode cX4_findSets 66 = .ok (.iastore, 1) := by decide +kernel
theorem dX4_findSets_67 : decode cX4_findSets 67 = .ok (.aload_n 0, 1) := by decide +kernel
theorem dX4_findSets_68 : decode cX4_findSets 68 = .ok (.dup, 1) := by decide +kernel
theorem dX4_findSets_69 : decode cX4_findSets 69 = .ok (.getfield 18, 3) := by decide +kernel
theorem dX4_findSets_72 : decode cX4_findSets 72 = .ok (.iconst 1, 1) := by decide +kernel
theorem dX4_findSets_73 : decode cX4_findSets 73 = .ok (.iadd, 1) := by decide +kernel
theorem dX4_findSets_74 : decode cX4_findSets 74 = .ok (.putfield 18, 3) := by decide +kernel
theorem dX4_findSets_77 : decode cX4_findSets 77 = .ok (.iinc 3 1, 3) := by decide +kernel
theorem dX4_findSets_80 : decode cX4_findSets 80 = .ok (.goto (-73), 3) := by decide +kernel
theorem dX4_findSets_83 : decode cX4_findSets 83 = .ok (.return_, 1) := by decide +kernel
theorem dX4_setAt_0 : decode cX4_setAt 0 = .ok (.iload_n 1, 1) := by decide +kernel
theorem dX4_setAt_1 : decode cX4_setAt 1 = .ok (.ifCond .lt 29, 3) := by decide +kernel
theorem dX4_setAt_4 : decode cX4_setAt 4 = .ok (.iload_n 1, 1) := by decide +kernel
theorem dX4_setAt_5 : decode cX4_setAt 5 = .ok (.aload_n 0, 1) := by decide +kernel
theorem dX4_setAt_6 : decode cX4_setAt 6 = .ok (.getfield 18, 3) := by decide +kernel
theorem dX4_setAt_9 : decode cX4_setAt 9 = .ok (.if_icmp .ge 21, 3) := by decide +kernel
theorem dX4_setAt_12 : decode cX4_setAt 12 = .ok (.iload_n 1, 1) := by decide +kernel
theorem dX4_setAt_13 : decode cX4_setAt 13 = .ok (.aload_n 0, 1) := by decide +kernel
theorem dX4_setAt_14 : decode cX4_setAt 14 = .ok (.getfield 9, 3) := by decide +kernel
theorem dX4_setAt_17 : decode cX4_setAt 17 = .ok (.arraylength, 1) := by decide +kernel
theorem dX4_setAt_18 : decode cX4_setAt 18 = .ok (.if_icmp .ge 12, 3) := by decide +kernel
theorem dX4_setAt_21 : decode cX4_setAt 21 = .ok (.aload_n 0, 1) := by decide +kernel
theorem dX4_setAt_22 : decode cX4_setAt 22 = .ok (.getfield 9, 3) := by decide +kernel
theorem dX4_setAt_25 : decode cX4_setAt 25 = .ok (.iload_n 1, 1) := by decide +kernel
theorem dX4_setAt_26 : decode cX4_setAt 26 = .ok (.iaload, 1) := by decide +kernel
theorem dX4_setAt_27 : decode cX4_setAt 27 = .ok (.goto 5, 3) := by decide +kernel
theorem dX4_setAt_30 : decode cX4_setAt 30 = .ok (.bipush (-6), 2) := by decide +kernel
theorem dX4_setAt_32 : decode cX4_setAt 32 = .ok (.ireturn, 1) := by decide +kernel
set_option maxRecDepth 20000 in
theorem ggX4_findNextRock_X4_mostAlike : GoodIn wsX4_findNextRock wsX4_mostAlike := goodIn_r _ [7, 8, 9, 10, 11, 12, 13, 14, 15, 16, 17, 18, 19, 20, 21, 22, 23, 24, 25, 26, 27, 28, 29, 30, 31, 32, 33, 34, 35, 36, 37, 38, 39, 40, 41, 42, 43, 44, 45, 46, 47, 48, 49, 50, 51, 52, 53, 54, 55, 56] (by decide +kernel) (by decide +kernel)
set_option maxRecDepth 20000 in
theorem gX4_findNextRock_X4_mostAlike : GoodIn wsX4_findNextRock (wsV RX4 39 RX4 yX4_mostAlike wsX4_mostAlike) := goodIn_app (goodIn_of _ (by decide +kernel)) ggX4_findNextRock_X4_mostAlike
theorem dX4_findNextRock_0 : decode cX4_findNextRock 0 = .ok (.aload_n 0, 1) := by decide +kernel
theorem dX4_findNextRock_1 : decode cX4_findNextRock 1 = .ok (.bipush (-6), 2) := by decide +kernel
theorem dX4_findNextRock_3 : decode cX4_findNextRock 3 = .ok (.putfield 33, 3) := by decide +kernel
theorem dX4_findNextRock_6 : decode cX4_findNextRock 6 = .ok (.aload_n 0, 1) := by decide +kernel
theorem dX4_findNextRock_7 : decode cX4_findNextRock 7 = .ok (.bipush (-6), 2) := by decide +kernel
theorem dX4_findNextRock_9 : decode cX4_findNextRock 9 = .ok (.putfield 36, 3) := by decide +kernel
theorem dX4_findNextRock_12 : decode cX4_findNextRock 12 = .ok (.iconst 0, 1) := by decide +kernel
theorem dX4_findNextRock_13 : decode cX4_findNextRock 13 = .ok (.istore_n 3, 1) := by decide +kernel
theorem dX4_findNextRock_14 : decode cX4_findNextRock 14 = .ok (.iload_n 3, 1) := by decide +kernel
theorem dX4_findNextRock_15 : decode cX4_findNextRock 15 = .ok (.bipush 6, 2) := by decide +kernel
theorem dX4_findNextRock_17 : decode cX4_findNextRock 17 = .ok (.if_icmp .ge 47, 3) := by decide +kernel
theorem dX4_findNextRock_20 : decode cX4_findNextRock 20 = .ok (.aload_n 0, 1) := by decide +kernel
theorem dX4_findNextRock_21 : decode cX4_findNextRock 21 = .ok (.iload_n 3, 1) := by decide +kernel
theorem dX4_findNextRock_22 : decode cX4_findNextRock 22 = .ok (.aload_n 1, 1) := by decide +kernel
theorem dX4_findNextRock_23 : decode cX4_findNextRock 23 = .ok (.aload_n 2, 1) := by decide +kernel
theorem dX4_findNextRock_24 : decode cX4_findNextRock 24 = .ok (.invokevirtual 39, 3) := by decide +kernel
theorem dX4_findNextRock_27 : decode cX4_findNextRock 27 = .ok (.istore 4, 2) := by decide +kernel
theorem dX4_findNextRock_29 : decode cX4_findNextRock 29 = .ok (.aload_n 0, 1) := by decide +kernel
theorem dX4_findNextRock_30 : decode cX4_findNextRock 30 = .ok (.getfield 33, 3) := by decide +kernel
theorem dX4_findNextRock_33 : decode cX4_findNextRock 33 = .ok (.bipush (-6), 2) := by decide +kernel
theorem dX4_findNextRock_35 : decode cX4_findNextRock 35 = .ok (.if_icmp .eq 12, 3) := by decide +kernel
theorem dX4_findNextRock_38 : decode cX4_findNextRock 38 = .ok (.iload 4, 2) := by decide +kernel
theorem dX4_findNextRock_40 : decode cX4_findNextRock 40 = .ok (.aload_n 0, 1) := by decide +kernel
theorem dX4_findNextRock_41 : decode cX4_findNextRock 41 = .ok (.getfield 36, 3) := by decide +kernel
theorem dX4_findNextRock_44 : decode cX4_findNextRock 44 = .ok (.if_icmp .ge 14, 3) := by decide +kernel
theorem dX4_findNextRock_47 : decode cX4_findNextRock 47 = .ok (.aload_n 0, 1) := by decide +kernel
theorem dX4_findNextRock_48 : decode cX4_findNextRock 48 = .ok (.iload_n 3, 1) := by decide +kernel
theorem dX4_findNextRock_49 : decode cX4_findNextRock 49 = .ok (.putfield 33, 3) := by decide +kernel
theorem dX4_findNextRock_52 : decode cX4_findNextRock 52 = .ok (.aload_n 0, 1) := by decide +kernel
theorem dX4_findNextRock_53 : decode cX4_findNextRock 53 = .ok (.iload 4, 2) := by decide +kernel
theorem dX4_findNextRock_55 : decode cX4_findNextRock 55 = .ok (.putfield 36, 3) := by decide +kernel
theorem dX4_findNextRock_58 : decode cX4_findNextRock 58 = .ok (.iinc 3 1, 3) := by decide +kernel
theorem dX4_findNextRock_61 : decode cX4_findNextRock 61 = .ok (.goto (-47), 3) := by decide +kernel
theorem dX4_findNextRock_64 : decode cX4_findNextRock 64 = .ok (.return_, 1) := by decide +kernel
set_option maxRecDepth 20000 in
theorem ggX4_mostAlike_J7_fill_53178 : GoodIn wsX4_mostAlike wsJ7_fill_53178 := goodIn_r _ [11] (by decide +kernel) (by decide +kernel)
set_option maxRecDepth 20000 in
theorem gX4_mostAlike_J7_fill_53178 : GoodIn wsX4_mostAlike (va_wsS RX4 43 yJ7_fill_53178 wsJ7_fill_53178) := goodIn_app (goodIn_of _ (by decide +kernel)) ggX4_mostAlike_J7_fill_53178
set_option maxRecDepth 20000 in
theorem ggX4_mostAlike_X6_wantingOff : GoodIn wsX4_mostAlike wsX6_wantingOff := goodIn_r _ [16, 17, 18, 19, 20, 21, 22, 23, 24, 25, 26, 27, 28, 29, 30, 31, 32, 33, 39, 40, 41, 42, 43, 44, 45, 46, 47, 48, 49] (by decide +kernel) (by decide +kernel)
set_option maxRecDepth 20000 in
theorem gX4_mostAlike_X6_wantingOff : GoodIn wsX4_mostAlike (wsV RX4 49 RX6 yX6_wantingOff wsX6_wantingOff) := goodIn_app (goodIn_of _ (by decide +kernel)) ggX4_mostAlike_X6_wantingOff
theorem dX4_mostAlike_0 : decode cX4_mostAlike 0 = .ok (.aload_n 0, 1) := by decide +kernel
theorem dX4_mostAlike_1 : decode cX4_mostAlike 1 = .ok (.getfield 15, 3) := by decide +kernel
theorem dX4_mostAlike_4 : decode cX4_mostAlike 4 = .ok (.iconst 0, 1) := by decide +kernel
theorem dX4_mostAlike_5 : decode cX4_mostAlike 5 = .ok (.invokestatic 43, 3) := by decide +kernel
theorem dX4_mostAlike_8 : decode cX4_mostAlike 8 = .ok (.iconst 0, 1) := by decide +kernel
theorem dX4_mostAlike_9 : decode cX4_mostAlike 9 = .ok (.istore 4, 2) := by decide +kernel
theorem dX4_mostAlike_11 : decode cX4_mostAlike 11 = .ok (.iconst 0, 1) := by decide +kernel
theorem dX4_mostAlike_12 : decode cX4_mostAlike 12 = .ok (.istore 5, 2) := by decide +kernel
theorem dX4_mostAlike_14 : decode cX4_mostAlike 14 = .ok (.iload 5, 2) := by decide +kernel
theorem dX4_mostAlike_16 : decode cX4_mostAlike 16 = .ok (.aload_n 0, 1) := by decide +kernel
theorem dX4_mostAlike_17 : decode cX4_mostAlike 17 = .ok (.getfield 18, 3) := by decide +kernel
theorem dX4_mostAlike_20 : decode cX4_mostAlike 20 = .ok (.if_icmp .ge 74, 3) := by decide +kernel
theorem dX4_mostAlike_23 : decode cX4_mostAlike 23 = .ok (.iload 5, 2) := by decide +kernel
theorem dX4_mostAlike_25 : decode cX4_mostAlike 25 = .ok (.aload_n 0, 1) := by decide +kernel
theorem dX4_mostAlike_26 : decode cX4_mostAlike 26 = .ok (.getfield 9, 3) := by decide +kernel
theorem dX4_mostAlike_29 : decode cX4_mostAlike 29 = .ok (.arraylength, 1) := by decide +kernel
theorem dX4_mostAlike_30 : decode cX4_mostAlike 30 = .ok (.if_icmp .ge 64, 3) := by decide +kernel
theorem dX4_mostAlike_33 : decode cX4_mostAlike 33 = .ok (.aload_n 2, 1) := by decide +kernel
theorem dX4_mostAlike_34 : decode cX4_mostAlike 34 = .ok (.iload_n 1, 1) := by decide +kernel
theorem dX4_mostAlike_35 : decode cX4_mostAlike 35 = .ok (.aload_n 0, 1) := by decide +kernel
theorem dX4_mostAlike_36 : decode cX4_mostAlike 36 = .ok (.getfield 9, 3) := by decide +kernel
theorem dX4_mostAlike_39 : decode cX4_mostAlike 39 = .ok (.iload 5, 2) := by decide +kernel
theorem dX4_mostAlike_41 : decode cX4_mostAlike 41 = .ok (.iaload, 1) := by decide +kernel
theorem dX4_mostAlike_42 : decode cX4_mostAlike 42 = .ok (.aload_n 3, 1) := by decide +kernel
theorem dX4_mostAlike_43 : decode cX4_mostAlike 43 = .ok (.invokevirtual 49, 3) := by decide +kernel
theorem dX4_mostAlike_46 : decode cX4_mostAlike 46 = .ok (.istore 6, 2) := by decide +kernel
theorem dX4_mostAlike_48 : decode cX4_mostAlike 48 = .ok (.iload 6, 2) := by decide +kernel
theorem dX4_mostAlike_50 : decode cX4_mostAlike 50 = .ok (.ifCond .lt 38, 3) := by decide +kernel
theorem dX4_mostAlike_53 : decode cX4_mostAlike 53 = .ok (.iload 6, 2) := by decide +kernel
theorem dX4_mostAlike_55 : decode cX4_mostAlike 55 = .ok (.aload_n 0, 1) := by decide +kernel
theorem dX4_mostAlike_56 : decode cX4_mostAlike 56 = .ok (.getfield 15, 3) := by decide +kernel
theorem dX4_mostAlike_59 : decode cX4_mostAlike 59 = .ok (.arraylength, 1) := by decide +kernel
theorem dX4_mostAlike_60 : decode cX4_mostAlike 60 = .ok (.if_icmp .ge 28, 3) := by decide +kernel
theorem dX4_mostAlike_63 : decode cX4_mostAlike 63 = .ok (.aload_n 0, 1) := by decide +kernel
theorem dX4_mostAlike_64 : decode cX4_mostAlike 64 = .ok (.getfield 15, 3) := by decide +kernel
theorem dX4_mostAlike_67 : decode cX4_mostAlike 67 = .ok (.iload 6, 2) := by decide +kernel
theorem dX4_mostAlike_69 : decode cX4_mostAlike 69 = .ok (.dup2, 1) := by decide +kernel
theorem dX4_mostAlike_70 : decode cX4_mostAlike 70 = .ok (.iaload, 1) := by decide +kernel
theorem dX4_mostAlike_71 : decode cX4_mostAlike 71 = .ok (.iconst 1, 1) := by decide +kernel
theorem dX4_mostAlike_72 : decode cX4_mostAlike 72 = .ok (.iadd, 1) := by decide +kernel
theorem dX4_mostAlike_73 : decode cX4_mostAlike 73 = .ok (.iastore, 1) := by decide +kernel
theorem dX4_mostAlike_74 : decode cX4_mostAlike 74 = .ok (.iload 4, 2) := by decide +kernel
theorem dX4_mostAlike_76 : decode cX4_mostAlike 76 = .ok (.aload_n 0, 1) := by decide +kernel
theorem dX4_mostAlike_77 : decode cX4_mostAlike 77 = .ok (.getfield 15, 3) := by decide +kernel
theorem dX4_mostAlike_80 : decode cX4_mostAlike 80 = .ok (.iload 6, 2) := by decide +kernel
theorem dX4_mostAlike_82 : decode cX4_mostAlike 82 = .ok (.iaload, 1) := by decide +kernel
theorem dX4_mostAlike_83 : decode cX4_mostAlike 83 = .ok (.invokestatic 53, 3) := by decide +kernel
theorem dX4_mostAlike_86 : decode cX4_mostAlike 86 = .ok (.istore 4, 2) := by decide +kernel
theorem dX4_mostAlike_88 : decode cX4_mostAlike 88 = .ok (.iinc 5 1, 3) := by decide +kernel
theorem dX4_mostAlike_91 : decode cX4_mostAlike 91 = .ok (.goto (-77), 3) := by decide +kernel
theorem dX4_mostAlike_94 : decode cX4_mostAlike 94 = .ok (.iload 4, 2) := by decide +kernel
theorem dX4_mostAlike_96 : decode cX4_mostAlike 96 = .ok (.ireturn, 1) := by decide +kernel
set_option maxRecDepth 20000 in
theorem ggX5_init_X8_init : GoodIn wsX5_init wsX8_init := goodIn_r _ [17, 18, 2, 3, 19, 20, 21, 22, 23, 42, 43, 44, 45, 46, 47, 48] (by decide +kernel) (by decide +kernel)
set_option maxRecDepth 20000 in
theorem gX5_init_X8_init_n9 : GoodIn wsX5_init (wsX8_init) := ggX5_init_X8_init
set_option maxRecDepth 20000 in
theorem ggX5_init_X9_init : GoodIn wsX5_init wsX9_init := goodIn_r _ [26, 27, 2, 3, 19, 28, 29, 30, 31, 32, 33, 52, 53] (by decide +kernel) (by decide +kernel)
set_option maxRecDepth 20000 in
theorem gX5_init_X9_init : GoodIn wsX5_init (wsX9_init) := ggX5_init_X9_init
set_option maxRecDepth 20000 in
theorem ggX5_init_X6_init : GoodIn wsX5_init wsX6_init := goodIn_r _ [36, 37, 2, 3, 19, 38, 39, 40, 41, 31, 32, 33, 54, 55, 56, 57] (by decide +kernel) (by decide +kernel)
set_option maxRecDepth 20000 in
theorem gX5_init_X6_init : GoodIn wsX5_init (wsX6_init) := ggX5_init_X6_init
theorem dX5_init_0 : decode cX5_init 0 = .ok (.aload_n 0, 1) := by decide +kernel
theorem dX5_init_1 : decode cX5_init 1 = .ok (.invokespecial 1, 3) := by decide +kernel
theorem dX5_init_4 : decode cX5_init 4 = .ok (.aload_n 0, 1) := by decide +kernel
theorem dX5_init_5 : decode cX5_init 5 = .ok (.new 7, 3) := by decide +kernel
theorem dX5_init_8 : decode cX5_init 8 = .ok (.dup, 1) := by decide +kernel
theorem dX5_init_9 : decode cX5_init 9 = .ok (.invokespecial 9, 3) := by decide +kernel
theorem dX5_init_12 : decode cX5_init 12 = .ok (.putfield 10, 3) := by decide +kernel
theorem dX5_init_15 : decode cX5_init 15 = .ok (.aload_n 0, 1) := by decide +kernel
theorem dX5_init_16 : decode cX5_init 16 = .ok (.new 16, 3) := by decide +kernel
theorem dX5_init_19 : decode cX5_init 19 = .ok (.dup, 1) := by decide +kernel
theorem dX5_init_20 : decode cX5_init 20 = .ok (.invokespecial 18, 3) := by decide +kernel
theorem dX5_init_23 : decode cX5_init 23 = .ok (.putfield 19, 3) := by decide +kernel
theorem dX5_init_26 : decode cX5_init 26 = .ok (.aload_n 0, 1) := by decide +kernel
theorem dX5_init_27 : decode cX5_init 27 = .ok (.new 23, 3) := by decide +kernel
theorem dX5_init_30 : decode cX5_init 30 = .ok (.dup, 1) := by decide +kernel
theorem dX5_init_31 : decode cX5_init 31 = .ok (.invokespecial 25, 3) := by decide +kernel
theorem dX5_init_34 : decode cX5_init 34 = .ok (.putfield 26, 3) := by decide +kernel
theorem dX5_init_37 : decode cX5_init 37 = .ok (.return_, 1) := by decide +kernel
set_option maxRecDepth 20000 in
theorem ggX6_init_J7_fill_53178 : GoodIn wsX6_init wsJ7_fill_53178 := goodIn_r _ [11] (by decide +kernel) (by decide +kernel)
set_option maxRecDepth 20000 in
theorem gX6_init_J7_fill_53178 : GoodIn wsX6_init (va_wsS RX6 21 yJ7_fill_53178 wsJ7_fill_53178) := goodIn_app (goodIn_of _ (by decide +kernel)) ggX6_init_J7_fill_53178
theorem dX6_init_0 : decode cX6_init 0 = .ok (.aload_n 0, 1) := by decide +kernel
theorem dX6_init_1 : decode cX6_init 1 = .ok (.invokespecial 3, 3) := by decide +kernel
theorem dX6_init_4 : decode cX6_init 4 = .ok (.aload_n 0, 1) := by decide +kernel
theorem dX6_init_5 : decode cX6_init 5 = .ok (.bipush 6, 2) := by decide +kernel
theorem dX6_init_7 : decode cX6_init 7 = .ok (.newarray .int, 2) := by decide +kernel
theorem dX6_init_9 : decode cX6_init 9 = .ok (.putfield 9, 3) := by decide +kernel
theorem dX6_init_12 : decode cX6_init 12 = .ok (.aload_n 0, 1) := by decide +kernel
theorem dX6_init_13 : decode cX6_init 13 = .ok (.bipush 8, 2) := by decide +kernel
theorem dX6_init_15 : decode cX6_init 15 = .ok (.newarray .int, 2) := by decide +kernel
theorem dX6_init_17 : decode cX6_init 17 = .ok (.putfield 15, 3) := by decide +kernel
theorem dX6_init_20 : decode cX6_init 20 = .ok (.aload_n 0, 1) := by decide +kernel
theorem dX6_init_21 : decode cX6_init 21 = .ok (.bipush 8, 2) := by decide +kernel
theorem dX6_init_23 : decode cX6_init 23 = .ok (.newarray .int, 2) := by decide +kernel
theorem dX6_init_25 : decode cX6_init 25 = .ok (.putfield 18, 3) := by decide +kernel
theorem dX6_init_28 : decode cX6_init 28 = .ok (.aload_n 0, 1) := by decide +kernel
theorem dX6_init_29 : decode cX6_init 29 = .ok (.getfield 9, 3) := by decide +kernel
theorem dX6_init_32 : decode cX6_init 32 = .ok (.bipush 63, 2) := by decide +kernel
theorem dX6_init_34 : decode cX6_init 34 = .ok (.invokestatic 21, 3) := by decide +kernel
theorem dX6_init_37 : decode cX6_init 37 = .ok (.return_, 1) := by decide +kernel
theorem dX6_copyFrom_0 : decode cX6_copyFrom 0 = .ok (.iconst 0, 1) := by decide +kernel
theorem dX6_copyFrom_1 : decode cX6_copyFrom 1 = .ok (.istore_n 2, 1) := by decide +kernel
theorem dX6_copyFrom_2 : decode cX6_copyFrom 2 = .ok (.iload_n 2, 1) := by decide +kernel
theorem dX6_copyFrom_3 : decode cX6_copyFrom 3 = .ok (.bipush 6, 2) := by decide +kernel
theorem dX6_copyFrom_5 : decode cX6_copyFrom 5 = .ok (.if_icmp .ge 21, 3) := by decide +kernel
theorem dX6_copyFrom_8 : decode cX6_copyFrom 8 = .ok (.aload_n 0, 1) := by decide +kernel
theorem dX6_copyFrom_9 : decode cX6_copyFrom 9 = .ok (.getfield 9, 3) := by decide +kernel
theorem dX6_copyFrom_12 : decode cX6_copyFrom 12 = .ok (.iload_n 2, 1) := by decide +kernel
theorem dX6_copyFrom_13 : decode cX6_copyFrom 13 = .ok (.aload_n 1, 1) := by decide +kernel
theorem dX6_copyFrom_14 : decode cX6_copyFrom 14 = .ok (.getfield 9, 3) := by decide +kernel
theorem dX6_copyFrom_17 : decode cX6_copyFrom 17 = .ok (.iload_n 2, 1) := by decide +kernel
theorem dX6_copyFrom_18 : decode cX6_copyFrom 18 = .ok (.iaload, 1) := by decide +kernel
theorem dX6_copyFrom_19 : decode cX6_copyFrom 19 = .ok (.iastore, 1) := by decide +kernel
theorem dX6_copyFrom_20 : decode cX6_copyFrom 20 = .ok (.iinc 2 1, 3) := by decide +kernel
theorem dX6_copyFrom_23 : decode cX6_copyFrom 23 = .ok (.goto (-21), 3) := by decide +kernel
theorem dX6_copyFrom_26 : decode cX6_copyFrom 26 = .ok (.aload_n 0, 1) := by decide +kernel
theorem dX6_copyFrom_27 : decode cX6_copyFrom 27 = .ok (.aload_n 1, 1) := by decide +kernel
theorem dX6_copyFrom_28 : decode cX6_copyFrom 28 = .ok (.getfield 27, 3) := by decide +kernel
theorem dX6_copyFrom_31 : decode cX6_copyFrom 31 = .ok (.putfield 27, 3) := by decide +kernel
theorem dX6_copyFrom_34 : decode cX6_copyFrom 34 = .ok (.iconst 0, 1) := by decide +kernel
theorem dX6_copyFrom_35 : decode cX6_copyFrom 35 = .ok (.istore_n 2, 1) := by decide +kernel
theorem dX6_copyFrom_36 : decode cX6_copyFrom 36 = .ok (.iload_n 2, 1) := by decide +kernel
theorem dX6_copyFrom_37 : decode cX6_copyFrom 37 = .ok (.bipush 8, 2) := by decide +kernel
theorem dX6_copyFrom_39 : decode cX6_copyFrom 39 = .ok (.if_icmp .ge 33, 3) := by decide +kernel
theorem dX6_copyFrom_42 : decode cX6_copyFrom 42 = .ok (.aload_n 0, 1) := by decide +kernel
theorem dX6_copyFrom_43 : decode cX6_copyFrom 43 = .ok (.getfield 15, 3) := by decide +kernel
theorem dX6_copyFrom_46 : decode cX6_copyFrom 46 = .ok (.iload_n 2, 1) := by decide +kernel
theorem dX6_copyFrom_47 : decode cX6_copyFrom 47 = .ok (.aload_n 1, 1) := by decide +kernel
theorem dX6_copyFrom_48 : decode cX6_copyFrom 48 = .ok (.getfield 15, 3) := by decide +kernel
theorem dX6_copyFrom_51 : decode cX6_copyFrom 51 = .ok (.iload_n 2, 1) := by decide +kernel
theorem dX6_copyFrom_52 : decode cX6_copyFrom 52 = .ok (.iaload, 1) := by decide +kernel
theorem dX6_copyFrom_53 : decode cX6_copyFrom 53 = .ok (.iastore, 1) := by decide +kernel
theorem dX6_copyFrom_54 : decode cX6_copyFrom 54 = .ok (.aload_n 0, 1) := by decide +kernel
theorem dX6_copyFrom_55 : decode cX6_copyFrom 55 = .ok (.getfield 18, 3) := by decide +kernel
theorem dX6_copyFrom_58 : decode cX6_copyFrom 58 = .ok (.iload_n 2, 1) := by decide +kernel
theorem dX6_copyFrom_59 : decode cX6_copyFrom 59 = .ok (.aload_n 1, 1) := by decide +kernel
theorem dX6_copyFrom_60 : decode cX6_copyFrom 60 = .ok (.getfield 18, 3) := by decide +kernel
theorem dX6_copyFrom_63 : decode cX6_copyFrom 63 = .ok (.iload_n 2, 1) := by decide +kernel
theorem dX6_copyFrom_64 : decode cX6_copyFrom 64 = .ok (.iaload, 1) := by decide +kernel
theorem dX6_copyFrom_65 : decode cX6_copyFrom 65 = .ok (.iastore, 1) := by decide +kernel
theorem dX6_copyFrom_66 : decode cX6_copyFrom 66 = .ok (.iinc 2 1, 3) := by decide +kernel
theorem dX6_copyFrom_69 : decode cX6_copyFrom 69 = .ok (.goto (-33), 3) := by decide +kernel
theorem dX6_copyFrom_72 : decode cX6_copyFrom 72 = .ok (.return_, 1) := by decide +kernel
theorem dX6_addCount_0 : decode cX6_addCount 0 = .ok (.aload_n 0, 1) := by decide +kernel
theorem dX6_addCount_1 : decode cX6_addCount 1 = .ok (.getfield 27, 3) := by decide +kernel
theorem dX6_addCount_4 : decode cX6_addCount 4 = .ok (.bipush 8, 2) := by decide +kernel
theorem dX6_addCount_6 : decode cX6_addCount 6 = .ok (.if_icmp .lt 5, 3) := by decide +kernel
theorem dX6_addCount_9 : decode cX6_addCount 9 = .ok (.iconst 0, 1) := by decide +kernel
theorem dX6_addCount_10 : decode cX6_addCount 10 = .ok (.ireturn, 1) := by decide +kernel
theorem dX6_addCount_11 : decode cX6_addCount 11 = .ok (.aload_n 0, 1) := by decide +kernel
theorem dX6_addCount_12 : decode cX6_addCount 12 = .ok (.getfield 15, 3) := by decide +kernel
theorem dX6_addCount_15 : decode cX6_addCount 15 = .ok (.aload_n 0, 1) := by decide +kernel
theorem dX6_addCount_16 : decode cX6_addCount 16 = .ok (.getfield 27, 3) := by decide +kernel
theorem dX6_addCount_19 : decode cX6_addCount 19 = .ok (.iload_n 1, 1) := by decide +kernel
theorem dX6_addCount_20 : decode cX6_addCount 20 = .ok (.iastore, 1) := by decide +kernel
theorem dX6_addCount_21 : decode cX6_addCount 21 = .ok (.aload_n 0, 1) := by decide +kernel
theorem dX6_addCount_22 : decode cX6_addCount 22 = .ok (.getfield 18, 3) := by decide +kernel
theorem dX6_addCount_25 : decode cX6_addCount 25 = .ok (.aload_n 0, 1) := by decide +kernel
theorem dX6_addCount_26 : decode cX6_addCount 26 = .ok (.getfield 27, 3) := by decide +kernel
theorem dX6_addCount_29 : decode cX6_addCount 29 = .ok (.iload_n 2, 1) := by decide +kernel
theorem dX6_addCount_30 : decode cX6_addCount 30 = .ok (.iastore, 1) := by decide +kernel
theorem dX6_addCount_31 : decode cX6_addCount 31 = .ok (.aload_n 0, 1) := by decide +kernel
theorem dX6_addCount_32 : decode cX6_addCount 32 = .ok (.dup, 1) := by decide +kernel
theorem dX6_addCount_33 : decode cX6_addCount 33 = .ok (.getfield 27, 3) := by decide +kernel
theorem dX6_addCount_36 : decode cX6_addCount 36 = .ok (.iconst 1, 1) := by decide +kernel
theorem dX6_addCount_37 : decode cX6_addCount 37 = .ok (.iadd, 1) := by decide +kernel
theorem dX6_addCount_38 : decode cX6_addCount 38 = .ok (.putfield 27, 3) := by decide +kernel
theorem dX6_addCount_41 : decode cX6_addCount 41 = .ok (.iconst 1, 1) := by decide +kernel
theorem dX6_addCount_42 : decode cX6_addCount 42 = .ok (.ireturn, 1) := by decide +kernel
set_option maxRecDepth 20000 in
theorem ggX6_wantingOff_X11_within : GoodIn wsX6_wantingOff wsX11_within := goodIn_r _ [4] (by decide +kernel) (by decide +kernel)
set_option maxRecDepth 20000 in
theorem gX6_wantingOff_X11_within_n31 : GoodIn wsX6_wantingOff (wsX11_within) := ggX6_wantingOff_X11_within
set_option maxRecDepth 20000 in
theorem ggX6_wantingOff_X8_headsOf : GoodIn wsX6_wantingOff wsX8_headsOf := goodIn_r _ [9, 10, 11, 3, 12, 13, 14, 15, 8, 16, 17, 22, 23, 24, 25, 26, 27, 28] (by decide +kernel) (by decide +kernel)
set_option maxRecDepth 20000 in
theorem gX6_wantingOff_X8_headsOf : GoodIn wsX6_wantingOff (wsV RX6 35 RX8 yX8_headsOf wsX8_headsOf) := goodIn_app (goodIn_of _ (by decide +kernel)) ggX6_wantingOff_X8_headsOf
theorem dX6_wantingOff_0 : decode cX6_wantingOff 0 = .ok (.iload_n 1, 1) := by decide +kernel
theorem dX6_wantingOff_1 : decode cX6_wantingOff 1 = .ok (.iconst 0, 1) := by decide +kernel
theorem dX6_wantingOff_2 : decode cX6_wantingOff 2 = .ok (.iconst 5, 1) := by decide +kernel
theorem dX6_wantingOff_3 : decode cX6_wantingOff 3 = .ok (.invokestatic 31, 3) := by decide +kernel
theorem dX6_wantingOff_6 : decode cX6_wantingOff 6 = .ok (.ifCond .eq 18, 3) := by decide +kernel
theorem dX6_wantingOff_9 : decode cX6_wantingOff 9 = .ok (.aload_n 3, 1) := by decide +kernel
theorem dX6_wantingOff_10 : decode cX6_wantingOff 10 = .ok (.aload_n 0, 1) := by decide +kernel
theorem dX6_wantingOff_11 : decode cX6_wantingOff 11 = .ok (.getfield 9, 3) := by decide +kernel
theorem dX6_wantingOff_14 : decode cX6_wantingOff 14 = .ok (.iload_n 1, 1) := by decide +kernel
theorem dX6_wantingOff_15 : decode cX6_wantingOff 15 = .ok (.iaload, 1) := by decide +kernel
theorem dX6_wantingOff_16 : decode cX6_wantingOff 16 = .ok (.iload_n 2, 1) := by decide +kernel
theorem dX6_wantingOff_17 : decode cX6_wantingOff 17 = .ok (.iand, 1) := by decide +kernel
theorem dX6_wantingOff_18 : decode cX6_wantingOff 18 = .ok (.invokevirtual 35, 3) := by decide +kernel
theorem dX6_wantingOff_21 : decode cX6_wantingOff 21 = .ok (.goto 4, 3) := by decide +kernel
theorem dX6_wantingOff_24 : decode cX6_wantingOff 24 = .ok (.iconst 0, 1) := by decide +kernel
theorem dX6_wantingOff_25 : decode cX6_wantingOff 25 = .ok (.ireturn, 1) := by decide +kernel
set_option maxRecDepth 20000 in
theorem ggX6_allCountsFit_X6_wantingOff : GoodIn wsX6_allCountsFit wsX6_wantingOff := goodIn_r _ [8, 9, 10, 11, 12, 13, 14, 15, 16, 17, 18, 19, 20, 21, 22, 23, 24, 25, 26, 27, 28, 29, 30, 31, 32, 33, 34, 35, 36] (by decide +kernel) (by decide +kernel)
set_option maxRecDepth 20000 in
theorem gX6_allCountsFit_X6_wantingOff : GoodIn wsX6_allCountsFit (wsV RX6 41 RX6 yX6_wantingOff wsX6_wantingOff) := goodIn_app (goodIn_of _ (by decide +kernel)) ggX6_allCountsFit_X6_wantingOff
theorem dX6_allCountsFit_0 : decode cX6_allCountsFit 0 = .ok (.iconst 0, 1) := by decide +kernel
theorem dX6_allCountsFit_1 : decode cX6_allCountsFit 1 = .ok (.istore_n 3, 1) := by decide +kernel
theorem dX6_allCountsFit_2 : decode cX6_allCountsFit 2 = .ok (.iload_n 3, 1) := by decide +kernel
theorem dX6_allCountsFit_3 : decode cX6_allCountsFit 3 = .ok (.aload_n 0, 1) := by decide +kernel
theorem dX6_allCountsFit_4 : decode cX6_allCountsFit 4 = .ok (.getfield 27, 3) := by decide +kernel
theorem dX6_allCountsFit_7 : decode cX6_allCountsFit 7 = .ok (.if_icmp .ge 38, 3) := by decide +kernel
theorem dX6_allCountsFit_10 : decode cX6_allCountsFit 10 = .ok (.iload_n 3, 1) := by decide +kernel
theorem dX6_allCountsFit_11 : decode cX6_allCountsFit 11 = .ok (.bipush 8, 2) := by decide +kernel
theorem dX6_allCountsFit_13 : decode cX6_allCountsFit 13 = .ok (.if_icmp .ge 32, 3) := by decide +kernel
theorem dX6_allCountsFit_16 : decode cX6_allCountsFit 16 = .ok (.aload_n 0, 1) := by decide +kernel
theorem dX6_allCountsFit_17 : decode cX6_allCountsFit 17 = .ok (.aload_n 0, 1) := by decide +kernel
theorem dX6_allCountsFit_18 : decode cX6_allCountsFit 18 = .ok (.getfield 15, 3) := by decide +kernel
theorem dX6_allCountsFit_21 : decode cX6_allCountsFit 21 = .ok (.iload_n 3, 1) := by decide +kernel
theorem dX6_allCountsFit_22 : decode cX6_allCountsFit 22 = .ok (.iaload, 1) := by decide +kernel
theorem dX6_allCountsFit_23 : decode cX6_allCountsFit 23 = .ok (.iload_n 1, 1) := by decide +kernel
theorem dX6_allCountsFit_24 : decode cX6_allCountsFit 24 = .ok (.aload_n 2, 1) := by decide +kernel
theorem dX6_allCountsFit_25 : decode cX6_allCountsFit 25 = .ok (.invokevirtual 41, 3) := by decide +kernel
theorem dX6_allCountsFit_28 : decode cX6_allCountsFit 28 = .ok (.aload_n 0, 1) := by decide +kernel
theorem dX6_allCountsFit_29 : decode cX6_allCountsFit 29 = .ok (.getfield 18, 3) := by decide +kernel
theorem dX6_allCountsFit_32 : decode cX6_allCountsFit 32 = .ok (.iload_n 3, 1) := by decide +kernel
theorem dX6_allCountsFit_33 : decode cX6_allCountsFit 33 = .ok (.iaload, 1) := by decide +kernel
theorem dX6_allCountsFit_34 : decode cX6_allCountsFit 34 = .ok (.if_icmp .eq 5, 3) := by decide +kernel
theorem dX6_allCountsFit_37 : decode cX6_allCountsFit 37 = .ok (.iconst 0, 1) := by decide +kernel
theorem dX6_allCountsFit_38 : decode cX6_allCountsFit 38 = .ok (.ireturn, 1) := by decide +kernel
theorem dX6_allCountsFit_39 : decode cX6_allCountsFit 39 = .ok (.iinc 3 1, 3) := by decide +kernel
theorem dX6_allCountsFit_42 : decode cX6_allCountsFit 42 = .ok (.goto (-40), 3) := by decide +kernel
theorem dX6_allCountsFit_45 : decode cX6_allCountsFit 45 = .ok (.iconst 1, 1) := by decide +kernel
theorem dX6_allCountsFit_46 : decode cX6_allCountsFit 46 = .ok (.ireturn, 1) := by decide +kernel
set_option maxRecDepth 20000 in
theorem ggX10_init_X8_init : GoodIn wsX10_init wsX8_init := goodIn_r _ [13, 14, 2, 3, 15, 16, 17, 18, 19, 23, 24, 25, 26, 27, 28, 29] (by decide +kernel) (by decide +kernel)
set_option maxRecDepth 20000 in
theorem gX10_init_X8_init_n11 : GoodIn wsX10_init (wsX8_init) := ggX10_init_X8_init
set_option maxRecDepth 20000 in
theorem ggX10_init_X0_init : GoodIn wsX10_init wsX0_init := goodIn_r _ [21, 22, 2, 3] (by decide +kernel) (by decide +kernel)
set_option maxRecDepth 20000 in
theorem gX10_init_X0_init_n20 : GoodIn wsX10_init (wsX0_init) := ggX10_init_X0_init
theorem dX10_init_0 : decode cX10_init 0 = .ok (.aload_n 0, 1) := by decide +kernel
theorem dX10_init_1 : decode cX10_init 1 = .ok (.invokespecial 3, 3) := by decide +kernel
theorem dX10_init_4 : decode cX10_init 4 = .ok (.aload_n 0, 1) := by decide +kernel
theorem dX10_init_5 : decode cX10_init 5 = .ok (.new 9, 3) := by decide +kernel
theorem dX10_init_8 : decode cX10_init 8 = .ok (.dup, 1) := by decide +kernel
theorem dX10_init_9 : decode cX10_init 9 = .ok (.invokespecial 11, 3) := by decide +kernel
theorem dX10_init_12 : decode cX10_init 12 = .ok (.putfield 12, 3) := by decide +kernel
theorem dX10_init_15 : decode cX10_init 15 = .ok (.aload_n 0, 1) := by decide +kernel
theorem dX10_init_16 : decode cX10_init 16 = .ok (.new 18, 3) := by decide +kernel
theorem dX10_init_19 : decode cX10_init 19 = .ok (.dup, 1) := by decide +kernel
theorem dX10_init_20 : decode cX10_init 20 = .ok (.invokespecial 20, 3) := by decide +kernel
theorem dX10_init_23 : decode cX10_init 23 = .ok (.putfield 21, 3) := by decide +kernel
theorem dX10_init_26 : decode cX10_init 26 = .ok (.return_, 1) := by decide +kernel
set_option maxRecDepth 20000 in
theorem ggX10_run_X10_begin : GoodIn wsX10_run wsX10_begin := goodIn_r _ [11, 4, 2, 6, 5, 12, 13, 14, 15, 16, 17, 18, 19, 20, 21, 22, 23, 24, 25, 26, 27, 28, 29, 30, 31, 32, 33, 34, 35, 36, 37, 38, 39, 40, 41, 42, 43, 44, 45, 140, 141, 142, 143, 144, 145, 146, 147, 148, 149, 150, 151, 152, 153, 138, 139] (by decide +kernel) (by decide +kernel)
set_option maxRecDepth 20000 in
theorem gX10_run_X10_begin : GoodIn wsX10_run (wsV RX10 25 RX10 yX10_begin wsX10_begin) := goodIn_app (goodIn_of _ (by decide +kernel)) ggX10_run_X10_begin
set_option maxRecDepth 20000 in
theorem ggX10_run_X0_takeFrom : GoodIn wsX10_run wsX0_takeFrom := goodIn_r _ [50, 51, 52, 53, 30, 54, 32, 33, 55, 38, 39, 40, 41, 42, 56, 57, 58, 49, 59, 60, 61, 62, 138, 139, 154, 155, 156] (by decide +kernel) (by decide +kernel)
set_option maxRecDepth 20000 in
theorem gX10_run_X0_takeFrom : GoodIn wsX10_run (wsV RX10 39 RX0 yX0_takeFrom wsX0_takeFrom) := goodIn_app (goodIn_of _ (by decide +kernel)) ggX10_run_X0_takeFrom
set_option maxRecDepth 20000 in
theorem ggX10_run_X8_whyNot : GoodIn wsX10_run wsX8_whyNot := goodIn_r _ [66, 67, 68, 69, 21, 70, 71, 72, 73, 74, 75, 40, 41, 42, 76, 77, 78, 18, 79, 25, 80, 81, 82, 83, 23, 26, 84, 85, 86, 87, 20, 88, 89, 90, 91, 92, 93, 94, 95, 96, 97, 98, 99, 24, 154, 155, 156, 147, 148, 149, 150, 151, 152, 153, 157, 158] (by decide +kernel) (by decide +kernel)
set_option maxRecDepth 20000 in
theorem gX10_run_X8_whyNot : GoodIn wsX10_run (wsV RX10 43 RX8 yX8_whyNot wsX8_whyNot) := goodIn_app (goodIn_of _ (by decide +kernel)) ggX10_run_X8_whyNot
set_option maxRecDepth 20000 in
theorem ggX10_run_X10_noteReading : GoodIn wsX10_run wsX10_noteReading := goodIn_r _ [103, 3, 104, 12, 14, 4, 105, 106, 71, 72, 73, 74, 75, 40, 41, 42, 107, 77, 78, 18, 79, 25, 80, 81, 82, 83, 23, 26, 21, 84, 85, 86, 87, 20, 140, 141, 142, 143, 144, 145, 146, 154, 155, 156, 157, 158, 147, 148, 149, 150, 151, 152, 153] (by decide +kernel) (by decide +kernel)
set_option maxRecDepth 20000 in
theorem gX10_run_X10_noteReading : GoodIn wsX10_run (wsV RX10 50 RX10 yX10_noteReading wsX10_noteReading) := goodIn_app (goodIn_of _ (by decide +kernel)) ggX10_run_X10_noteReading
set_option maxRecDepth 20000 in
theorem ggX10_run_X8_perform : GoodIn wsX10_run wsX8_perform := goodIn_r _ [111, 67, 68, 69, 70, 71, 72, 73, 74, 75, 40, 41, 42, 112, 113, 114, 18, 115, 24, 25, 76, 77, 78, 79, 80, 81, 82, 83, 23, 26, 21, 84, 85, 86, 87, 20, 116, 117, 118, 119, 120, 121, 122, 123, 124, 125, 126, 127, 128, 129, 22, 130, 131, 132, 133, 134, 135, 136, 137, 154, 155, 156, 157, 158, 147, 148, 149, 150, 151, 152, 153] (by decide +kernel) (by decide +kernel)
set_option maxRecDepth 20000 in
theorem gX10_run_X8_perform : GoodIn wsX10_run (wsV RX10 54 RX8 yX8_perform wsX8_perform) := goodIn_app (goodIn_of _ (by decide +kernel)) ggX10_run_X8_perform
theorem dX10_run_0 : decode cX10_run 0 = .ok (.aload_n 0, 1) := by decide +kernel
theorem dX10_run_1 : decode cX10_run 1 = .ok (.aload_n 1, 1) := by decide +kernel
theorem dX10_run_2 : decode cX10_run 2 = .ok (.aload_n 2, 1) := by decide +kernel
theorem dX10_run_3 : decode cX10_run 3 = .ok (.invokevirtual 25, 3) := by decide +kernel
theorem dX10_run_6 : decode cX10_run 6 = .ok (.iconst 0, 1) := by decide +kernel
theorem dX10_run_7 : decode cX10_run 7 = .ok (.istore 4, 2) := by decide +kernel
theorem dX10_run_9 : decode cX10_run 9 = .ok (.iconst 0, 1) := by decide +kernel
theorem dX10_run_10 : decode cX10_run 10 = .ok (.istore 5, 2) := by decide +kernel
theorem dX10_run_12 : decode cX10_run 12 = .ok (.iload 5, 2) := by decide +kernel
theorem dX10_run_14 : decode cX10_run 14 = .ok (.bipush 60, 2) := by decide +kernel
theorem dX10_run_16 : decode cX10_run 16 = .ok (.if_icmp .ge 91, 3) := by decide +kernel
theorem dX10_run_19 : decode cX10_run 19 = .ok (.iload 4, 2) := by decide +kernel
theorem dX10_run_21 : decode cX10_run 21 = .ok (.aload_n 1, 1) := by decide +kernel
theorem dX10_run_22 : decode cX10_run 22 = .ok (.getfield 31, 3) := by decide +kernel
theorem dX10_run_25 : decode cX10_run 25 = .ok (.if_icmp .ge 82, 3) := by decide +kernel
theorem dX10_run_28 : decode cX10_run 28 = .ok (.aload_n 0, 1) := by decide +kernel
theorem dX10_run_29 : decode cX10_run 29 = .ok (.getfield 35, 3) := by decide +kernel
theorem dX10_run_32 : decode cX10_run 32 = .ok (.ifCond .ne 75, 3) := by decide +kernel
theorem dX10_run_35 : decode cX10_run 35 = .ok (.iload 4, 2) := by decide +kernel
theorem dX10_run_37 : decode cX10_run 37 = .ok (.aload_n 0, 1) := by decide +kernel
theorem dX10_run_38 : decode cX10_run 38 = .ok (.getfield 21, 3) := by decide +kernel
theorem dX10_run_41 : decode cX10_run 41 = .ok (.aload_n 1, 1) := by decide +kernel
theorem dX10_run_42 : decode cX10_run 42 = .ok (.iload 4, 2) := by decide +kernel
theorem dX10_run_44 : decode cX10_run 44 = .ok (.invokevirtual 39, 3) := by decide +kernel
theorem dX10_run_47 : decode cX10_run 47 = .ok (.iadd, 1) := by decide +kernel
theorem dX10_run_48 : decode cX10_run 48 = .ok (.istore 4, 2) := by decide +kernel
theorem dX10_run_50 : decode cX10_run 50 = .ok (.aload_n 0, 1) := by decide +kernel
theorem dX10_run_51 : decode cX10_run 51 = .ok (.aload_n 0, 1) := by decide +kernel
theorem dX10_run_52 : decode cX10_run 52 = .ok (.getfield 12, 3) := by decide +kernel
theorem dX10_run_55 : decode cX10_run 55 = .ok (.aload_n 0, 1) := by decide +kernel
theorem dX10_run_56 : decode cX10_run 56 = .ok (.getfield 21, 3) := by decide +kernel
theorem dX10_run_59 : decode cX10_run 59 = .ok (.aload_n 3, 1) := by decide +kernel
theorem dX10_run_60 : decode cX10_run 60 = .ok (.invokevirtual 43, 3) := by decide +kernel
theorem dX10_run_63 : decode cX10_run 63 = .ok (.putfield 47, 3) := by decide +kernel
theorem dX10_run_66 : decode cX10_run 66 = .ok (.aload_n 0, 1) := by decide +kernel
theorem dX10_run_67 : decode cX10_run 67 = .ok (.getfield 47, 3) := by decide +kernel
theorem dX10_run_70 : decode cX10_run 70 = .ok (.ifCond .eq 4, 3) := by decide +kernel
theorem dX10_run_73 : decode cX10_run 73 = .ok (.return_, 1) := by decide +kernel
theorem dX10_run_74 : decode cX10_run 74 = .ok (.aload_n 0, 1) := by decide +kernel
theorem dX10_run_75 : decode cX10_run 75 = .ok (.aload_n 3, 1) := by decide +kernel
theorem dX10_run_76 : decode cX10_run 76 = .ok (.invokevirtual 50, 3) := by decide +kernel
theorem dX10_run_79 : decode cX10_run 79 = .ok (.aload_n 0, 1) := by decide +kernel
theorem dX10_run_80 : decode cX10_run 80 = .ok (.getfield 12, 3) := by decide +kernel
theorem dX10_run_83 : decode cX10_run 83 = .ok (.aload_n 0, 1) := by decide +kernel
theorem dX10_run_84 : decode cX10_run 84 = .ok (.getfield 21, 3) := by decide +kernel
theorem dX10_run_87 : decode cX10_run 87 = .ok (.aload_n 3, 1) := by decide +kernel
theorem dX10_run_88 : decode cX10_run 88 = .ok (.invokevirtual 54, 3) := by decide +kernel
theorem dX10_run_91 : decode cX10_run 91 = .ok (.aload_n 0, 1) := by decide +kernel
theorem dX10_run_92 : decode cX10_run 92 = .ok (.dup, 1) := by decide +kernel
theorem dX10_run_93 : decode cX10_run 93 = .ok (.getfield 58, 3) := by decide +kernel
theorem dX10_run_96 : decode cX10_run 96 = .ok (.iconst 1, 1) := by decide +kernel
theorem dX10_run_97 : decode cX10_run 97 = .ok (.iadd, 1) := by decide +kernel
theorem dX10_run_98 : decode cX10_run 98 = .ok (.putfield 58, 3) := by decide +kernel
theorem dX10_run_101 : decode cX10_run 101 = .ok (.iinc 5 1, 3) := by decide +kernel
theorem dX10_run_104 : decode cX10_run 104 = .ok (.goto (-92), 3) := by decide +kernel
theorem dX10_run_107 : decode cX10_run 107 = .ok (.return_, 1) := by decide +kernel
set_option maxRecDepth 20000 in
theorem ggX10_begin_X8_copyFrom : GoodIn wsX10_begin wsX8_copyFrom := goodIn_r _ [12, 13, 14, 15, 16, 17, 18, 19, 46, 47, 48, 49, 50, 51, 52] (by decide +kernel) (by decide +kernel)
set_option maxRecDepth 20000 in
theorem gX10_begin_X8_copyFrom : GoodIn wsX10_begin (wsV RX10 61 RX8 yX8_copyFrom wsX8_copyFrom) := goodIn_app (goodIn_of _ (by decide +kernel)) ggX10_begin_X8_copyFrom
set_option maxRecDepth 20000 in
theorem ggX10_begin_X7_faultPlace : GoodIn wsX10_begin wsX7_faultPlace := goodIn_r _ [24, 25, 26, 27, 28, 23, 29, 30, 31, 32, 33, 34, 35, 36, 37, 38, 53, 54] (by decide +kernel) (by decide +kernel)
set_option maxRecDepth 20000 in
theorem gX10_begin_X7_faultPlace : GoodIn wsX10_begin (wsV RX10 65 RX7 yX7_faultPlace wsX7_faultPlace) := goodIn_app (goodIn_of _ (by decide +kernel)) ggX10_begin_X7_faultPlace
theorem dX10_begin_0 : decode cX10_begin 0 = .ok (.aload_n 0, 1) := by decide +kernel
theorem dX10_begin_1 : decode cX10_begin 1 = .ok (.getfield 12, 3) := by decide +kernel
theorem dX10_begin_4 : decode cX10_begin 4 = .ok (.aload_n 2, 1) := by decide +kernel
theorem dX10_begin_5 : decode cX10_begin 5 = .ok (.invokevirtual 61, 3) := by decide +kernel
theorem dX10_begin_8 : decode cX10_begin 8 = .ok (.aload_n 0, 1) := by decide +kernel
theorem dX10_begin_9 : decode cX10_begin 9 = .ok (.aload_n 1, 1) := by decide +kernel
theorem dX10_begin_10 : decode cX10_begin 10 = .ok (.invokevirtual 65, 3) := by decide +kernel
theorem dX10_begin_13 : decode cX10_begin 13 = .ok (.bipush (-6), 2) := by decide +kernel
theorem dX10_begin_15 : decode cX10_begin 15 = .ok (.if_icmp .eq 7, 3) := by decide +kernel
theorem dX10_begin_18 : decode cX10_begin 18 = .ok (.iconst 1, 1) := by decide +kernel
theorem dX10_begin_19 : decode cX10_begin 19 = .ok (.goto 4, 3) := by decide +kernel
theorem dX10_begin_22 : decode cX10_begin 22 = .ok (.iconst 0, 1) := by decide +kernel
theorem dX10_begin_23 : decode cX10_begin 23 = .ok (.putfield 35, 3) := by decide +kernel
theorem dX10_begin_26 : decode cX10_begin 26 = .ok (.aload_n 0, 1) := by decide +kernel
theorem dX10_begin_27 : decode cX10_begin 27 = .ok (.iconst 0, 1) := by decide +kernel
theorem dX10_begin_28 : decode cX10_begin 28 = .ok (.putfield 58, 3) := by decide +kernel
theorem dX10_begin_31 : decode cX10_begin 31 = .ok (.aload_n 0, 1) := by decide +kernel
theorem dX10_begin_32 : decode cX10_begin 32 = .ok (.iconst 0, 1) := by decide +kernel
theorem dX10_begin_33 : decode cX10_begin 33 = .ok (.putfield 47, 3) := by decide +kernel
theorem dX10_begin_36 : decode cX10_begin 36 = .ok (.aload_n 0, 1) := by decide +kernel
theorem dX10_begin_37 : decode cX10_begin 37 = .ok (.iconst 0, 1) := by decide +kernel
theorem dX10_begin_38 : decode cX10_begin 38 = .ok (.putfield 69, 3) := by decide +kernel
theorem dX10_begin_41 : decode cX10_begin 41 = .ok (.aload_n 0, 1) := by decide +kernel
theorem dX10_begin_42 : decode cX10_begin 42 = .ok (.aload_n 2, 1) := by decide +kernel
theorem dX10_begin_43 : decode cX10_begin 43 = .ok (.getfield 72, 3) := by decide +kernel
theorem dX10_begin_46 : decode cX10_begin 46 = .ok (.putfield 75, 3) := by decide +kernel
theorem dX10_begin_49 : decode cX10_begin 49 = .ok (.return_, 1) := by decide +kernel
theorem dX10_allCanBe_0 : decode cX10_allCanBe 0 = .ok (.aload_n 0, 1) := by decide +kernel
theorem dX10_allCanBe_1 : decode cX10_allCanBe 1 = .ok (.getfield 35, 3) := by decide +kernel
theorem dX10_allCanBe_4 : decode cX10_allCanBe 4 = .ok (.ifCond .ne 14, 3) := by decide +kernel
theorem dX10_allCanBe_7 : decode cX10_allCanBe 7 = .ok (.aload_n 0, 1) := by decide +kernel
theorem dX10_allCanBe_8 : decode cX10_allCanBe 8 = .ok (.getfield 47, 3) := by decide +kernel
theorem dX10_allCanBe_11 : decode cX10_allCanBe 11 = .ok (.ifCond .ne 7, 3) := by decide +kernel
theorem dX10_allCanBe_14 : decode cX10_allCanBe 14 = .ok (.iconst 1, 1) := by decide +kernel
theorem dX10_allCanBe_15 : decode cX10_allCanBe 15 = .ok (.goto 4, 3) := by decide +kernel
theorem dX10_allCanBe_18 : decode cX10_allCanBe 18 = .ok (.iconst 0, 1) := by decide +kernel
theorem dX10_allCanBe_19 : decode cX10_allCanBe 19 = .ok (.ireturn, 1) := by decide +kernel
set_option maxRecDepth 20000 in
theorem ggX10_noteReading_X9_wordsOf : GoodIn wsX10_noteReading wsX9_wordsOf := goodIn_r _ [11, 12, 13, 14, 15, 44, 45] (by decide +kernel) (by decide +kernel)
set_option maxRecDepth 20000 in
theorem gX10_noteReading_X9_wordsOf : GoodIn wsX10_noteReading (wsV RX10 84 RX9 yX9_wordsOf wsX9_wordsOf) := goodIn_app (goodIn_of _ (by decide +kernel)) ggX10_noteReading_X9_wordsOf
set_option maxRecDepth 20000 in
theorem ggX10_noteReading_X8_signers : GoodIn wsX10_noteReading wsX8_signers := goodIn_r _ [20, 21, 22, 23, 24, 19, 25, 26, 27, 28, 29, 30, 31, 32, 33, 46, 47, 48, 49, 50, 51, 52] (by decide +kernel) (by decide +kernel)
set_option maxRecDepth 20000 in
theorem gX10_noteReading_X8_signers : GoodIn wsX10_noteReading (wsV RX10 90 RX8 yX8_signers wsX8_signers) := goodIn_app (goodIn_of _ (by decide +kernel)) ggX10_noteReading_X8_signers
theorem dX10_noteReading_0 : decode cX10_noteReading 0 = .ok (.aload_n 0, 1) := by decide +kernel
theorem dX10_noteReading_1 : decode cX10_noteReading 1 = .ok (.getfield 21, 3) := by decide +kernel
theorem dX10_noteReading_4 : decode cX10_noteReading 4 = .ok (.getfield 78, 3) := by decide +kernel
theorem dX10_noteReading_7 : decode cX10_noteReading 7 = .ok (.ifCond .ne 40, 3) := by decide +kernel
theorem dX10_noteReading_10 : decode cX10_noteReading 10 = .ok (.aload_n 0, 1) := by decide +kernel
theorem dX10_noteReading_11 : decode cX10_noteReading 11 = .ok (.dup, 1) := by decide +kernel
theorem dX10_noteReading_12 : decode cX10_noteReading 12 = .ok (.getfield 69, 3) := by decide +kernel
theorem dX10_noteReading_15 : decode cX10_noteReading 15 = .ok (.iconst 1, 1) := by decide +kernel
theorem dX10_noteReading_16 : decode cX10_noteReading 16 = .ok (.iadd, 1) := by decide +kernel
theorem dX10_noteReading_17 : decode cX10_noteReading 17 = .ok (.putfield 69, 3) := by decide +kernel
theorem dX10_noteReading_20 : decode cX10_noteReading 20 = .ok (.aload_n 0, 1) := by decide +kernel
theorem dX10_noteReading_21 : decode cX10_noteReading 21 = .ok (.dup, 1) := by decide +kernel
theorem dX10_noteReading_22 : decode cX10_noteReading 22 = .ok (.getfield 75, 3) := by decide +kernel
theorem dX10_noteReading_25 : decode cX10_noteReading 25 = .ok (.aload_n 0, 1) := by decide +kernel
theorem dX10_noteReading_26 : decode cX10_noteReading 26 = .ok (.getfield 12, 3) := by decide +kernel
theorem dX10_noteReading_29 : decode cX10_noteReading 29 = .ok (.aload_n 1, 1) := by decide +kernel
theorem dX10_noteReading_30 : decode cX10_noteReading 30 = .ok (.aload_n 0, 1) := by decide +kernel
theorem dX10_noteReading_31 : decode cX10_noteReading 31 = .ok (.getfield 21, 3) := by decide +kernel
theorem dX10_noteReading_34 : decode cX10_noteReading 34 = .ok (.getfield 81, 3) := by decide +kernel
theorem dX10_noteReading_37 : decode cX10_noteReading 37 = .ok (.invokevirtual 84, 3) := by decide +kernel
theorem dX10_noteReading_40 : decode cX10_noteReading 40 = .ok (.invokevirtual 90, 3) := by decide +kernel
theorem dX10_noteReading_43 : decode cX10_noteReading 43 = .ok (.iand, 1) := by decide +kernel
theorem dX10_noteReading_44 : decode cX10_noteReading 44 = .ok (.putfield 75, 3) := by decide +kernel
theorem dX10_noteReading_47 : decode cX10_noteReading 47 = .ok (.return_, 1) := by decide +kernel
set_option maxRecDepth 20000 in
theorem ggX10_runYear_X8_copyFrom : GoodIn wsX10_runYear wsX8_copyFrom := goodIn_r _ [8, 9, 10, 11, 12, 13, 14, 15, 105, 106, 107, 108, 109, 110, 111] (by decide +kernel) (by decide +kernel)
set_option maxRecDepth 20000 in
theorem gX10_runYear_X8_copyFrom : GoodIn wsX10_runYear (wsV RX10 61 RX8 yX8_copyFrom wsX8_copyFrom) := goodIn_app (goodIn_of _ (by decide +kernel)) ggX10_runYear_X8_copyFrom
set_option maxRecDepth 20000 in
theorem ggX10_runYear_X0_draw : GoodIn wsX10_runYear wsX0_draw := goodIn_r _ [20, 21, 22, 23, 19, 24, 25, 26, 27, 112, 113, 114] (by decide +kernel) (by decide +kernel)
set_option maxRecDepth 20000 in
theorem gX10_runYear_X0_draw : GoodIn wsX10_runYear (wsV RX10 94 RX0 yX0_draw wsX0_draw) := goodIn_app (goodIn_of _ (by decide +kernel)) ggX10_runYear_X0_draw
set_option maxRecDepth 20000 in
theorem ggX10_runYear_X8_whyNot : GoodIn wsX10_runYear wsX8_whyNot := goodIn_r _ [31, 32, 33, 34, 10, 35, 36, 37, 38, 39, 40, 41, 42, 43, 44, 45, 46, 7, 47, 14, 48, 49, 50, 51, 12, 15, 52, 53, 54, 55, 9, 56, 57, 58, 59, 60, 61, 62, 63, 64, 65, 66, 67, 13, 112, 113, 114, 105, 106, 107, 108, 109, 110, 111, 115, 116] (by decide +kernel) (by decide +kernel)
set_option maxRecDepth 20000 in
theorem gX10_runYear_X8_whyNot : GoodIn wsX10_runYear (wsV RX10 43 RX8 yX8_whyNot wsX8_whyNot) := goodIn_app (goodIn_of _ (by decide +kernel)) ggX10_runYear_X8_whyNot
set_option maxRecDepth 20000 in
theorem ggX10_runYear_X8_perform : GoodIn wsX10_runYear wsX8_perform := goodIn_r _ [71, 32, 33, 34, 35, 36, 37, 38, 39, 40, 41, 42, 43, 72, 73, 74, 7, 75, 13, 14, 44, 45, 46, 47, 48, 49, 50, 51, 12, 15, 10, 52, 53, 54, 55, 9, 76, 77, 78, 79, 80, 81, 82, 83, 84, 85, 86, 87, 88, 89, 11, 90, 91, 92, 93, 94, 95, 96, 97, 112, 113, 114, 115, 116, 105, 106, 107, 108, 109, 110, 111] (by decide +kernel) (by decide +kernel)
set_option maxRecDepth 20000 in
theorem gX10_runYear_X8_perform : GoodIn wsX10_runYear (wsV RX10 54 RX8 yX8_perform wsX8_perform) := goodIn_app (goodIn_of _ (by decide +kernel)) ggX10_runYear_X8_perform
theorem dX10_runYear_0 : decode cX10_runYear 0 = .ok (.aload_n 0, 1) := by decide +kernel
theorem dX10_runYear_1 : decode cX10_runYear 1 = .ok (.getfield 12, 3) := by decide +kernel
theorem dX10_runYear_4 : decode cX10_runYear 4 = .ok (.aload_n 3, 1) := by decide +kernel
theorem dX10_runYear_5 : decode cX10_runYear 5 = .ok (.invokevirtual 61, 3) := by decide +kernel
theorem dX10_runYear_8 : decode cX10_runYear 8 = .ok (.iload_n 1, 1) := by decide +kernel
theorem dX10_runYear_9 : decode cX10_runYear 9 = .ok (.istore 5, 2) := by decide +kernel
theorem dX10_runYear_11 : decode cX10_runYear 11 = .ok (.iconst 0, 1) := by decide +kernel
theorem dX10_runYear_12 : decode cX10_runYear 12 = .ok (.istore 6, 2) := by decide +kernel
theorem dX10_runYear_14 : decode cX10_runYear 14 = .ok (.iload 6, 2) := by decide +kernel
theorem dX10_runYear_16 : decode cX10_runYear 16 = .ok (.iload_n 2, 1) := by decide +kernel
theorem dX10_runYear_17 : decode cX10_runYear 17 = .ok (.if_icmp .ge 60, 3) := by decide +kernel
theorem dX10_runYear_20 : decode cX10_runYear 20 = .ok (.bipush 75, 2) := by decide +kernel
theorem dX10_runYear_22 : decode cX10_runYear 22 = .ok (.iload 5, 2) := by decide +kernel
theorem dX10_runYear_24 : decode cX10_runYear 24 = .ok (.imul, 1) := by decide +kernel
theorem dX10_runYear_25 : decode cX10_runYear 25 = .ok (.bipush 74, 2) := by decide +kernel
theorem dX10_runYear_27 : decode cX10_runYear 27 = .ok (.iadd, 1) := by decide +kernel
theorem dX10_runYear_28 : decode cX10_runYear 28 = .ok (.ldc 93, 2) := by decide +kernel
theorem dX10_runYear_30 : decode cX10_runYear 30 = .ok (.irem, 1) := by decide +kernel
theorem dX10_runYear_31 : decode cX10_runYear 31 = .ok (.istore 5, 2) := by decide +kernel
theorem dX10_runYear_33 : decode cX10_runYear 33 = .ok (.aload_n 0, 1) := by decide +kernel
theorem dX10_runYear_34 : decode cX10_runYear 34 = .ok (.getfield 21, 3) := by decide +kernel
theorem dX10_runYear_37 : decode cX10_runYear 37 = .ok (.iload 5, 2) := by decide +kernel
theorem dX10_runYear_39 : decode cX10_runYear 39 = .ok (.invokevirtual 94, 3) := by decide +kernel
theorem dX10_runYear_42 : decode cX10_runYear 42 = .ok (.aload_n 0, 1) := by decide +kernel
theorem dX10_runYear_43 : decode cX10_runYear 43 = .ok (.getfield 12, 3) := by decide +kernel
theorem dX10_runYear_46 : decode cX10_runYear 46 = .ok (.aload_n 0, 1) := by decide +kernel
theorem dX10_runYear_47 : decode cX10_runYear 47 = .ok (.getfield 21, 3) := by decide +kernel
theorem dX10_runYear_50 : decode cX10_runYear 50 = .ok (.aload 4, 2) := by decide +kernel
theorem dX10_runYear_52 : decode cX10_runYear 52 = .ok (.invokevirtual 43, 3) := by decide +kernel
theorem dX10_runYear_55 : decode cX10_runYear 55 = .ok (.ifCond .ne 16, 3) := by decide +kernel
theorem dX10_runYear_58 : decode cX10_runYear 58 = .ok (.aload_n 0, 1) := by decide +kernel
theorem dX10_runYear_59 : decode cX10_runYear 59 = .ok (.getfield 12, 3) := by decide +kernel
theorem dX10_runYear_62 : decode cX10_runYear 62 = .ok (.aload_n 0, 1) := by decide +kernel
theorem dX10_runYear_63 : decode cX10_runYear 63 = .ok (.getfield 21, 3) := by decide +kernel
theorem dX10_runYear_66 : decode cX10_runYear 66 = .ok (.aload 4, 2) := by decide +kernel
theorem dX10_runYear_68 : decode cX10_runYear 68 = .ok (.invokevirtual 54, 3) := by decide +kernel
theorem dX10_runYear_71 : decode cX10_runYear 71 = .ok (.iinc 6 1, 3) := by decide +kernel
theorem dX10_runYear_74 : decode cX10_runYear 74 = .ok (.goto (-60), 3) := by decide +kernel
theorem dX10_runYear_77 : decode cX10_runYear 77 = .ok (.return_, 1) := by decide +kernel
