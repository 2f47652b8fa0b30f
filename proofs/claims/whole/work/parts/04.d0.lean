theorem dJ6_bitCount_0f7a4_0 : decode cJ6_bitCount_0f7a4 0 = .ok (.iload_n 0, 1) := by decide +kernel
theorem dJ6_bitCount_0f7a4_1 : decode cJ6_bitCount_0f7a4 1 = .ok (.iload_n 0, 1) := by decide +kernel
theorem dJ6_bitCount_0f7a4_2 : decode cJ6_bitCount_0f7a4 2 = .ok (.iconst 1, 1) := by decide +kernel
theorem dJ6_bitCount_0f7a4_3 : decode cJ6_bitCount_0f7a4 3 = .ok (.iushr, 1) := by decide +kernel
theorem dJ6_bitCount_0f7a4_4 : decode cJ6_bitCount_0f7a4 4 = .ok (.ldc_w 265, 3) := by decide +kernel
theorem dJ6_bitCount_0f7a4_7 : decode cJ6_bitCount_0f7a4 7 = .ok (.iand, 1) := by decide +kernel
theorem dJ6_bitCount_0f7a4_8 : decode cJ6_bitCount_0f7a4 8 = .ok (.isub, 1) := by decide +kernel
theorem dJ6_bitCount_0f7a4_9 : decode cJ6_bitCount_0f7a4 9 = .ok (.istore_n 0, 1) := by decide +kernel
theorem dJ6_bitCount_0f7a4_10 : decode cJ6_bitCount_0f7a4 10 = .ok (.iload_n 0, 1) := by decide +kernel
theorem dJ6_bitCount_0f7a4_11 : decode cJ6_bitCount_0f7a4 11 = .ok (.ldc_w 266, 3) := by decide +kernel
theorem dJ6_bitCount_0f7a4_14 : decode cJ6_bitCount_0f7a4 14 = .ok (.iand, 1) := by decide +kernel
theorem dJ6_bitCount_0f7a4_15 : decode cJ6_bitCount_0f7a4 15 = .ok (.iload_n 0, 1) := by decide +kernel
theorem dJ6_bitCount_0f7a4_16 : decode cJ6_bitCount_0f7a4 16 = .ok (.iconst 2, 1) := by decide +kernel
theorem dJ6_bitCount_0f7a4_17 : decode cJ6_bitCount_0f7a4 17 = .ok (.iushr, 1) := by decide +kernel
theorem dJ6_bitCount_0f7a4_18 : decode cJ6_bitCount_0f7a4 18 = .ok (.ldc_w 266, 3) := by decide +kernel
theorem dJ6_bitCount_0f7a4_21 : decode cJ6_bitCount_0f7a4 21 = .ok (.iand, 1) := by decide +kernel
theorem dJ6_bitCount_0f7a4_22 : decode cJ6_bitCount_0f7a4 22 = .ok (.iadd, 1) := by decide +kernel
theorem dJ6_bitCount_0f7a4_23 : decode cJ6_bitCount_0f7a4 23 = .ok (.istore_n 0, 1) := by decide +kernel
theorem dJ6_bitCount_0f7a4_24 : decode cJ6_bitCount_0f7a4 24 = .ok (.iload_n 0, 1) := by decide +kernel
theorem dJ6_bitCount_0f7a4_25 : decode cJ6_bitCount_0f7a4 25 = .ok (.iload_n 0, 1) := by decide +kernel
theorem dJ6_bitCount_0f7a4_26 : decode cJ6_bitCount_0f7a4 26 = .ok (.iconst 4, 1) := by decide +kernel
theorem dJ6_bitCount_0f7a4_27 : decode cJ6_bitCount_0f7a4 27 = .ok (.iushr, 1) := by decide +kernel
theorem dJ6_bitCount_0f7a4_28 : decode cJ6_bitCount_0f7a4 28 = .ok (.iadd, 1) := by decide +kernel
theorem dJ6_bitCount_0f7a4_29 : decode cJ6_bitCount_0f7a4 29 = .ok (.ldc_w 267, 3) := by decide +kernel
theorem dJ6_bitCount_0f7a4_32 : decode cJ6_bitCount_0f7a4 32 = .ok (.iand, 1) := by decide +kernel
theorem dJ6_bitCount_0f7a4_33 : decode cJ6_bitCount_0f7a4 33 = .ok (.istore_n 0, 1) := by decide +kernel
theorem dJ6_bitCount_0f7a4_34 : decode cJ6_bitCount_0f7a4 34 = .ok (.iload_n 0, 1) := by decide +kernel
theorem dJ6_bitCount_0f7a4_35 : decode cJ6_bitCount_0f7a4 35 = .ok (.iload_n 0, 1) := by decide +kernel
theorem dJ6_bitCount_0f7a4_36 : decode cJ6_bitCount_0f7a4 36 = .ok (.bipush 8, 2) := by decide +kernel
theorem dJ6_bitCount_0f7a4_38 : decode cJ6_bitCount_0f7a4 38 = .ok (.iushr, 1) := by decide +kernel
theorem dJ6_bitCount_0f7a4_39 : decode cJ6_bitCount_0f7a4 39 = .ok (.iadd, 1) := by decide +kernel
theorem dJ6_bitCount_0f7a4_40 : decode cJ6_bitCount_0f7a4 40 = .ok (.istore_n 0, 1) := by decide +kernel
theorem dJ6_bitCount_0f7a4_41 : decode cJ6_bitCount_0f7a4 41 = .ok (.iload_n 0, 1) := by decide +kernel
theorem dJ6_bitCount_0f7a4_42 : decode cJ6_bitCount_0f7a4 42 = .ok (.iload_n 0, 1) := by decide +kernel
theorem dJ6_bitCount_0f7a4_43 : decode cJ6_bitCount_0f7a4 43 = .ok (.bipush 16, 2) := by decide +kernel
theorem dJ6_bitCount_0f7a4_45 : decode cJ6_bitCount_0f7a4 45 = .ok (.iushr, 1) := by decide +kernel
theorem dJ6_bitCount_0f7a4_46 : decode cJ6_bitCount_0f7a4 46 = .ok (.iadd, 1) := by decide +kernel
theorem dJ6_bitCount_0f7a4_47 : decode cJ6_bitCount_0f7a4 47 = .ok (.istore_n 0, 1) := by decide +kernel
theorem dJ6_bitCount_0f7a4_48 : decode cJ6_bitCount_0f7a4 48 = .ok (.iload_n 0, 1) := by decide +kernel
theorem dJ6_bitCount_0f7a4_49 : decode cJ6_bitCount_0f7a4 49 = .ok (.bipush 63, 2) := by decide +kernel
theorem dJ6_bitCount_0f7a4_51 : decode cJ6_bitCount_0f7a4 51 = .ok (.iand, 1) := by decide +kernel
theorem dJ6_bitCount_0f7a4_52 : decode cJ6_bitCount_0f7a4 52 = .ok (.ireturn, 1) := by decide +kernel
theorem dJ7_fill_53178_0 : decode cJ7_fill_53178 0 = .ok (.iconst 0, 1) := by decide +kernel
theorem dJ7_fill_53178_1 : decode cJ7_fill_53178 1 = .ok (.istore_n 2, 1) := by decide +kernel
theorem dJ7_fill_53178_2 : decode cJ7_fill_53178 2 = .ok (.aload_n 0, 1) := by decide +kernel
theorem dJ7_fill_53178_3 : decode cJ7_fill_53178 3 = .ok (.arraylength, 1) := by decide +kernel
theorem dJ7_fill_53178_4 : decode cJ7_fill_53178 4 = .ok (.istore_n 3, 1) := by decide +kernel
theorem dJ7_fill_53178_5 : decode cJ7_fill_53178 5 = .ok (.iload_n 2, 1) := by decide +kernel
theorem dJ7_fill_53178_6 : decode cJ7_fill_53178 6 = .ok (.iload_n 3, 1) := by decide +kernel
theorem dJ7_fill_53178_7 : decode cJ7_fill_53178 7 = .ok (.if_icmp .ge 13, 3) := by decide +kernel
theorem dJ7_fill_53178_10 : decode cJ7_fill_53178 10 = .ok (.aload_n 0, 1) := by decide +kernel
theorem dJ7_fill_53178_11 : decode cJ7_fill_53178 11 = .ok (.iload_n 2, 1) := by decide +kernel
theorem dJ7_fill_53178_12 : decode cJ7_fill_53178 12 = .ok (.iload_n 1, 1) := by decide +kernel
theorem dJ7_fill_53178_13 : decode cJ7_fill_53178 13 = .ok (.iastore, 1) := by decide +kernel
theorem dJ7_fill_53178_14 : decode cJ7_fill_53178 14 = .ok (.iinc 2 1, 3) := by decide +kernel
theorem dJ7_fill_53178_17 : decode cJ7_fill_53178 17 = .ok (.goto (-12), 3) := by decide +kernel
theorem dJ7_fill_53178_20 : decode cJ7_fill_53178 20 = .ok (.return_, 1) := by decide +kernel
theorem dX0_init_0 : decode cX0_init 0 = .ok (.aload_n 0, 1) := by decide +kernel
theorem dX0_init_1 : decode cX0_init 1 = .ok (.invokespecial 3, 3) := by decide +kernel
theorem dX0_init_4 : decode cX0_init 4 = .ok (.return_, 1) := by decide +kernel
theorem dX0_set_0 : decode cX0_set 0 = .ok (.aload_n 0, 1) := by decide +kernel
theorem dX0_set_1 : decode cX0_set 1 = .ok (.iload_n 1, 1) := by decide +kernel
theorem dX0_set_2 : decode cX0_set 2 = .ok (.putfield 9, 3) := by decide +kernel
theorem dX0_set_5 : decode cX0_set 5 = .ok (.aload_n 0, 1) := by decide +kernel
theorem dX0_set_6 : decode cX0_set 6 = .ok (.iload_n 2, 1) := by decide +kernel
theorem dX0_set_7 : decode cX0_set 7 = .ok (.putfield 15, 3) := by decide +kernel
theorem dX0_set_10 : decode cX0_set 10 = .ok (.aload_n 0, 1) := by decide +kernel
theorem dX0_set_11 : decode cX0_set 11 = .ok (.iload_n 3, 1) := by decide +kernel
theorem dX0_set_12 : decode cX0_set 12 = .ok (.putfield 18, 3) := by decide +kernel
theorem dX0_set_15 : decode cX0_set 15 = .ok (.return_, 1) := by decide +kernel
set_option maxRecDepth 20000 in
theorem ggX0_takeFrom_X7_signAt : GoodIn wsX0_takeFrom wsX7_signAt := goodIn_r _ [5, 6, 7, 22, 23] (by decide +kernel) (by decide +kernel)
set_option maxRecDepth 20000 in
theorem gX0_takeFrom_X7_signAt : GoodIn wsX0_takeFrom (wsV RX0 21 RX7 yX7_signAt wsX7_signAt) := goodIn_app (goodIn_of _ (by decide +kernel)) ggX0_takeFrom_X7_signAt
set_option maxRecDepth 20000 in
theorem ggX0_takeFrom_X7_isHerd : GoodIn wsX0_takeFrom wsX7_isHerd := goodIn_r _ [10, 11, 12, 13] (by decide +kernel) (by decide +kernel)
set_option maxRecDepth 20000 in
theorem gX0_takeFrom_X7_isHerd : GoodIn wsX0_takeFrom (va_wsS RX0 27 yX7_isHerd wsX7_isHerd) := goodIn_app (goodIn_of _ (by decide +kernel)) ggX0_takeFrom_X7_isHerd
set_option maxRecDepth 20000 in
theorem ggX0_takeFrom_X0_set : GoodIn wsX0_takeFrom wsX0_set := goodIn_r _ [18, 19, 20, 21, 24, 25, 26] (by decide +kernel) (by decide +kernel)
set_option maxRecDepth 20000 in
theorem gX0_takeFrom_X0_set : GoodIn wsX0_takeFrom (wsV RX0 31 RX0 yX0_set wsX0_set) := goodIn_app (goodIn_of _ (by decide +kernel)) ggX0_takeFrom_X0_set
theorem dX0_takeFrom_0 : decode cX0_takeFrom 0 = .ok (.aload_n 1, 1) := by decide +kernel
theorem dX0_takeFrom_1 : decode cX0_takeFrom 1 = .ok (.iload_n 2, 1) := by decide +kernel
theorem dX0_takeFrom_2 : decode cX0_takeFrom 2 = .ok (.invokevirtual 21, 3) := by decide +kernel
theorem dX0_takeFrom_5 : decode cX0_takeFrom 5 = .ok (.istore_n 3, 1) := by decide +kernel
theorem dX0_takeFrom_6 : decode cX0_takeFrom 6 = .ok (.iload_n 3, 1) := by decide +kernel
theorem dX0_takeFrom_7 : decode cX0_takeFrom 7 = .ok (.invokestatic 27, 3) := by decide +kernel
theorem dX0_takeFrom_10 : decode cX0_takeFrom 10 = .ok (.ifCond .ne 25, 3) := by decide +kernel
theorem dX0_takeFrom_13 : decode cX0_takeFrom 13 = .ok (.aload_n 0, 1) := by decide +kernel
theorem dX0_takeFrom_14 : decode cX0_takeFrom 14 = .ok (.iload_n 3, 1) := by decide +kernel
theorem dX0_takeFrom_15 : decode cX0_takeFrom 15 = .ok (.bipush 46, 2) := by decide +kernel
theorem dX0_takeFrom_17 : decode cX0_takeFrom 17 = .ok (.if_icmp .ne 7, 3) := by decide +kernel
theorem dX0_takeFrom_20 : decode cX0_takeFrom 20 = .ok (.iconst 4, 1) := by decide +kernel
theorem dX0_takeFrom_21 : decode cX0_takeFrom 21 = .ok (.goto 4, 3) := by decide +kernel
theorem dX0_takeFrom_24 : decode cX0_takeFrom 24 = .ok (.iconst 0, 1) := by decide +kernel
theorem dX0_takeFrom_25 : decode cX0_takeFrom 25 = .ok (.iload_n 3, 1) := by decide +kernel
theorem dX0_takeFrom_26 : decode cX0_takeFrom 26 = .ok (.bipush 97, 2) := by decide +kernel
theorem dX0_takeFrom_28 : decode cX0_takeFrom 28 = .ok (.isub, 1) := by decide +kernel
theorem dX0_takeFrom_29 : decode cX0_takeFrom 29 = .ok (.iconst 0, 1) := by decide +kernel
theorem dX0_takeFrom_30 : decode cX0_takeFrom 30 = .ok (.invokevirtual 31, 3) := by decide +kernel
theorem dX0_takeFrom_33 : decode cX0_takeFrom 33 = .ok (.iconst 1, 1) := by decide +kernel
theorem dX0_takeFrom_34 : decode cX0_takeFrom 34 = .ok (.ireturn, 1) := by decide +kernel
theorem dX0_takeFrom_35 : decode cX0_takeFrom 35 = .ok (.aload_n 1, 1) := by decide +kernel
theorem dX0_takeFrom_36 : decode cX0_takeFrom 36 = .ok (.iload_n 2, 1) := by decide +kernel
theorem dX0_takeFrom_37 : decode cX0_takeFrom 37 = .ok (.iconst 1, 1) := by decide +kernel
theorem dX0_takeFrom_38 : decode cX0_takeFrom 38 = .ok (.iadd, 1) := by decide +kernel
theorem dX0_takeFrom_39 : decode cX0_takeFrom 39 = .ok (.invokevirtual 21, 3) := by decide +kernel
theorem dX0_takeFrom_42 : decode cX0_takeFrom 42 = .ok (.istore 4, 2) := by decide +kernel
theorem dX0_takeFrom_44 : decode cX0_takeFrom 44 = .ok (.iload 4, 2) := by decide +kernel
theorem dX0_takeFrom_46 : decode cX0_takeFrom 46 = .ok (.bipush 38, 2) := by decide +kernel
theorem dX0_takeFrom_48 : decode cX0_takeFrom 48 = .ok (.if_icmp .ne 24, 3) := by decide +kernel
theorem dX0_takeFrom_51 : decode cX0_takeFrom 51 = .ok (.aload_n 0, 1) := by decide +kernel
theorem dX0_takeFrom_52 : decode cX0_takeFrom 52 = .ok (.iconst 3, 1) := by decide +kernel
theorem dX0_takeFrom_53 : decode cX0_takeFrom 53 = .ok (.iload_n 3, 1) := by decide +kernel
theorem dX0_takeFrom_54 : decode cX0_takeFrom 54 = .ok (.bipush 65, 2) := by decide +kernel
theorem dX0_takeFrom_56 : decode cX0_takeFrom 56 = .ok (.isub, 1) := by decide +kernel
theorem dX0_takeFrom_57 : decode cX0_takeFrom 57 = .ok (.aload_n 1, 1) := by decide +kernel
theorem dX0_takeFrom_58 : decode cX0_takeFrom 58 = .ok (.iload_n 2, 1) := by decide +kernel
theorem dX0_takeFrom_59 : decode cX0_takeFrom 59 = .ok (.iconst 2, 1) := by decide +kernel
theorem dX0_takeFrom_60 : decode cX0_takeFrom 60 = .ok (.iadd, 1) := by decide +kernel
theorem dX0_takeFrom_61 : decode cX0_takeFrom 61 = .ok (.invokevirtual 21, 3) := by decide +kernel
theorem dX0_takeFrom_64 : decode cX0_takeFrom 64 = .ok (.bipush 65, 2) := by decide +kernel
theorem dX0_takeFrom_66 : decode cX0_takeFrom 66 = .ok (.isub, 1) := by decide +kernel
theorem dX0_takeFrom_67 : decode cX0_takeFrom 67 = .ok (.invokevirtual 31, 3) := by decide +kernel
theorem dX0_takeFrom_70 : decode cX0_takeFrom 70 = .ok (.iconst 3, 1) := by decide +kernel
theorem dX0_takeFrom_71 : decode cX0_takeFrom 71 = .ok (.ireturn, 1) := by decide +kernel
theorem dX0_takeFrom_72 : decode cX0_takeFrom 72 = .ok (.aload_n 0, 1) := by decide +kernel
theorem dX0_takeFrom_73 : decode cX0_takeFrom 73 = .ok (.iload 4, 2) := by decide +kernel
theorem dX0_takeFrom_75 : decode cX0_takeFrom 75 = .ok (.bipush 63, 2) := by decide +kernel
theorem dX0_takeFrom_77 : decode cX0_takeFrom 77 = .ok (.if_icmp .ne 7, 3) := by decide +kernel
theorem dX0_takeFrom_80 : decode cX0_takeFrom 80 = .ok (.iconst 1, 1) := by decide +kernel
theorem dX0_takeFrom_81 : decode cX0_takeFrom 81 = .ok (.goto 4, 3) := by decide +kernel
theorem dX0_takeFrom_84 : decode cX0_takeFrom 84 = .ok (.iconst 2, 1) := by decide +kernel
theorem dX0_takeFrom_85 : decode cX0_takeFrom 85 = .ok (.iload_n 3, 1) := by decide +kernel
theorem dX0_takeFrom_86 : decode cX0_takeFrom 86 = .ok (.bipush 65, 2) := by decide +kernel
theorem dX0_takeFrom_88 : decode cX0_takeFrom 88 = .ok (.isub, 1) := by decide +kernel
theorem dX0_takeFrom_89 : decode cX0_takeFrom 89 = .ok (.iconst 0, 1) := by decide +kernel
theorem dX0_takeFrom_90 : decode cX0_takeFrom 90 = .ok (.invokevirtual 31, 3) := by decide +kernel
theorem dX0_takeFrom_93 : decode cX0_takeFrom 93 = .ok (.iconst 2, 1) := by decide +kernel
theorem dX0_takeFrom_94 : decode cX0_takeFrom 94 = .ok (.ireturn, 1) := by decide +kernel
set_option maxRecDepth 20000 in
theorem ggX0_draw_X0_set : GoodIn wsX0_draw wsX0_set := goodIn_r _ [5, 6, 7, 8, 9, 10, 11] (by decide +kernel) (by decide +kernel)
set_option maxRecDepth 20000 in
theorem gX0_draw_X0_set : GoodIn wsX0_draw (wsV RX0 31 RX0 yX0_set wsX0_set) := goodIn_app (goodIn_of _ (by decide +kernel)) ggX0_draw_X0_set
theorem dX0_draw_0 : decode cX0_draw 0 = .ok (.iload_n 1, 1) := by decide +kernel
theorem dX0_draw_1 : decode cX0_draw 1 = .ok (.bipush 8, 2) := by decide +kernel
theorem dX0_draw_3 : decode cX0_draw 3 = .ok (.idiv, 1) := by decide +kernel
theorem dX0_draw_4 : decode cX0_draw 4 = .ok (.istore_n 2, 1) := by decide +kernel
theorem dX0_draw_5 : decode cX0_draw 5 = .ok (.iload_n 1, 1) := by decide +kernel
theorem dX0_draw_6 : decode cX0_draw 6 = .ok (.bipush 8, 2) := by decide +kernel
theorem dX0_draw_8 : decode cX0_draw 8 = .ok (.irem, 1) := by decide +kernel
theorem dX0_draw_9 : decode cX0_draw 9 = .ok (.tableswitch 86 4 7 #[31, 44, 57, 76], 31) := by decide +kernel
theorem dX0_draw_40 : decode cX0_draw 40 = .ok (.aload_n 0, 1) := by decide +kernel
theorem dX0_draw_41 : decode cX0_draw 41 = .ok (.iconst 1, 1) := by decide +kernel
theorem dX0_draw_42 : decode cX0_draw 42 = .ok (.iload_n 2, 1) := by decide +kernel
theorem dX0_draw_43 : decode cX0_draw 43 = .ok (.bipush 6, 2) := by decide +kernel
theorem dX0_draw_45 : decode cX0_draw 45 = .ok (.irem, 1) := by decide +kernel
theorem dX0_draw_46 : decode cX0_draw 46 = .ok (.iconst 0, 1) := by decide +kernel
theorem dX0_draw_47 : decode cX0_draw 47 = .ok (.invokevirtual 31, 3) := by decide +kernel
theorem dX0_draw_50 : decode cX0_draw 50 = .ok (.goto 55, 3) := by decide +kernel
theorem dX0_draw_53 : decode cX0_draw 53 = .ok (.aload_n 0, 1) := by decide +kernel
theorem dX0_draw_54 : decode cX0_draw 54 = .ok (.iconst 2, 1) := by decide +kernel
theorem dX0_draw_55 : decode cX0_draw 55 = .ok (.iload_n 2, 1) := by decide +kernel
theorem dX0_draw_56 : decode cX0_draw 56 = .ok (.bipush 6, 2) := by decide +kernel
theorem dX0_draw_58 : decode cX0_draw 58 = .ok (.irem, 1) := by decide +kernel
theorem dX0_draw_59 : decode cX0_draw 59 = .ok (.iconst 0, 1) := by decide +kernel
theorem dX0_draw_60 : decode cX0_draw 60 = .ok (.invokevirtual 31, 3) := by decide +kernel
theorem dX0_draw_63 : decode cX0_draw 63 = .ok (.goto 42, 3) := by decide +kernel
theorem dX0_draw_66 : decode cX0_draw 66 = .ok (.aload_n 0, 1) := by decide +kernel
theorem dX0_draw_67 : decode cX0_draw 67 = .ok (.iconst 3, 1) := by decide +kernel
theorem dX0_draw_68 : decode cX0_draw 68 = .ok (.iload_n 2, 1) := by decide +kernel
theorem dX0_draw_69 : decode cX0_draw 69 = .ok (.bipush 6, 2) := by decide +kernel
theorem dX0_draw_71 : decode cX0_draw 71 = .ok (.irem, 1) := by decide +kernel
theorem dX0_draw_72 : decode cX0_draw 72 = .ok (.iload_n 2, 1) := by decide +kernel
theorem dX0_draw_73 : decode cX0_draw 73 = .ok (.bipush 6, 2) := by decide +kernel
theorem dX0_draw_75 : decode cX0_draw 75 = .ok (.idiv, 1) := by decide +kernel
theorem dX0_draw_76 : decode cX0_draw 76 = .ok (.bipush 6, 2) := by decide +kernel
theorem dX0_draw_78 : decode cX0_draw 78 = .ok (.irem, 1) := by decide +kernel
theorem dX0_draw_79 : decode cX0_draw 79 = .ok (.invokevirtual 31, 3) := by decide +kernel
theorem dX0_draw_82 : decode cX0_draw 82 = .ok (.goto 23, 3) := by decide +kernel
theorem dX0_draw_85 : decode cX0_draw 85 = .ok (.aload_n 0, 1) := by decide +kernel
theorem dX0_draw_86 : decode cX0_draw 86 = .ok (.iconst 4, 1) := by decide +kernel
theorem dX0_draw_87 : decode cX0_draw 87 = .ok (.iconst 0, 1) := by decide +kernel
theorem dX0_draw_88 : decode cX0_draw 88 = .ok (.iconst 0, 1) := by decide +kernel
theorem dX0_draw_89 : decode cX0_draw 89 = .ok (.invokevirtual 31, 3) := by decide +kernel
theorem dX0_draw_92 : decode cX0_draw 92 = .ok (.goto 13, 3) := by decide +kernel
theorem dX0_draw_95 : decode cX0_draw 95 = .ok (.aload_n 0, 1) := by decide +kernel
theorem dX0_draw_96 : decode cX0_draw 96 = .ok (.iconst 0, 1) := by decide +kernel
theorem dX0_draw_97 : decode cX0_draw 97 = .ok (.iload_n 2, 1) := by decide +kernel
theorem dX0_draw_98 : decode cX0_draw 98 = .ok (.bipush 10, 2) := by decide +kernel
theorem dX0_draw_100 : decode cX0_draw 100 = .ok (.irem, 1) := by decide +kernel
theorem dX0_draw_101 : decode cX0_draw 101 = .ok (.iconst 0, 1) := by decide +kernel
theorem dX0_draw_102 : decode cX0_draw 102 = .ok (.invokevirtual 31, 3) := by decide +kernel
theorem dX0_draw_105 : decode cX0_draw 105 = .ok (.return_, 1) := by decide +kernel
theorem dX7_init_0 : decode cX7_init 0 = .ok (.aload_n 0, 1) := by decide +kernel
theorem dX7_init_1 : decode cX7_init 1 = .ok (.invokespecial 3, 3) := by decide +kernel
theorem dX7_init_4 : decode cX7_init 4 = .ok (.aload_n 0, 1) := by decide +kernel
theorem dX7_init_5 : decode cX7_init 5 = .ok (.bipush 60, 2) := by decide +kernel
theorem dX7_init_7 : decode cX7_init 7 = .ok (.newarray .int, 2) := by decide +kernel
theorem dX7_init_9 : decode cX7_init 9 = .ok (.putfield 11, 3) := by decide +kernel
theorem dX7_init_12 : decode cX7_init 12 = .ok (.return_, 1) := by decide +kernel
theorem dX7_write_0 : decode cX7_write 0 = .ok (.aload_n 0, 1) := by decide +kernel
theorem dX7_write_1 : decode cX7_write 1 = .ok (.getfield 15, 3) := by decide +kernel
theorem dX7_write_4 : decode cX7_write 4 = .ok (.bipush 60, 2) := by decide +kernel
theorem dX7_write_6 : decode cX7_write 6 = .ok (.if_icmp .lt 5, 3) := by decide +kernel
theorem dX7_write_9 : decode cX7_write 9 = .ok (.iconst 0, 1) := by decide +kernel
theorem dX7_write_10 : decode cX7_write 10 = .ok (.ireturn, 1) := by decide +kernel
theorem dX7_write_11 : decode cX7_write 11 = .ok (.aload_n 0, 1) := by decide +kernel
theorem dX7_write_12 : decode cX7_write 12 = .ok (.getfield 11, 3) := by decide +kernel
theorem dX7_write_15 : decode cX7_write 15 = .ok (.aload_n 0, 1) := by decide +kernel
theorem dX7_write_16 : decode cX7_write 16 = .ok (.getfield 15, 3) := by decide +kernel
theorem dX7_write_19 : decode cX7_write 19 = .ok (.iload_n 1, 1) := by decide +kernel
theorem dX7_write_20 : decode cX7_write 20 = .ok (.iastore, 1) := by decide +kernel
theorem dX7_write_21 : decode cX7_write 21 = .ok (.aload_n 0, 1) := by decide +kernel
theorem dX7_write_22 : decode cX7_write 22 = .ok (.dup, 1) := by decide +kernel
theorem dX7_write_23 : decode cX7_write 23 = .ok (.getfield 15, 3) := by decide +kernel
theorem dX7_write_26 : decode cX7_write 26 = .ok (.iconst 1, 1) := by decide +kernel
theorem dX7_write_27 : decode cX7_write 27 = .ok (.iadd, 1) := by decide +kernel
theorem dX7_write_28 : decode cX7_write 28 = .ok (.putfield 15, 3) := by decide +kernel
theorem dX7_write_31 : decode cX7_write 31 = .ok (.iconst 1, 1) := by decide +kernel
theorem dX7_write_32 : decode cX7_write 32 = .ok (.ireturn, 1) := by decide +kernel
theorem dX7_signAt_0 : decode cX7_signAt 0 = .ok (.iload_n 1, 1) := by decide +kernel
theorem dX7_signAt_1 : decode cX7_signAt 1 = .ok (.ifCond .lt 26, 3) := by decide +kernel
theorem dX7_signAt_4 : decode cX7_signAt 4 = .ok (.iload_n 1, 1) := by decide +kernel
theorem dX7_signAt_5 : decode cX7_signAt 5 = .ok (.aload_n 0, 1) := by decide +kernel
theorem dX7_signAt_6 : decode cX7_signAt 6 = .ok (.getfield 15, 3) := by decide +kernel
theorem dX7_signAt_9 : decode cX7_signAt 9 = .ok (.if_icmp .ge 18, 3) := by decide +kernel
theorem dX7_signAt_12 : decode cX7_signAt 12 = .ok (.iload_n 1, 1) := by decide +kernel
theorem dX7_signAt_13 : decode cX7_signAt 13 = .ok (.bipush 60, 2) := by decide +kernel
theorem dX7_signAt_15 : decode cX7_signAt 15 = .ok (.if_icmp .ge 12, 3) := by decide +kernel
theorem dX7_signAt_18 : decode cX7_signAt 18 = .ok (.aload_n 0, 1) := by decide +kernel
theorem dX7_signAt_19 : decode cX7_signAt 19 = .ok (.getfield 11, 3) := by decide +kernel
theorem dX7_signAt_22 : decode cX7_signAt 22 = .ok (.iload_n 1, 1) := by decide +kernel
theorem dX7_signAt_23 : decode cX7_signAt 23 = .ok (.iaload, 1) := by decide +kernel
theorem dX7_signAt_24 : decode cX7_signAt 24 = .ok (.goto 4, 3) := by decide +kernel
theorem dX7_signAt_27 : decode cX7_signAt 27 = .ok (.iconst 0, 1) := by decide +kernel
theorem dX7_signAt_28 : decode cX7_signAt 28 = .ok (.ireturn, 1) := by decide +kernel
set_option maxRecDepth 20000 in
theorem ggX7_faultPlace_X7_awaitedBehind : GoodIn wsX7_faultPlace wsX7_awaitedBehind := goodIn_r _ [6, 7, 8, 5, 9, 10, 11, 12, 13, 14, 15] (by decide +kernel) (by decide +kernel)
set_option maxRecDepth 20000 in
theorem gX7_faultPlace_X7_awaitedBehind : GoodIn wsX7_faultPlace (va_wsS RX7 19 yX7_awaitedBehind wsX7_awaitedBehind) := goodIn_app (goodIn_of _ (by decide +kernel)) ggX7_faultPlace_X7_awaitedBehind
theorem dX7_faultPlace_0 : decode cX7_faultPlace 0 = .ok (.iconst 0, 1) := by decide +kernel
theorem dX7_faultPlace_1 : decode cX7_faultPlace 1 = .ok (.istore_n 1, 1) := by decide +kernel
theorem dX7_faultPlace_2 : decode cX7_faultPlace 2 = .ok (.iconst 0, 1) := by decide +kernel
theorem dX7_faultPlace_3 : decode cX7_faultPlace 3 = .ok (.istore_n 2, 1) := by decide +kernel
theorem dX7_faultPlace_4 : decode cX7_faultPlace 4 = .ok (.iload_n 2, 1) := by decide +kernel
theorem dX7_faultPlace_5 : decode cX7_faultPlace 5 = .ok (.aload_n 0, 1) := by decide +kernel
theorem dX7_faultPlace_6 : decode cX7_faultPlace 6 = .ok (.getfield 15, 3) := by decide +kernel
theorem dX7_faultPlace_9 : decode cX7_faultPlace 9 = .ok (.if_icmp .ge 33, 3) := by decide +kernel
theorem dX7_faultPlace_12 : decode cX7_faultPlace 12 = .ok (.iload_n 2, 1) := by decide +kernel
theorem dX7_faultPlace_13 : decode cX7_faultPlace 13 = .ok (.bipush 60, 2) := by decide +kernel
theorem dX7_faultPlace_15 : decode cX7_faultPlace 15 = .ok (.if_icmp .ge 27, 3) := by decide +kernel
theorem dX7_faultPlace_18 : decode cX7_faultPlace 18 = .ok (.iload_n 1, 1) := by decide +kernel
theorem dX7_faultPlace_19 : decode cX7_faultPlace 19 = .ok (.aload_n 0, 1) := by decide +kernel
theorem dX7_faultPlace_20 : decode cX7_faultPlace 20 = .ok (.getfield 11, 3) := by decide +kernel
theorem dX7_faultPlace_23 : decode cX7_faultPlace 23 = .ok (.iload_n 2, 1) := by decide +kernel
theorem dX7_faultPlace_24 : decode cX7_faultPlace 24 = .ok (.iaload, 1) := by decide +kernel
theorem dX7_faultPlace_25 : decode cX7_faultPlace 25 = .ok (.invokestatic 19, 3) := by decide +kernel
theorem dX7_faultPlace_28 : decode cX7_faultPlace 28 = .ok (.istore_n 1, 1) := by decide +kernel
theorem dX7_faultPlace_29 : decode cX7_faultPlace 29 = .ok (.iload_n 1, 1) := by decide +kernel
theorem dX7_faultPlace_30 : decode cX7_faultPlace 30 = .ok (.iconst 3, 1) := by decide +kernel
theorem dX7_faultPlace_31 : decode cX7_faultPlace 31 = .ok (.if_icmp .ne 5, 3) := by decide +kernel
theorem dX7_faultPlace_34 : decode cX7_faultPlace 34 = .ok (.iload_n 2, 1) := by decide +kernel
theorem dX7_faultPlace_35 : decode cX7_faultPlace 35 = .ok (.ireturn, 1) := by decide +kernel
theorem dX7_faultPlace_36 : decode cX7_faultPlace 36 = .ok (.iinc 2 1, 3) := by decide +kernel
theorem dX7_faultPlace_39 : decode cX7_faultPlace 39 = .ok (.goto (-35), 3) := by decide +kernel
theorem dX7_faultPlace_42 : decode cX7_faultPlace 42 = .ok (.iload_n 1, 1) := by decide +kernel
theorem dX7_faultPlace_43 : decode cX7_faultPlace 43 = .ok (.ifCond .ne 8, 3) := by decide +kernel
theorem dX7_faultPlace_46 : decode cX7_faultPlace 46 = .ok (.bipush (-6), 2) := by decide +kernel
theorem dX7_faultPlace_48 : decode cX7_faultPlace 48 = .ok (.goto 7, 3) := by decide +kernel
theorem dX7_faultPlace_51 : decode cX7_faultPlace 51 = .ok (.aload_n 0, 1) := by decide +kernel
theorem dX7_faultPlace_52 : decode cX7_faultPlace 52 = .ok (.getfield 15, 3) := by decide +kernel
theorem dX7_faultPlace_55 : decode cX7_faultPlace 55 = .ok (.ireturn, 1) := by decide +kernel
set_option maxRecDepth 20000 in
theorem ggX7_awaitedBehind_X7_isHerd : GoodIn wsX7_awaitedBehind wsX7_isHerd := goodIn_r _ [4, 5, 6, 7] (by decide +kernel) (by decide +kernel)
set_option maxRecDepth 20000 in
theorem gX7_awaitedBehind_X7_isHerd : GoodIn wsX7_awaitedBehind (va_wsS RX7 23 yX7_isHerd wsX7_isHerd) := goodIn_app (goodIn_of _ (by decide +kernel)) ggX7_awaitedBehind_X7_isHerd
set_option maxRecDepth 20000 in
theorem ggX7_awaitedBehind_X7_isClause : GoodIn wsX7_awaitedBehind wsX7_isClause := goodIn_r _ [10, 5, 6, 7] (by decide +kernel) (by decide +kernel)
set_option maxRecDepth 20000 in
theorem gX7_awaitedBehind_X7_isClause : GoodIn wsX7_awaitedBehind (va_wsS RX7 27 yX7_isClause wsX7_isClause) := goodIn_app (goodIn_of _ (by decide +kernel)) ggX7_awaitedBehind_X7_isClause
theorem dX7_awaitedBehind_0 : decode cX7_awaitedBehind 0 = .ok (.iload_n 0, 1) := by decide +kernel
theorem dX7_awaitedBehind_1 : decode cX7_awaitedBehind 1 = .ok (.ifCond .ne 31, 3) := by decide +kernel
theorem dX7_awaitedBehind_4 : decode cX7_awaitedBehind 4 = .ok (.iload_n 1, 1) := by decide +kernel
theorem dX7_awaitedBehind_5 : decode cX7_awaitedBehind 5 = .ok (.invokestatic 23, 3) := by decide +kernel
theorem dX7_awaitedBehind_8 : decode cX7_awaitedBehind 8 = .ok (.ifCond .eq 5, 3) := by decide +kernel
theorem dX7_awaitedBehind_11 : decode cX7_awaitedBehind 11 = .ok (.iconst 1, 1) := by decide +kernel
theorem dX7_awaitedBehind_12 : decode cX7_awaitedBehind 12 = .ok (.ireturn, 1) := by decide +kernel
theorem dX7_awaitedBehind_13 : decode cX7_awaitedBehind 13 = .ok (.iload_n 1, 1) := by decide +kernel
theorem dX7_awaitedBehind_14 : decode cX7_awaitedBehind 14 = .ok (.invokestatic 27, 3) := by decide +kernel
theorem dX7_awaitedBehind_17 : decode cX7_awaitedBehind 17 = .ok (.ifCond .ne 9, 3) := by decide +kernel
theorem dX7_awaitedBehind_20 : decode cX7_awaitedBehind 20 = .ok (.iload_n 1, 1) := by decide +kernel
theorem dX7_awaitedBehind_21 : decode cX7_awaitedBehind 21 = .ok (.bipush 46, 2) := by decide +kernel
theorem dX7_awaitedBehind_23 : decode cX7_awaitedBehind 23 = .ok (.if_icmp .ne 7, 3) := by decide +kernel
theorem dX7_awaitedBehind_26 : decode cX7_awaitedBehind 26 = .ok (.iconst 0, 1) := by decide +kernel
theorem dX7_awaitedBehind_27 : decode cX7_awaitedBehind 27 = .ok (.goto 4, 3) := by decide +kernel
theorem dX7_awaitedBehind_30 : decode cX7_awaitedBehind 30 = .ok (.iconst 3, 1) := by decide +kernel
theorem dX7_awaitedBehind_31 : decode cX7_awaitedBehind 31 = .ok (.ireturn, 1) := by decide +kernel
theorem dX7_awaitedBehind_32 : decode cX7_awaitedBehind 32 = .ok (.iload_n 0, 1) := by decide +kernel
theorem dX7_awaitedBehind_33 : decode cX7_awaitedBehind 33 = .ok (.iconst 1, 1) := by decide +kernel
theorem dX7_awaitedBehind_34 : decode cX7_awaitedBehind 34 = .ok (.if_icmp .ne 29, 3) := by decide +kernel
theorem dX7_awaitedBehind_37 : decode cX7_awaitedBehind 37 = .ok (.iload_n 1, 1) := by decide +kernel
theorem dX7_awaitedBehind_38 : decode cX7_awaitedBehind 38 = .ok (.bipush 38, 2) := by decide +kernel
theorem dX7_awaitedBehind_40 : decode cX7_awaitedBehind 40 = .ok (.if_icmp .ne 5, 3) := by decide +kernel
theorem dX7_awaitedBehind_43 : decode cX7_awaitedBehind 43 = .ok (.iconst 2, 1) := by decide +kernel
theorem dX7_awaitedBehind_44 : decode cX7_awaitedBehind 44 = .ok (.ireturn, 1) := by decide +kernel
theorem dX7_awaitedBehind_45 : decode cX7_awaitedBehind 45 = .ok (.iload_n 1, 1) := by decide +kernel
theorem dX7_awaitedBehind_46 : decode cX7_awaitedBehind 46 = .ok (.bipush 63, 2) := by decide +kernel
theorem dX7_awaitedBehind_48 : decode cX7_awaitedBehind 48 = .ok (.if_icmp .eq 9, 3) := by decide +kernel
theorem dX7_awaitedBehind_51 : decode cX7_awaitedBehind 51 = .ok (.iload_n 1, 1) := by decide +kernel
theorem dX7_awaitedBehind_52 : decode cX7_awaitedBehind 52 = .ok (.bipush 33, 2) := by decide +kernel
theorem dX7_awaitedBehind_54 : decode cX7_awaitedBehind 54 = .ok (.if_icmp .ne 7, 3) := by decide +kernel
theorem dX7_awaitedBehind_57 : decode cX7_awaitedBehind 57 = .ok (.iconst 0, 1) := by decide +kernel
theorem dX7_awaitedBehind_58 : decode cX7_awaitedBehind 58 = .ok (.goto 4, 3) := by decide +kernel
theorem dX7_awaitedBehind_61 : decode cX7_awaitedBehind 61 = .ok (.iconst 3, 1) := by decide +kernel
theorem dX7_awaitedBehind_62 : decode cX7_awaitedBehind 62 = .ok (.ireturn, 1) := by decide +kernel
theorem dX7_awaitedBehind_63 : decode cX7_awaitedBehind 63 = .ok (.iload_n 1, 1) := by decide +kernel
theorem dX7_awaitedBehind_64 : decode cX7_awaitedBehind 64 = .ok (.invokestatic 23, 3) := by decide +kernel
theorem dX7_awaitedBehind_67 : decode cX7_awaitedBehind 67 = .ok (.ifCond .eq 7, 3) := by decide +kernel
theorem dX7_awaitedBehind_70 : decode cX7_awaitedBehind 70 = .ok (.iconst 0, 1) := by decide +kernel
theorem dX7_awaitedBehind_71 : decode cX7_awaitedBehind 71 = .ok (.goto 4, 3) := by decide +kernel
theorem dX7_awaitedBehind_74 : decode cX7_awaitedBehind 74 = .ok (.iconst 3, 1) := by decide +kernel
theorem dX7_awaitedBehind_75 : decode cX7_awaitedBehind 75 = .ok (.ireturn, 1) := by decide +kernel
set_option maxRecDepth 20000 in
theorem ggX7_isHerd_X11_within : GoodIn wsX7_isHerd wsX11_within := goodIn_r _ [3] (by decide +kernel) (by decide +kernel)
set_option maxRecDepth 20000 in
theorem gX7_isHerd_X11_within_n30 : GoodIn wsX7_isHerd (wsX11_within) := ggX7_isHerd_X11_within
theorem dX7_isHerd_0 : decode cX7_isHerd 0 = .ok (.iload_n 0, 1) := by decide +kernel
theorem dX7_isHerd_1 : decode cX7_isHerd 1 = .ok (.bipush 65, 2) := by decide +kernel
theorem dX7_isHerd_3 : decode cX7_isHerd 3 = .ok (.bipush 70, 2) := by decide +kernel
theorem dX7_isHerd_5 : decode cX7_isHerd 5 = .ok (.invokestatic 30, 3) := by decide +kernel
theorem dX7_isHerd_8 : decode cX7_isHerd 8 = .ok (.ireturn, 1) := by decide +kernel
set_option maxRecDepth 20000 in
theorem ggX7_isClause_X11_within : GoodIn wsX7_isClause wsX11_within := goodIn_r _ [3] (by decide +kernel) (by decide +kernel)
set_option maxRecDepth 20000 in
theorem gX7_isClause_X11_within_n30 : GoodIn wsX7_isClause (wsX11_within) := ggX7_isClause_X11_within
theorem dX7_isClause_0 : decode cX7_isClause 0 = .ok (.iload_n 0, 1) := by decide +kernel
theorem dX7_isClause_1 : decode cX7_isClause 1 = .ok (.bipush 97, 2) := by decide +kernel
theorem dX7_isClause_3 : decode cX7_isClause 3 = .ok (.bipush 106, 2) := by decide +kernel
theorem dX7_isClause_5 : decode cX7_isClause 5 = .ok (.invokestatic 30, 3) := by decide +kernel
theorem dX7_isClause_8 : decode cX7_isClause 8 = .ok (.ireturn, 1) := by decide +kernel
theorem dX8_init_0 : decode cX8_init 0 = .ok (.aload_n 0, 1) := by decide +kernel
theorem dX8_init_1 : decode cX8_init 1 = .ok (.invokespecial 3, 3) := by decide +kernel
theorem dX8_init_4 : decode cX8_init 4 = .ok (.aload_n 0, 1) := by decide +kernel
theorem dX8_init_5 : decode cX8_init 5 = .ok (.bipush 6, 2) := by decide +kernel
theorem dX8_init_7 : decode cX8_init 7 = .ok (.newarray .int, 2) := by decide +kernel
theorem dX8_init_9 : decode cX8_init 9 = .ok (.putfield 9, 3) := by decide +kernel
theorem dX8_init_12 : decode cX8_init 12 = .ok (.aload_n 0, 1) := by decide +kernel
theorem dX8_init_13 : decode cX8_init 13 = .ok (.bipush 6, 2) := by decide +kernel
theorem dX8_init_15 : decode cX8_init 15 = .ok (.newarray .int, 2) := by decide +kernel
theorem dX8_init_17 : decode cX8_init 17 = .ok (.putfield 15, 3) := by decide +kernel
theorem dX8_init_20 : decode cX8_init 20 = .ok (.aload_n 0, 1) := by decide +kernel
theorem dX8_init_21 : decode cX8_init 21 = .ok (.bipush 6, 2) := by decide +kernel
theorem dX8_init_23 : decode cX8_init 23 = .ok (.newarray .int, 2) := by decide +kernel
theorem dX8_init_25 : decode cX8_init 25 = .ok (.putfield 18, 3) := by decide +kernel
theorem dX8_init_28 : decode cX8_init 28 = .ok (.aload_n 0, 1) := by decide +kernel
theorem dX8_init_29 : decode cX8_init 29 = .ok (.bipush 6, 2) := by decide +kernel
theorem dX8_init_31 : decode cX8_init 31 = .ok (.newarray .int, 2) := by decide +kernel
theorem dX8_init_33 : decode cX8_init 33 = .ok (.putfield 21, 3) := by decide +kernel
theorem dX8_init_36 : decode cX8_init 36 = .ok (.return_, 1) := by decide +kernel
theorem dX8_copyFrom_0 : decode cX8_copyFrom 0 = .ok (.aload_n 0, 1) := by decide +kernel
theorem dX8_copyFrom_1 : decode cX8_copyFrom 1 = .ok (.aload_n 1, 1) := by decide +kernel
theorem dX8_copyFrom_2 : decode cX8_copyFrom 2 = .ok (.getfield 24, 3) := by decide +kernel
theorem dX8_copyFrom_5 : decode cX8_copyFrom 5 = .ok (.putfield 24, 3) := by decide +kernel
theorem dX8_copyFrom_8 : decode cX8_copyFrom 8 = .ok (.aload_n 0, 1) := by decide +kernel
theorem dX8_copyFrom_9 : decode cX8_copyFrom 9 = .ok (.aload_n 1, 1) := by decide +kernel
theorem dX8_copyFrom_10 : decode cX8_copyFrom 10 = .ok (.getfield 28, 3) := by decide +kernel
theorem dX8_copyFrom_13 : decode cX8_copyFrom 13 = .ok (.putfield 28, 3) := by decide +kernel
theorem dX8_copyFrom_16 : decode cX8_copyFrom 16 = .ok (.aload_n 0, 1) := by decide +kernel
theorem dX8_copyFrom_17 : decode cX8_copyFrom 17 = .ok (.aload_n 1, 1) := by decide +kernel
theorem dX8_copyFrom_18 : decode cX8_copyFrom 18 = .ok (.getfield 31, 3) := by decide +kernel
theorem dX8_copyFrom_21 : decode cX8_copyFrom 21 = .ok (.putfield 31, 3) := by decide +kernel
theorem dX8_copyFrom_24 : decode cX8_copyFrom 24 = .ok (.iconst 0, 1) := by decide +kernel
theorem dX8_copyFrom_25 : decode cX8_copyFrom 25 = .ok (.istore_n 2, 1) := by decide +kernel
theorem dX8_copyFrom_26 : decode cX8_copyFrom 26 = .ok (.iload_n 2, 1) := by decide +kernel
theorem dX8_copyFrom_27 : decode cX8_copyFrom 27 = .ok (.bipush 6, 2) := by decide +kernel
theorem dX8_copyFrom_29 : decode cX8_copyFrom 29 = .ok (.if_icmp .ge 57, 3) := by decide +kernel
theorem dX8_copyFrom_32 : decode cX8_copyFrom 32 = .ok (.aload_n 0, 1) := by decide +kernel
theorem dX8_copyFrom_33 : decode cX8_copyFrom 33 = .ok (.getfield 9, 3) := by decide +kernel
theorem dX8_copyFrom_36 : decode cX8_copyFrom 36 = .ok (.iload_n 2, 1) := by decide +kernel
theorem dX8_copyFrom_37 : decode cX8_copyFrom 37 = .ok (.aload_n 1, 1) := by decide +kernel
theorem dX8_copyFrom_38 : decode cX8_copyFrom 38 = .ok (.getfield 9, 3) := by decide +kernel
theorem dX8_copyFrom_41 : decode cX8_copyFrom 41 = .ok (.iload_n 2, 1) := by decide +kernel
theorem dX8_copyFrom_42 : decode cX8_copyFrom 42 = .ok (.iaload, 1) := by decide +kernel
theorem dX8_copyFrom_43 : decode cX8_copyFrom 43 = .ok (.iastore, 1) := by decide +kernel
theorem dX8_copyFrom_44 : decode cX8_copyFrom 44 = .ok (.aload_n 0, 1) := by decide +kernel
theorem dX8_copyFrom_45 : decode cX8_copyFrom 45 = .ok (.getfield 15, 3) := by decide +kernel
theorem dX8_copyFrom_48 : decode cX8_copyFrom 48 = .ok (.iload_n 2, 1) := by decide +kernel
theorem dX8_copyFrom_49 : decode cX8_copyFrom 49 = .ok (.aload_n 1, 1) := by decide +kernel
theorem dX8_copyFrom_50 : decode cX8_copyFrom 50 = .ok (.getfield 15, 3) := by decide +kernel
theorem dX8_copyFrom_53 : decode cX8_copyFrom 53 = .ok (.iload_n 2, 1) := by decide +kernel
theorem dX8_copyFrom_54 : decode cX8_copyFrom 54 = .ok (.iaload, 1) := by decide +kernel
theorem dX8_copyFrom_55 : decode cX8_copyFrom 55 = .ok (.iastore, 1) := by decide +kernel
theorem dX8_copyFrom_56 : decode cX8_copyFrom 56 = .ok (.aload_n 0, 1) := by decide +kernel
theorem dX8_copyFrom_57 : decode cX8_copyFrom 57 = .ok (.getfield 18, 3) := by decide +kernel
theorem dX8_copyFrom_60 : decode cX8_copyFrom 60 = .ok (.iload_n 2, 1) := by decide +kernel
theorem dX8_copyFrom_61 : decode cX8_copyFrom 61 = .ok (.aload_n 1, 1) := by decide +kernel
theorem dX8_copyFrom_62 : decode cX8_copyFrom 62 = .ok (.getfield 18, 3) := by decide +kernel
theorem dX8_copyFrom_65 : decode cX8_copyFrom 65 = .ok (.iload_n 2, 1) := by decide +kernel
theorem dX8_copyFrom_66 : decode cX8_copyFrom 66 = .ok (.iaload, 1) := by decide +kernel
theorem dX8_copyFrom_67 : decode cX8_copyFrom 67 = .ok (.iastore, 1) := by decide +kernel
theorem dX8_copyFrom_68 : decode cX8_copyFrom 68 = .ok (.aload_n 0, 1) := by decide +kernel
theorem dX8_copyFrom_69 : decode cX8_copyFrom 69 = .ok (.getfield 21, 3) := by decide +kernel
theorem dX8_copyFrom_72 : decode cX8_copyFrom 72 = .ok (.iload_n 2, 1) := by decide +kernel
theorem dX8_copyFrom_73 : decode cX8_copyFrom 73 = .ok (.aload_n 1, 1) := by decide +kernel
theorem dX8_copyFrom_74 : decode cX8_copyFrom 74 = .ok (.getfield 21, 3) := by decide +kernel
theorem dX8_copyFrom_77 : decode cX8_copyFrom 77 = .ok (.iload_n 2, 1) := by decide +kernel
theorem dX8_copyFrom_78 : decode cX8_copyFrom 78 = .ok (.iaload, 1) := by decide +kernel
theorem dX8_copyFrom_79 : decode cX8_copyFrom 79 = .ok (.iastore, 1) := by decide +kernel
theorem dX8_copyFrom_80 : decode cX8_copyFrom 80 = .ok (.iinc 2 1, 3) := by decide +kernel
theorem dX8_copyFrom_83 : decode cX8_copyFrom 83 = .ok (.goto (-57), 3) := by decide +kernel
theorem dX8_copyFrom_86 : decode cX8_copyFrom 86 = .ok (.return_, 1) := by decide +kernel
set_option maxRecDepth 20000 in
theorem ggX8_settle_X11_within : GoodIn wsX8_settle wsX11_within := goodIn_r _ [8] (by decide +kernel) (by decide +kernel)
set_option maxRecDepth 20000 in
theorem gX8_settle_X11_within_n34 : GoodIn wsX8_settle (wsX11_within) := ggX8_settle_X11_within
theorem dX8_settle_0 : decode cX8_settle 0 = .ok (.iload_n 1, 1) := by decide +kernel
theorem dX8_settle_1 : decode cX8_settle 1 = .ok (.iconst 0, 1) := by decide +kernel
theorem dX8_settle_2 : decode cX8_settle 2 = .ok (.iconst 5, 1) := by decide +kernel
theorem dX8_settle_3 : decode cX8_settle 3 = .ok (.invokestatic 34, 3) := by decide +kernel
theorem dX8_settle_6 : decode cX8_settle 6 = .ok (.ifCond .ne 4, 3) := by decide +kernel
theorem dX8_settle_9 : decode cX8_settle 9 = .ok (.return_, 1) := by decide +kernel
theorem dX8_settle_10 : decode cX8_settle 10 = .ok (.aload_n 0, 1) := by decide +kernel
theorem dX8_settle_11 : decode cX8_settle 11 = .ok (.dup, 1) := by decide +kernel
theorem dX8_settle_12 : decode cX8_settle 12 = .ok (.getfield 24, 3) := by decide +kernel
theorem dX8_settle_15 : decode cX8_settle 15 = .ok (.iconst 1, 1) := by decide +kernel
theorem dX8_settle_16 : decode cX8_settle 16 = .ok (.iload_n 1, 1) := by decide +kernel
theorem dX8_settle_17 : decode cX8_settle 17 = .ok (.ishl, 1) := by decide +kernel
theorem dX8_settle_18 : decode cX8_settle 18 = .ok (.ior, 1) := by decide +kernel
theorem dX8_settle_19 : decode cX8_settle 19 = .ok (.putfield 24, 3) := by decide +kernel
theorem dX8_settle_22 : decode cX8_settle 22 = .ok (.aload_n 0, 1) := by decide +kernel
theorem dX8_settle_23 : decode cX8_settle 23 = .ok (.getfield 9, 3) := by decide +kernel
theorem dX8_settle_26 : decode cX8_settle 26 = .ok (.iload_n 1, 1) := by decide +kernel
theorem dX8_settle_27 : decode cX8_settle 27 = .ok (.iload_n 2, 1) := by decide +kernel
theorem dX8_settle_28 : decode cX8_settle 28 = .ok (.iastore, 1) := by decide +kernel
theorem dX8_settle_29 : decode cX8_settle 29 = .ok (.aload_n 0, 1) := by decide +kernel
theorem dX8_settle_30 : decode cX8_settle 30 = .ok (.getfield 15, 3) := by decide +kernel
theorem dX8_settle_33 : decode cX8_settle 33 = .ok (.iload_n 1, 1) := by decide +kernel
theorem dX8_settle_34 : decode cX8_settle 34 = .ok (.iload_n 3, 1) := by decide +kernel
theorem dX8_settle_35 : decode cX8_settle 35 = .ok (.iastore, 1) := by decide +kernel
theorem dX8_settle_36 : decode cX8_settle 36 = .ok (.aload_n 0, 1) := by decide +kernel
theorem dX8_settle_37 : decode cX8_settle 37 = .ok (.getfield 18, 3) := by decide +kernel
theorem dX8_settle_40 : decode cX8_settle 40 = .ok (.iload_n 1, 1) := by decide +kernel
theorem dX8_settle_41 : decode cX8_settle 41 = .ok (.iload 4, 2) := by decide +kernel
theorem dX8_settle_43 : decode cX8_settle 43 = .ok (.iastore, 1) := by decide +kernel
theorem dX8_settle_44 : decode cX8_settle 44 = .ok (.aload_n 0, 1) := by decide +kernel
theorem dX8_settle_45 : decode cX8_settle 45 = .ok (.getfield 21, 3) := by decide +kernel
theorem dX8_settle_48 : decode cX8_settle 48 = .ok (.iload_n 1, 1) := by decide +kernel
theorem dX8_settle_49 : decode cX8_settle 49 = .ok (.iload 5, 2) := by decide +kernel
theorem dX8_settle_51 : decode cX8_settle 51 = .ok (.iastore, 1) := by decide +kernel
theorem dX8_settle_52 : decode cX8_settle 52 = .ok (.return_, 1) := by decide +kernel
theorem dX8_isThere_0 : decode cX8_isThere 0 = .ok (.iload_n 1, 1) := by decide +kernel
theorem dX8_isThere_1 : decode cX8_isThere 1 = .ok (.ifCond .lt 25, 3) := by decide +kernel
theorem dX8_isThere_4 : decode cX8_isThere 4 = .ok (.iload_n 1, 1) := by decide +kernel
theorem dX8_isThere_5 : decode cX8_isThere 5 = .ok (.bipush 6, 2) := by decide +kernel
theorem dX8_isThere_7 : decode cX8_isThere 7 = .ok (.if_icmp .ge 19, 3) := by decide +kernel
theorem dX8_isThere_10 : decode cX8_isThere 10 = .ok (.aload_n 0, 1) := by decide +kernel
theorem dX8_isThere_11 : decode cX8_isThere 11 = .ok (.getfield 24, 3) := by decide +kernel
theorem dX8_isThere_14 : decode cX8_isThere 14 = .ok (.iload_n 1, 1) := by decide +kernel
theorem dX8_isThere_15 : decode cX8_isThere 15 = .ok (.ishr, 1) := by decide +kernel
theorem dX8_isThere_16 : decode cX8_isThere 16 = .ok (.iconst 1, 1) := by decide +kernel
theorem dX8_isThere_17 : decode cX8_isThere 17 = .ok (.iand, 1) := by decide +kernel
theorem dX8_isThere_18 : decode cX8_isThere 18 = .ok (.iconst 1, 1) := by decide +kernel
theorem dX8_isThere_19 : decode cX8_isThere 19 = .ok (.if_icmp .ne 7, 3) := by decide +kernel
theorem dX8_isThere_22 : decode cX8_isThere 22 = .ok (.iconst 1, 1) := by decide +kernel
theorem dX8_isThere_23 : decode cX8_isThere 23 = .ok (.goto 4, 3) := by decide +kernel
theorem dX8_isThere_26 : decode cX8_isThere 26 = .ok (.iconst 0, 1) := by decide +kernel
theorem dX8_isThere_27 : decode cX8_isThere 27 = .ok (.ireturn, 1) := by decide +kernel
set_option maxRecDepth 20000 in
theorem ggX8_traitOf_X8_isThere : GoodIn wsX8_traitOf wsX8_isThere := goodIn_r _ [9, 10, 11, 12, 13, 14, 15, 16, 17] (by decide +kernel) (by decide +kernel)
set_option maxRecDepth 20000 in
theorem gX8_traitOf_X8_isThere : GoodIn wsX8_traitOf (wsV RX8 38 RX8 yX8_isThere wsX8_isThere) := goodIn_app (goodIn_of _ (by decide +kernel)) ggX8_traitOf_X8_isThere
theorem dX8_traitOf_0 : decode cX8_traitOf 0 = .ok (.aload_n 0, 1) := by decide +kernel
theorem dX8_traitOf_1 : decode cX8_traitOf 1 = .ok (.iload_n 1, 1) := by decide +kernel
theorem dX8_traitOf_2 : decode cX8_traitOf 2 = .ok (.invokevirtual 38, 3) := by decide +kernel
theorem dX8_traitOf_5 : decode cX8_traitOf 5 = .ok (.ifCond .ne 6, 3) := by decide +kernel
theorem dX8_traitOf_8 : decode cX8_traitOf 8 = .ok (.bipush (-2), 2) := by decide +kernel
theorem dX8_traitOf_10 : decode cX8_traitOf 10 = .ok (.ireturn, 1) := by decide +kernel
theorem dX8_traitOf_11 : decode cX8_traitOf 11 = .ok (.iload_n 2, 1) := by decide +kernel
theorem dX8_traitOf_12 : decode cX8_traitOf 12 = .ok (.tableswitch 60 0 3 #[32, 39, 46, 53], 32) := by decide +kernel
theorem dX8_traitOf_44 : decode cX8_traitOf 44 = .ok (.aload_n 0, 1) := by decide +kernel
theorem dX8_traitOf_45 : decode cX8_traitOf 45 = .ok (.getfield 9, 3) := by decide +kernel
theorem dX8_traitOf_48 : decode cX8_traitOf 48 = .ok (.iload_n 1, 1) := by decide +kernel
theorem dX8_traitOf_49 : decode cX8_traitOf 49 = .ok (.iaload, 1) := by decide +kernel
theorem dX8_traitOf_50 : decode cX8_traitOf 50 = .ok (.ireturn, 1) := by decide +kernel
theorem dX8_traitOf_51 : decode cX8_traitOf 51 = .ok (.aload_n 0, 1) := by decide +kernel
theorem dX8_traitOf_52 : decode cX8_traitOf 52 = .ok (.getfield 15, 3) := by decide +kernel
theorem dX8_traitOf_55 : decode cX8_traitOf 55 = .ok (.iload_n 1, 1) := by decide +kernel
theorem dX8_traitOf_56 : decode cX8_traitOf 56 = .ok (.iaload, 1) := by decide +kernel
theorem dX8_traitOf_57 : decode cX8_traitOf 57 = .ok (.ireturn, 1) := by decide +kernel
theorem dX8_traitOf_58 : decode cX8_traitOf 58 = .ok (.aload_n 0, 1) := by decide +kernel
theorem dX8_traitOf_59 : decode cX8_traitOf 59 = .ok (.getfield 18, 3) := by decide +kernel
theorem dX8_traitOf_62 : decode cX8_traitOf 62 = .ok (.iload_n 1, 1) := by decide +kernel
theorem dX8_traitOf_63 : decode cX8_traitOf 63 = .ok (.iaload, 1) := by decide +kernel
theorem dX8_traitOf_64 : decode cX8_traitOf 64 = .ok (.ireturn, 1) := by decide +kernel
theorem dX8_traitOf_65 : decode cX8_traitOf 65 = .ok (.aload_n 0, 1) := by decide +kernel
theorem dX8_traitOf_66 : decode cX8_traitOf 66 = .ok (.getfield 21, 3) := by decide +kernel
theorem dX8_traitOf_69 : decode cX8_traitOf 69 = .ok (.iload_n 1, 1) := by decide +kernel
theorem dX8_traitOf_70 : decode cX8_traitOf 70 = .ok (.iaload, 1) := by decide +kernel
theorem dX8_traitOf_71 : decode cX8_traitOf 71 = .ok (.ireturn, 1) := by decide +kernel
theorem dX8_traitOf_72 : decode cX8_traitOf 72 = .ok (.bipush (-2), 2) := by decide +kernel
theorem dX8_traitOf_74 : decode cX8_traitOf 74 = .ok (.ireturn, 1) := by decide +kernel
set_option maxRecDepth 20000 in
theorem ggX8_listens_X8_isThere : GoodIn wsX8_listens wsX8_isThere := goodIn_r _ [8, 9, 10, 11, 12, 13, 14, 15, 16] (by decide +kernel) (by decide +kernel)
set_option maxRecDepth 20000 in
theorem gX8_listens_X8_isThere : GoodIn wsX8_listens (wsV RX8 38 RX8 yX8_isThere wsX8_isThere) := goodIn_app (goodIn_of _ (by decide +kernel)) ggX8_listens_X8_isThere
theorem dX8_listens_0 : decode cX8_listens 0 = .ok (.aload_n 0, 1) := by decide +kernel
theorem dX8_listens_1 : decode cX8_listens 1 = .ok (.iload_n 1, 1) := by decide +kernel
theorem dX8_listens_2 : decode cX8_listens 2 = .ok (.invokevirtual 38, 3) := by decide +kernel
theorem dX8_listens_5 : decode cX8_listens 5 = .ok (.ifCond .eq 32, 3) := by decide +kernel
theorem dX8_listens_8 : decode cX8_listens 8 = .ok (.aload_n 0, 1) := by decide +kernel
theorem dX8_listens_9 : decode cX8_listens 9 = .ok (.getfield 9, 3) := by decide +kernel
theorem dX8_listens_12 : decode cX8_listens 12 = .ok (.iload_n 1, 1) := by decide +kernel
theorem dX8_listens_13 : decode cX8_listens 13 = .ok (.iaload, 1) := by decide +kernel
theorem dX8_listens_14 : decode cX8_listens 14 = .ok (.ifCond .le 23, 3) := by decide +kernel
theorem dX8_listens_17 : decode cX8_listens 17 = .ok (.aload_n 0, 1) := by decide +kernel
theorem dX8_listens_18 : decode cX8_listens 18 = .ok (.getfield 21, 3) := by decide +kernel
theorem dX8_listens_21 : decode cX8_listens 21 = .ok (.iload_n 1, 1) := by decide +kernel
theorem dX8_listens_22 : decode cX8_listens 22 = .ok (.iaload, 1) := by decide +kernel
theorem dX8_listens_23 : decode cX8_listens 23 = .ok (.aload_n 0, 1) := by decide +kernel
theorem dX8_listens_24 : decode cX8_listens 24 = .ok (.getfield 28, 3) := by decide +kernel
theorem dX8_listens_27 : decode cX8_listens 27 = .ok (.bipush 12, 2) := by decide +kernel
theorem dX8_listens_29 : decode cX8_listens 29 = .ok (.irem, 1) := by decide +kernel
theorem dX8_listens_30 : decode cX8_listens 30 = .ok (.if_icmp .eq 7, 3) := by decide +kernel
theorem dX8_listens_33 : decode cX8_listens 33 = .ok (.iconst 1, 1) := by decide +kernel
theorem dX8_listens_34 : decode cX8_listens 34 = .ok (.goto 4, 3) := by decide +kernel
theorem dX8_listens_37 : decode cX8_listens 37 = .ok (.iconst 0, 1) := by decide +kernel
theorem dX8_listens_38 : decode cX8_listens 38 = .ok (.ireturn, 1) := by decide +kernel
set_option maxRecDepth 20000 in
theorem ggX8_signers_X8_listens : GoodIn wsX8_signers wsX8_listens := goodIn_r _ [6, 7, 8, 9, 10, 11, 12, 5, 13, 14, 15, 16, 17, 18, 19, 20, 21] (by decide +kernel) (by decide +kernel)
set_option maxRecDepth 20000 in
theorem gX8_signers_X8_listens : GoodIn wsX8_signers (wsV RX8 42 RX8 yX8_listens wsX8_listens) := goodIn_app (goodIn_of _ (by decide +kernel)) ggX8_signers_X8_listens
theorem dX8_signers_0 : decode cX8_signers 0 = .ok (.iconst 0, 1) := by decide +kernel
theorem dX8_signers_1 : decode cX8_signers 1 = .ok (.istore_n 2, 1) := by decide +kernel
theorem dX8_signers_2 : decode cX8_signers 2 = .ok (.iconst 0, 1) := by decide +kernel
theorem dX8_signers_3 : decode cX8_signers 3 = .ok (.istore_n 3, 1) := by decide +kernel
theorem dX8_signers_4 : decode cX8_signers 4 = .ok (.iload_n 3, 1) := by decide +kernel
theorem dX8_signers_5 : decode cX8_signers 5 = .ok (.bipush 6, 2) := by decide +kernel
theorem dX8_signers_7 : decode cX8_signers 7 = .ok (.if_icmp .ge 33, 3) := by decide +kernel
theorem dX8_signers_10 : decode cX8_signers 10 = .ok (.aload_n 0, 1) := by decide +kernel
theorem dX8_signers_11 : decode cX8_signers 11 = .ok (.iload_n 3, 1) := by decide +kernel
theorem dX8_signers_12 : decode cX8_signers 12 = .ok (.invokevirtual 42, 3) := by decide +kernel
theorem dX8_signers_15 : decode cX8_signers 15 = .ok (.ifCond .eq 19, 3) := by decide +kernel
theorem dX8_signers_18 : decode cX8_signers 18 = .ok (.aload_n 0, 1) := by decide +kernel
theorem dX8_signers_19 : decode cX8_signers 19 = .ok (.getfield 18, 3) := by decide +kernel
theorem dX8_signers_22 : decode cX8_signers 22 = .ok (.iload_n 3, 1) := by decide +kernel
theorem dX8_signers_23 : decode cX8_signers 23 = .ok (.iaload, 1) := by decide +kernel
theorem dX8_signers_24 : decode cX8_signers 24 = .ok (.iload_n 1, 1) := by decide +kernel
theorem dX8_signers_25 : decode cX8_signers 25 = .ok (.if_icmp .lt 9, 3) := by decide +kernel
theorem dX8_signers_28 : decode cX8_signers 28 = .ok (.iload_n 2, 1) := by decide +kernel
theorem dX8_signers_29 : decode cX8_signers 29 = .ok (.iconst 1, 1) := by decide +kernel
theorem dX8_signers_30 : decode cX8_signers 30 = .ok (.iload_n 3, 1) := by decide +kernel
theorem dX8_signers_31 : decode cX8_signers 31 = .ok (.ishl, 1) := by decide +kernel
theorem dX8_signers_32 : decode cX8_signers 32 = .ok (.ior, 1) := by decide +kernel
theorem dX8_signers_33 : decode cX8_signers 33 = .ok (.istore_n 2, 1) := by decide +kernel
theorem dX8_signers_34 : decode cX8_signers 34 = .ok (.iinc 3 1, 3) := by decide +kernel
theorem dX8_signers_37 : decode cX8_signers 37 = .ok (.goto (-33), 3) := by decide +kernel
theorem dX8_signers_40 : decode cX8_signers 40 = .ok (.iload_n 2, 1) := by decide +kernel
theorem dX8_signers_41 : decode cX8_signers 41 = .ok (.ireturn, 1) := by decide +kernel
set_option maxRecDepth 20000 in
theorem ggX8_headsOnSideOne_X8_isThere : GoodIn wsX8_headsOnSideOne wsX8_isThere := goodIn_r _ [7, 8, 9, 10, 11, 12, 13, 14, 15] (by decide +kernel) (by decide +kernel)
set_option maxRecDepth 20000 in
theorem gX8_headsOnSideOne_X8_isThere : GoodIn wsX8_headsOnSideOne (wsV RX8 38 RX8 yX8_isThere wsX8_isThere) := goodIn_app (goodIn_of _ (by decide +kernel)) ggX8_headsOnSideOne_X8_isThere
theorem dX8_headsOnSideOne_0 : decode cX8_headsOnSideOne 0 = .ok (.iconst 0, 1) := by decide +kernel
theorem dX8_headsOnSideOne_1 : decode cX8_headsOnSideOne 1 = .ok (.istore_n 1, 1) := by decide +kernel
theorem dX8_headsOnSideOne_2 : decode cX8_headsOnSideOne 2 = .ok (.iconst 0, 1) := by decide +kernel
theorem dX8_headsOnSideOne_3 : decode cX8_headsOnSideOne 3 = .ok (.istore_n 2, 1) := by decide +kernel
theorem dX8_headsOnSideOne_4 : decode cX8_headsOnSideOne 4 = .ok (.iload_n 2, 1) := by decide +kernel
theorem dX8_headsOnSideOne_5 : decode cX8_headsOnSideOne 5 = .ok (.bipush 6, 2) := by decide +kernel
theorem dX8_headsOnSideOne_7 : decode cX8_headsOnSideOne 7 = .ok (.if_icmp .ge 36, 3) := by decide +kernel
theorem dX8_headsOnSideOne_10 : decode cX8_headsOnSideOne 10 = .ok (.aload_n 0, 1) := by decide +kernel
theorem dX8_headsOnSideOne_11 : decode cX8_headsOnSideOne 11 = .ok (.iload_n 2, 1) := by decide +kernel
theorem dX8_headsOnSideOne_12 : decode cX8_headsOnSideOne 12 = .ok (.invokevirtual 38, 3) := by decide +kernel
theorem dX8_headsOnSideOne_15 : decode cX8_headsOnSideOne 15 = .ok (.ifCond .eq 22, 3) := by decide +kernel
theorem dX8_headsOnSideOne_18 : decode cX8_headsOnSideOne 18 = .ok (.aload_n 0, 1) := by decide +kernel
theorem dX8_headsOnSideOne_19 : decode cX8_headsOnSideOne 19 = .ok (.getfield 15, 3) := by decide +kernel
theorem dX8_headsOnSideOne_22 : decode cX8_headsOnSideOne 22 = .ok (.iload_n 2, 1) := by decide +kernel
theorem dX8_headsOnSideOne_23 : decode cX8_headsOnSideOne 23 = .ok (.iaload, 1) := by decide +kernel
theorem dX8_headsOnSideOne_24 : decode cX8_headsOnSideOne 24 = .ok (.iconst 1, 1) := by decide +kernel
theorem dX8_headsOnSideOne_25 : decode cX8_headsOnSideOne 25 = .ok (.if_icmp .ne 12, 3) := by decide +kernel
theorem dX8_headsOnSideOne_28 : decode cX8_headsOnSideOne 28 = .ok (.iload_n 1, 1) := by decide +kernel
theorem dX8_headsOnSideOne_29 : decode cX8_headsOnSideOne 29 = .ok (.aload_n 0, 1) := by decide +kernel
theorem dX8_headsOnSideOne_30 : decode cX8_headsOnSideOne 30 = .ok (.getfield 9, 3) := by decide +kernel
theorem dX8_headsOnSideOne_33 : decode cX8_headsOnSideOne 33 = .ok (.iload_n 2, 1) := by decide +kernel
theorem dX8_headsOnSideOne_34 : decode cX8_headsOnSideOne 34 = .ok (.iaload, 1) := by decide +kernel
theorem dX8_headsOnSideOne_35 : decode cX8_headsOnSideOne 35 = .ok (.iadd, 1) := by decide +kernel
theorem dX8_headsOnSideOne_36 : decode cX8_headsOnSideOne 36 = .ok (.istore_n 1, 1) := by decide +kernel
theorem dX8_headsOnSideOne_37 : decode cX8_headsOnSideOne 37 = .ok (.iinc 2 1, 3) := by decide +kernel
theorem dX8_headsOnSideOne_40 : decode cX8_headsOnSideOne 40 = .ok (.goto (-36), 3) := by decide +kernel
theorem dX8_headsOnSideOne_43 : decode cX8_headsOnSideOne 43 = .ok (.iload_n 1, 1) := by decide +kernel
theorem dX8_headsOnSideOne_44 : decode cX8_headsOnSideOne 44 = .ok (.ireturn, 1) := by decide +kernel
set_option maxRecDepth 20000 in
theorem ggX8_allMoods_X8_isThere : GoodIn wsX8_allMoods wsX8_isThere := goodIn_r _ [6, 7, 8, 9, 10, 11, 12, 13, 14] (by decide +kernel) (by decide +kernel)
set_option maxRecDepth 20000 in
theorem gX8_allMoods_X8_isThere : GoodIn wsX8_allMoods (wsV RX8 38 RX8 yX8_isThere wsX8_isThere) := goodIn_app (goodIn_of _ (by decide +kernel)) ggX8_allMoods_X8_isThere
theorem dX8_allMoods_0 : decode cX8_allMoods 0 = .ok (.iconst 0, 1) := by decide +kernel
theorem dX8_allMoods_1 : decode cX8_allMoods 1 = .ok (.istore_n 1, 1) := by decide +kernel
theorem dX8_allMoods_2 : decode cX8_allMoods 2 = .ok (.iconst 0, 1) := by decide +kernel
theorem dX8_allMoods_3 : decode cX8_allMoods 3 = .ok (.istore_n 2, 1) := by decide +kernel
theorem dX8_allMoods_4 : decode cX8_allMoods 4 = .ok (.iload_n 2, 1) := by decide +kernel
theorem dX8_allMoods_5 : decode cX8_allMoods 5 = .ok (.bipush 6, 2) := by decide +kernel
theorem dX8_allMoods_7 : decode cX8_allMoods 7 = .ok (.if_icmp .ge 26, 3) := by decide +kernel
theorem dX8_allMoods_10 : decode cX8_allMoods 10 = .ok (.aload_n 0, 1) := by decide +kernel
theorem dX8_allMoods_11 : decode cX8_allMoods 11 = .ok (.iload_n 2, 1) := by decide +kernel
theorem dX8_allMoods_12 : decode cX8_allMoods 12 = .ok (.invokevirtual 38, 3) := by decide +kernel
theorem dX8_allMoods_15 : decode cX8_allMoods 15 = .ok (.ifCond .eq 12, 3) := by decide +kernel
theorem dX8_allMoods_18 : decode cX8_allMoods 18 = .ok (.iload_n 1, 1) := by decide +kernel
theorem dX8_allMoods_19 : decode cX8_allMoods 19 = .ok (.aload_n 0, 1) := by decide +kernel
theorem dX8_allMoods_20 : decode cX8_allMoods 20 = .ok (.getfield 18, 3) := by decide +kernel
theorem dX8_allMoods_23 : decode cX8_allMoods 23 = .ok (.iload_n 2, 1) := by decide +kernel
theorem dX8_allMoods_24 : decode cX8_allMoods 24 = .ok (.iaload, 1) := by decide +kernel
theorem dX8_allMoods_25 : decode cX8_allMoods 25 = .ok (.iadd, 1) := by decide +kernel
theorem dX8_allMoods_26 : decode cX8_allMoods 26 = .ok (.istore_n 1, 1) := by decide +kernel
theorem dX8_allMoods_27 : decode cX8_allMoods 27 = .ok (.iinc 2 1, 3) := by decide +kernel
theorem dX8_allMoods_30 : decode cX8_allMoods 30 = .ok (.goto (-26), 3) := by decide +kernel
theorem dX8_allMoods_33 : decode cX8_allMoods 33 = .ok (.iload_n 1, 1) := by decide +kernel
theorem dX8_allMoods_34 : decode cX8_allMoods 34 = .ok (.ireturn, 1) := by decide +kernel
set_option maxRecDepth 20000 in
theorem ggX8_hasHeads_X8_isThere : GoodIn wsX8_hasHeads wsX8_isThere := goodIn_r _ [6, 7, 8, 9, 10, 11, 12, 13, 14] (by decide +kernel) (by decide +kernel)
set_option maxRecDepth 20000 in
theorem gX8_hasHeads_X8_isThere : GoodIn wsX8_hasHeads (wsV RX8 38 RX8 yX8_isThere wsX8_isThere) := goodIn_app (goodIn_of _ (by decide +kernel)) ggX8_hasHeads_X8_isThere
theorem dX8_hasHeads_0 : decode cX8_hasHeads 0 = .ok (.iconst 0, 1) := by decide +kernel
theorem dX8_hasHeads_1 : decode cX8_hasHeads 1 = .ok (.istore_n 1, 1) := by decide +kernel
theorem dX8_hasHeads_2 : decode cX8_hasHeads 2 = .ok (.iload_n 1, 1) := by decide +kernel
theorem dX8_hasHeads_3 : decode cX8_hasHeads 3 = .ok (.bipush 6, 2) := by decide +kernel
theorem dX8_hasHeads_5 : decode cX8_hasHeads 5 = .ok (.if_icmp .ge 28, 3) := by decide +kernel
theorem dX8_hasHeads_8 : decode cX8_hasHeads 8 = .ok (.aload_n 0, 1) := by decide +kernel
theorem dX8_hasHeads_9 : decode cX8_hasHeads 9 = .ok (.iload_n 1, 1) := by decide +kernel
theorem dX8_hasHeads_10 : decode cX8_hasHeads 10 = .ok (.invokevirtual 38, 3) := by decide +kernel
theorem dX8_hasHeads_13 : decode cX8_hasHeads 13 = .ok (.ifCond .eq 14, 3) := by decide +kernel
theorem dX8_hasHeads_16 : decode cX8_hasHeads 16 = .ok (.aload_n 0, 1) := by decide +kernel
theorem dX8_hasHeads_17 : decode cX8_hasHeads 17 = .ok (.getfield 9, 3) := by decide +kernel
theorem dX8_hasHeads_20 : decode cX8_hasHeads 20 = .ok (.iload_n 1, 1) := by decide +kernel
theorem dX8_hasHeads_21 : decode cX8_hasHeads 21 = .ok (.iaload, 1) := by decide +kernel
theorem dX8_hasHeads_22 : decode cX8_hasHeads 22 = .ok (.ifCond .le 5, 3) := by decide +kernel
theorem dX8_hasHeads_25 : decode cX8_hasHeads 25 = .ok (.iconst 1, 1) := by decide +kernel
theorem dX8_hasHeads_26 : decode cX8_hasHeads 26 = .ok (.ireturn, 1) := by decide +kernel
theorem dX8_hasHeads_27 : decode cX8_hasHeads 27 = .ok (.iinc 1 1, 3) := by decide +kernel
theorem dX8_hasHeads_30 : decode cX8_hasHeads 30 = .ok (.goto (-28), 3) := by decide +kernel
theorem dX8_hasHeads_33 : decode cX8_hasHeads 33 = .ok (.iconst 0, 1) := by decide +kernel
theorem dX8_hasHeads_34 : decode cX8_hasHeads 34 = .ok (.ireturn, 1) := by decide +kernel
set_option maxRecDepth 20000 in
theorem ggX8_nextToGet_X8_isThere : GoodIn wsX8_nextToGet wsX8_isThere := goodIn_r _ [6, 7, 8, 9, 10, 11, 12, 13, 14] (by decide +kernel) (by decide +kernel)
set_option maxRecDepth 20000 in
theorem gX8_nextToGet_X8_isThere : GoodIn wsX8_nextToGet (wsV RX8 38 RX8 yX8_isThere wsX8_isThere) := goodIn_app (goodIn_of _ (by decide +kernel)) ggX8_nextToGet_X8_isThere
theorem dX8_nextToGet_0 : decode cX8_nextToGet 0 = .ok (.bipush (-6), 2) := by decide +kernel
theorem dX8_nextToGet_2 : decode cX8_nextToGet 2 = .ok (.istore_n 2, 1) := by decide +kernel
theorem dX8_nextToGet_3 : decode cX8_nextToGet 3 = .ok (.iconst 0, 1) := by decide +kernel
theorem dX8_nextToGet_4 : decode cX8_nextToGet 4 = .ok (.istore_n 3, 1) := by decide +kernel
theorem dX8_nextToGet_5 : decode cX8_nextToGet 5 = .ok (.iconst 1, 1) := by decide +kernel
theorem dX8_nextToGet_6 : decode cX8_nextToGet 6 = .ok (.istore 4, 2) := by decide +kernel
theorem dX8_nextToGet_8 : decode cX8_nextToGet 8 = .ok (.iconst 0, 1) := by decide +kernel
theorem dX8_nextToGet_9 : decode cX8_nextToGet 9 = .ok (.istore 5, 2) := by decide +kernel
theorem dX8_nextToGet_11 : decode cX8_nextToGet 11 = .ok (.iload 5, 2) := by decide +kernel
theorem dX8_nextToGet_13 : decode cX8_nextToGet 13 = .ok (.bipush 6, 2) := by decide +kernel
theorem dX8_nextToGet_15 : decode cX8_nextToGet 15 = .ok (.if_icmp .ge 65, 3) := by decide +kernel
theorem dX8_nextToGet_18 : decode cX8_nextToGet 18 = .ok (.iload 5, 2) := by decide +kernel
theorem dX8_nextToGet_20 : decode cX8_nextToGet 20 = .ok (.aload_n 1, 1) := by decide +kernel
theorem dX8_nextToGet_21 : decode cX8_nextToGet 21 = .ok (.arraylength, 1) := by decide +kernel
theorem dX8_nextToGet_22 : decode cX8_nextToGet 22 = .ok (.if_icmp .ge 58, 3) := by decide +kernel
theorem dX8_nextToGet_25 : decode cX8_nextToGet 25 = .ok (.aload_n 1, 1) := by decide +kernel
theorem dX8_nextToGet_26 : decode cX8_nextToGet 26 = .ok (.iload 5, 2) := by decide +kernel
theorem dX8_nextToGet_28 : decode cX8_nextToGet 28 = .ok (.iaload, 1) := by decide +kernel
theorem dX8_nextToGet_29 : decode cX8_nextToGet 29 = .ok (.iconst 1, 1) := by decide +kernel
theorem dX8_nextToGet_30 : decode cX8_nextToGet 30 = .ok (.iadd, 1) := by decide +kernel
theorem dX8_nextToGet_31 : decode cX8_nextToGet 31 = .ok (.istore 6, 2) := by decide +kernel
theorem dX8_nextToGet_33 : decode cX8_nextToGet 33 = .ok (.aload_n 0, 1) := by decide +kernel
theorem dX8_nextToGet_34 : decode cX8_nextToGet 34 = .ok (.iload 5, 2) := by decide +kernel
theorem dX8_nextToGet_36 : decode cX8_nextToGet 36 = .ok (.invokevirtual 38, 3) := by decide +kernel
theorem dX8_nextToGet_39 : decode cX8_nextToGet 39 = .ok (.ifCond .eq 35, 3) := by decide +kernel
theorem dX8_nextToGet_42 : decode cX8_nextToGet 42 = .ok (.aload_n 0, 1) := by decide +kernel
theorem dX8_nextToGet_43 : decode cX8_nextToGet 43 = .ok (.getfield 9, 3) := by decide +kernel
theorem dX8_nextToGet_46 : decode cX8_nextToGet 46 = .ok (.iload 5, 2) := by decide +kernel
theorem dX8_nextToGet_48 : decode cX8_nextToGet 48 = .ok (.iaload, 1) := by decide +kernel
theorem dX8_nextToGet_49 : decode cX8_nextToGet 49 = .ok (.iload 4, 2) := by decide +kernel
theorem dX8_nextToGet_51 : decode cX8_nextToGet 51 = .ok (.imul, 1) := by decide +kernel
theorem dX8_nextToGet_52 : decode cX8_nextToGet 52 = .ok (.iload_n 3, 1) := by decide +kernel
theorem dX8_nextToGet_53 : decode cX8_nextToGet 53 = .ok (.iload 6, 2) := by decide +kernel
theorem dX8_nextToGet_55 : decode cX8_nextToGet 55 = .ok (.imul, 1) := by decide +kernel
theorem dX8_nextToGet_56 : decode cX8_nextToGet 56 = .ok (.if_icmp .le 18, 3) := by decide +kernel
theorem dX8_nextToGet_59 : decode cX8_nextToGet 59 = .ok (.iload 5, 2) := by decide +kernel
theorem dX8_nextToGet_61 : decode cX8_nextToGet 61 = .ok (.istore_n 2, 1) := by decide +kernel
theorem dX8_nextToGet_62 : decode cX8_nextToGet 62 = .ok (.aload_n 0, 1) := by decide +kernel
theorem dX8_nextToGet_63 : decode cX8_nextToGet 63 = .ok (.getfield 9, 3) := by decide +kernel
theorem dX8_nextToGet_66 : decode cX8_nextToGet 66 = .ok (.iload 5, 2) := by decide +kernel
theorem dX8_nextToGet_68 : decode cX8_nextToGet 68 = .ok (.iaload, 1) := by decide +kernel
theorem dX8_nextToGet_69 : decode cX8_nextToGet 69 = .ok (.istore_n 3, 1) := by decide +kernel
theorem dX8_nextToGet_70 : decode cX8_nextToGet 70 = .ok (.iload 6, 2) := by decide +kernel
theorem dX8_nextToGet_72 : decode cX8_nextToGet 72 = .ok (.istore 4, 2) := by decide +kernel
theorem dX8_nextToGet_74 : decode cX8_nextToGet 74 = .ok (.iinc 5 1, 3) := by decide +kernel
theorem dX8_nextToGet_77 : decode cX8_nextToGet 77 = .ok (.goto (-66), 3) := by decide +kernel
theorem dX8_nextToGet_80 : decode cX8_nextToGet 80 = .ok (.iload_n 2, 1) := by decide +kernel
theorem dX8_nextToGet_81 : decode cX8_nextToGet 81 = .ok (.ireturn, 1) := by decide +kernel
set_option maxRecDepth 20000 in
theorem ggX8_headsOf_X11_has : GoodIn wsX8_headsOf wsX11_has := goodIn_r _ [4] (by decide +kernel) (by decide +kernel)
set_option maxRecDepth 20000 in
theorem gX8_headsOf_X11_has_n45 : GoodIn wsX8_headsOf (wsX11_has) := ggX8_headsOf_X11_has
set_option maxRecDepth 20000 in
theorem ggX8_headsOf_X8_isThere : GoodIn wsX8_headsOf wsX8_isThere := goodIn_r _ [9, 10, 11, 12, 13, 14, 15, 16, 17] (by decide +kernel) (by decide +kernel)
set_option maxRecDepth 20000 in
theorem gX8_headsOf_X8_isThere : GoodIn wsX8_headsOf (wsV RX8 38 RX8 yX8_isThere wsX8_isThere) := goodIn_app (goodIn_of _ (by decide +kernel)) ggX8_headsOf_X8_isThere
theorem dX8_headsOf_0 : decode cX8_headsOf 0 = .ok (.iconst 0, 1) := by decide +kernel
theorem dX8_headsOf_1 : decode cX8_headsOf 1 = .ok (.istore_n 2, 1) := by decide +kernel
theorem dX8_headsOf_2 : decode cX8_headsOf 2 = .ok (.iconst 0, 1) := by decide +kernel
theorem dX8_headsOf_3 : decode cX8_headsOf 3 = .ok (.istore_n 3, 1) := by decide +kernel
theorem dX8_headsOf_4 : decode cX8_headsOf 4 = .ok (.iload_n 3, 1) := by decide +kernel
theorem dX8_headsOf_5 : decode cX8_headsOf 5 = .ok (.bipush 6, 2) := by decide +kernel
theorem dX8_headsOf_7 : decode cX8_headsOf 7 = .ok (.if_icmp .ge 34, 3) := by decide +kernel
theorem dX8_headsOf_10 : decode cX8_headsOf 10 = .ok (.iload_n 1, 1) := by decide +kernel
theorem dX8_headsOf_11 : decode cX8_headsOf 11 = .ok (.iload_n 3, 1) := by decide +kernel
theorem dX8_headsOf_12 : decode cX8_headsOf 12 = .ok (.invokestatic 45, 3) := by decide +kernel
theorem dX8_headsOf_15 : decode cX8_headsOf 15 = .ok (.ifCond .eq 20, 3) := by decide +kernel
theorem dX8_headsOf_18 : decode cX8_headsOf 18 = .ok (.aload_n 0, 1) := by decide +kernel
theorem dX8_headsOf_19 : decode cX8_headsOf 19 = .ok (.iload_n 3, 1) := by decide +kernel
theorem dX8_headsOf_20 : decode cX8_headsOf 20 = .ok (.invokevirtual 38, 3) := by decide +kernel
theorem dX8_headsOf_23 : decode cX8_headsOf 23 = .ok (.ifCond .eq 12, 3) := by decide +kernel
theorem dX8_headsOf_26 : decode cX8_headsOf 26 = .ok (.iload_n 2, 1) := by decide +kernel
theorem dX8_headsOf_27 : decode cX8_headsOf 27 = .ok (.aload_n 0, 1) := by decide +kernel
theorem dX8_headsOf_28 : decode cX8_headsOf 28 = .ok (.getfield 9, 3) := by decide +kernel
theorem dX8_headsOf_31 : decode cX8_headsOf 31 = .ok (.iload_n 3, 1) := by decide +kernel
theorem dX8_headsOf_32 : decode cX8_headsOf 32 = .ok (.iaload, 1) := by decide +kernel
theorem dX8_headsOf_33 : decode cX8_headsOf 33 = .ok (.iadd, 1) := by decide +kernel
theorem dX8_headsOf_34 : decode cX8_headsOf 34 = .ok (.istore_n 2, 1) := by decide +kernel
theorem dX8_headsOf_35 : decode cX8_headsOf 35 = .ok (.iinc 3 1, 3) := by decide +kernel
theorem dX8_headsOf_38 : decode cX8_headsOf 38 = .ok (.goto (-34), 3) := by decide +kernel
theorem dX8_headsOf_41 : decode cX8_headsOf 41 = .ok (.iload_n 2, 1) := by decide +kernel
theorem dX8_headsOf_42 : decode cX8_headsOf 42 = .ok (.ireturn, 1) := by decide +kernel
set_option maxRecDepth 20000 in
theorem ggX8_whyNot_X9_wordsOf : GoodIn wsX8_whyNot wsX9_wordsOf := goodIn_r _ [9, 10, 11, 12, 13, 54, 55] (by decide +kernel) (by decide +kernel)
set_option maxRecDepth 20000 in
theorem gX8_whyNot_X9_wordsOf : GoodIn wsX8_whyNot (wsV RX8 57 RX9 yX9_wordsOf wsX9_wordsOf) := goodIn_app (goodIn_of _ (by decide +kernel)) ggX8_whyNot_X9_wordsOf
set_option maxRecDepth 20000 in
theorem ggX8_whyNot_X8_signers : GoodIn wsX8_whyNot wsX8_signers := goodIn_r _ [18, 19, 20, 21, 22, 17, 23, 24, 25, 4, 26, 27, 28, 29, 30, 47, 48, 49, 50, 51, 52, 53] (by decide +kernel) (by decide +kernel)
set_option maxRecDepth 20000 in
theorem gX8_whyNot_X8_signers : GoodIn wsX8_whyNot (wsV RX8 63 RX8 yX8_signers wsX8_signers) := goodIn_app (goodIn_of _ (by decide +kernel)) ggX8_whyNot_X8_signers
set_option maxRecDepth 20000 in
theorem ggX8_whyNot_X8_whyNoWhistle : GoodIn wsX8_whyNot wsX8_whyNoWhistle := goodIn_r _ [34, 19, 26, 27, 28, 17, 29, 30, 47, 48, 49, 50, 51, 52, 53] (by decide +kernel) (by decide +kernel)
set_option maxRecDepth 20000 in
theorem gX8_whyNot_X8_whyNoWhistle : GoodIn wsX8_whyNot (wsV RX8 66 RX8 yX8_whyNoWhistle wsX8_whyNoWhistle) := goodIn_app (goodIn_of _ (by decide +kernel)) ggX8_whyNot_X8_whyNoWhistle
set_option maxRecDepth 20000 in
theorem ggX8_whyNot_X8_whyNoNet : GoodIn wsX8_whyNot wsX8_whyNoNet := goodIn_r _ [38, 24, 26, 27, 28, 17, 29, 30, 47, 48, 49, 50, 51, 52, 53] (by decide +kernel) (by decide +kernel)
set_option maxRecDepth 20000 in
theorem gX8_whyNot_X8_whyNoNet : GoodIn wsX8_whyNot (wsV RX8 69 RX8 yX8_whyNoNet wsX8_whyNoNet) := goodIn_app (goodIn_of _ (by decide +kernel)) ggX8_whyNot_X8_whyNoNet
set_option maxRecDepth 20000 in
theorem ggX8_whyNot_X8_whyNoJoining : GoodIn wsX8_whyNot wsX8_whyNoJoining := goodIn_r _ [42, 43, 26, 27, 28, 17, 29, 30, 47, 48, 49, 50, 51, 52, 53] (by decide +kernel) (by decide +kernel)
set_option maxRecDepth 20000 in
theorem gX8_whyNot_X8_whyNoJoining : GoodIn wsX8_whyNot (wsV RX8 75 RX8 yX8_whyNoJoining wsX8_whyNoJoining) := goodIn_app (goodIn_of _ (by decide +kernel)) ggX8_whyNot_X8_whyNoJoining
theorem dX8_whyNot_0 : decode cX8_whyNot 0 = .ok (.aload_n 1, 1) := by decide +kernel
theorem dX8_whyNot_1 : decode cX8_whyNot 1 = .ok (.getfield 49, 3) := by decide +kernel
theorem dX8_whyNot_4 : decode cX8_whyNot 4 = .ok (.tableswitch 84 0 3 #[32, 53, 62, 71], 32) := by decide +kernel
theorem dX8_whyNot_36 : decode cX8_whyNot 36 = .ok (.aload_n 0, 1) := by decide +kernel
theorem dX8_whyNot_37 : decode cX8_whyNot 37 = .ok (.aload_n 2, 1) := by decide +kernel
theorem dX8_whyNot_38 : decode cX8_whyNot 38 = .ok (.aload_n 1, 1) := by decide +kernel
theorem dX8_whyNot_39 : decode cX8_whyNot 39 = .ok (.getfield 54, 3) := by decide +kernel
theorem dX8_whyNot_42 : decode cX8_whyNot 42 = .ok (.invokevirtual 57, 3) := by decide +kernel
theorem dX8_whyNot_45 : decode cX8_whyNot 45 = .ok (.invokevirtual 63, 3) := by decide +kernel
theorem dX8_whyNot_48 : decode cX8_whyNot 48 = .ok (.ifCond .ne 7, 3) := by decide +kernel
theorem dX8_whyNot_51 : decode cX8_whyNot 51 = .ok (.iconst 2, 1) := by decide +kernel
theorem dX8_whyNot_52 : decode cX8_whyNot 52 = .ok (.goto 4, 3) := by decide +kernel
theorem dX8_whyNot_55 : decode cX8_whyNot 55 = .ok (.iconst 0, 1) := by decide +kernel
theorem dX8_whyNot_56 : decode cX8_whyNot 56 = .ok (.ireturn, 1) := by decide +kernel
theorem dX8_whyNot_57 : decode cX8_whyNot 57 = .ok (.aload_n 0, 1) := by decide +kernel
theorem dX8_whyNot_58 : decode cX8_whyNot 58 = .ok (.aload_n 1, 1) := by decide +kernel
theorem dX8_whyNot_59 : decode cX8_whyNot 59 = .ok (.getfield 54, 3) := by decide +kernel
theorem dX8_whyNot_62 : decode cX8_whyNot 62 = .ok (.invokevirtual 66, 3) := by decide +kernel
theorem dX8_whyNot_65 : decode cX8_whyNot 65 = .ok (.ireturn, 1) := by decide +kernel
theorem dX8_whyNot_66 : decode cX8_whyNot 66 = .ok (.aload_n 0, 1) := by decide +kernel
theorem dX8_whyNot_67 : decode cX8_whyNot 67 = .ok (.aload_n 1, 1) := by decide +kernel
theorem dX8_whyNot_68 : decode cX8_whyNot 68 = .ok (.getfield 54, 3) := by decide +kernel
theorem dX8_whyNot_71 : decode cX8_whyNot 71 = .ok (.invokevirtual 69, 3) := by decide +kernel
theorem dX8_whyNot_74 : decode cX8_whyNot 74 = .ok (.ireturn, 1) := by decide +kernel
theorem dX8_whyNot_75 : decode cX8_whyNot 75 = .ok (.aload_n 0, 1) := by decide +kernel
theorem dX8_whyNot_76 : decode cX8_whyNot 76 = .ok (.aload_n 1, 1) := by decide +kernel
theorem dX8_whyNot_77 : decode cX8_whyNot 77 = .ok (.getfield 54, 3) := by decide +kernel
theorem dX8_whyNot_80 : decode cX8_whyNot 80 = .ok (.aload_n 1, 1) := by decide +kernel
theorem dX8_whyNot_81 : decode cX8_whyNot 81 = .ok (.getfield 72, 3) := by decide +kernel
theorem dX8_whyNot_84 : decode cX8_whyNot 84 = .ok (.invokevirtual 75, 3) := by decide +kernel
theorem dX8_whyNot_87 : decode cX8_whyNot 87 = .ok (.ireturn, 1) := by decide +kernel
theorem dX8_whyNot_88 : decode cX8_whyNot 88 = .ok (.aload_n 0, 1) := by decide +kernel
theorem dX8_whyNot_89 : decode cX8_whyNot 89 = .ok (.getfield 28, 3) := by decide +kernel
theorem dX8_whyNot_92 : decode cX8_whyNot 92 = .ok (.sipush 999, 3) := by decide +kernel
theorem dX8_whyNot_95 : decode cX8_whyNot 95 = .ok (.if_icmp .lt 8, 3) := by decide +kernel
theorem dX8_whyNot_98 : decode cX8_whyNot 98 = .ok (.bipush 6, 2) := by decide +kernel
theorem dX8_whyNot_100 : decode cX8_whyNot 100 = .ok (.goto 4, 3) := by decide +kernel
theorem dX8_whyNot_103 : decode cX8_whyNot 103 = .ok (.iconst 0, 1) := by decide +kernel
theorem dX8_whyNot_104 : decode cX8_whyNot 104 = .ok (.ireturn, 1) := by decide +kernel
set_option maxRecDepth 20000 in
theorem ggX8_whyNoWhistle_X8_isThere : GoodIn wsX8_whyNoWhistle wsX8_isThere := goodIn_r _ [6, 7, 8, 9, 10, 11, 12, 13, 14] (by decide +kernel) (by decide +kernel)
set_option maxRecDepth 20000 in
theorem gX8_whyNoWhistle_X8_isThere : GoodIn wsX8_whyNoWhistle (wsV RX8 38 RX8 yX8_isThere wsX8_isThere) := goodIn_app (goodIn_of _ (by decide +kernel)) ggX8_whyNoWhistle_X8_isThere
theorem dX8_whyNoWhistle_0 : decode cX8_whyNoWhistle 0 = .ok (.aload_n 0, 1) := by decide +kernel
theorem dX8_whyNoWhistle_1 : decode cX8_whyNoWhistle 1 = .ok (.iload_n 1, 1) := by decide +kernel
theorem dX8_whyNoWhistle_2 : decode cX8_whyNoWhistle 2 = .ok (.invokevirtual 38, 3) := by decide +kernel
theorem dX8_whyNoWhistle_5 : decode cX8_whyNoWhistle 5 = .ok (.ifCond .ne 5, 3) := by decide +kernel
theorem dX8_whyNoWhistle_8 : decode cX8_whyNoWhistle 8 = .ok (.iconst 1, 1) := by decide +kernel
theorem dX8_whyNoWhistle_9 : decode cX8_whyNoWhistle 9 = .ok (.ireturn, 1) := by decide +kernel
theorem dX8_whyNoWhistle_10 : decode cX8_whyNoWhistle 10 = .ok (.aload_n 0, 1) := by decide +kernel
theorem dX8_whyNoWhistle_11 : decode cX8_whyNoWhistle 11 = .ok (.getfield 18, 3) := by decide +kernel
theorem dX8_whyNoWhistle_14 : decode cX8_whyNoWhistle 14 = .ok (.iload_n 1, 1) := by decide +kernel
theorem dX8_whyNoWhistle_15 : decode cX8_whyNoWhistle 15 = .ok (.iaload, 1) := by decide +kernel
theorem dX8_whyNoWhistle_16 : decode cX8_whyNoWhistle 16 = .ok (.bipush 9, 2) := by decide +kernel
theorem dX8_whyNoWhistle_18 : decode cX8_whyNoWhistle 18 = .ok (.if_icmp .lt 7, 3) := by decide +kernel
theorem dX8_whyNoWhistle_21 : decode cX8_whyNoWhistle 21 = .ok (.iconst 3, 1) := by decide +kernel
theorem dX8_whyNoWhistle_22 : decode cX8_whyNoWhistle 22 = .ok (.goto 4, 3) := by decide +kernel
theorem dX8_whyNoWhistle_25 : decode cX8_whyNoWhistle 25 = .ok (.iconst 0, 1) := by decide +kernel
theorem dX8_whyNoWhistle_26 : decode cX8_whyNoWhistle 26 = .ok (.ireturn, 1) := by decide +kernel
set_option maxRecDepth 20000 in
theorem ggX8_whyNoNet_X8_isThere : GoodIn wsX8_whyNoNet wsX8_isThere := goodIn_r _ [6, 7, 8, 9, 10, 11, 12, 13, 14] (by decide +kernel) (by decide +kernel)
set_option maxRecDepth 20000 in
theorem gX8_whyNoNet_X8_isThere : GoodIn wsX8_whyNoNet (wsV RX8 38 RX8 yX8_isThere wsX8_isThere) := goodIn_app (goodIn_of _ (by decide +kernel)) ggX8_whyNoNet_X8_isThere
theorem dX8_whyNoNet_0 : decode cX8_whyNoNet 0 = .ok (.aload_n 0, 1) := by decide +kernel
theorem dX8_whyNoNet_1 : decode cX8_whyNoNet 1 = .ok (.iload_n 1, 1) := by decide +kernel
theorem dX8_whyNoNet_2 : decode cX8_whyNoNet 2 = .ok (.invokevirtual 38, 3) := by decide +kernel
theorem dX8_whyNoNet_5 : decode cX8_whyNoNet 5 = .ok (.ifCond .ne 5, 3) := by decide +kernel
theorem dX8_whyNoNet_8 : decode cX8_whyNoNet 8 = .ok (.iconst 1, 1) := by decide +kernel
theorem dX8_whyNoNet_9 : decode cX8_whyNoNet 9 = .ok (.ireturn, 1) := by decide +kernel
theorem dX8_whyNoNet_10 : decode cX8_whyNoNet 10 = .ok (.aload_n 0, 1) := by decide +kernel
theorem dX8_whyNoNet_11 : decode cX8_whyNoNet 11 = .ok (.getfield 9, 3) := by decide +kernel
theorem dX8_whyNoNet_14 : decode cX8_whyNoNet 14 = .ok (.iload_n 1, 1) := by decide +kernel
theorem dX8_whyNoNet_15 : decode cX8_whyNoNet 15 = .ok (.iaload, 1) := by decide +kernel
theorem dX8_whyNoNet_16 : decode cX8_whyNoNet 16 = .ok (.iconst 5, 1) := by decide +kernel
theorem dX8_whyNoNet_17 : decode cX8_whyNoNet 17 = .ok (.if_icmp .ge 7, 3) := by decide +kernel
theorem dX8_whyNoNet_20 : decode cX8_whyNoNet 20 = .ok (.iconst 4, 1) := by decide +kernel
theorem dX8_whyNoNet_21 : decode cX8_whyNoNet 21 = .ok (.goto 4, 3) := by decide +kernel
theorem dX8_whyNoNet_24 : decode cX8_whyNoNet 24 = .ok (.iconst 0, 1) := by decide +kernel
theorem dX8_whyNoNet_25 : decode cX8_whyNoNet 25 = .ok (.ireturn, 1) := by decide +kernel
set_option maxRecDepth 20000 in
theorem ggX8_whyNoJoining_X8_isThere : GoodIn wsX8_whyNoJoining wsX8_isThere := goodIn_r _ [6, 7, 8, 9, 10, 11, 12, 13, 14] (by decide +kernel) (by decide +kernel)
set_option maxRecDepth 20000 in
theorem gX8_whyNoJoining_X8_isThere : GoodIn wsX8_whyNoJoining (wsV RX8 38 RX8 yX8_isThere wsX8_isThere) := goodIn_app (goodIn_of _ (by decide +kernel)) ggX8_whyNoJoining_X8_isThere
theorem dX8_whyNoJoining_0 : decode cX8_whyNoJoining 0 = .ok (.aload_n 0, 1) := by decide +kernel
theorem dX8_whyNoJoining_1 : decode cX8_whyNoJoining 1 = .ok (.iload_n 1, 1) := by decide +kernel
theorem dX8_whyNoJoining_2 : decode cX8_whyNoJoining 2 = .ok (.invokevirtual 38, 3) := by decide +kernel
theorem dX8_whyNoJoining_5 : decode cX8_whyNoJoining 5 = .ok (.ifCond .eq 11, 3) := by decide +kernel
theorem dX8_whyNoJoining_8 : decode cX8_whyNoJoining 8 = .ok (.aload_n 0, 1) := by decide +kernel
theorem dX8_whyNoJoining_9 : decode cX8_whyNoJoining 9 = .ok (.iload_n 2, 1) := by decide +kernel
theorem dX8_whyNoJoining_10 : decode cX8_whyNoJoining 10 = .ok (.invokevirtual 38, 3) := by decide +kernel
theorem dX8_whyNoJoining_13 : decode cX8_whyNoJoining 13 = .ok (.ifCond .ne 5, 3) := by decide +kernel
theorem dX8_whyNoJoining_16 : decode cX8_whyNoJoining 16 = .ok (.iconst 1, 1) := by decide +kernel
theorem dX8_whyNoJoining_17 : decode cX8_whyNoJoining 17 = .ok (.ireturn, 1) := by decide +kernel
theorem dX8_whyNoJoining_18 : decode cX8_whyNoJoining 18 = .ok (.iload_n 1, 1) := by decide +kernel
theorem dX8_whyNoJoining_19 : decode cX8_whyNoJoining 19 = .ok (.iload_n 2, 1) := by decide +kernel
theorem dX8_whyNoJoining_20 : decode cX8_whyNoJoining 20 = .ok (.if_icmp .eq 18, 3) := by decide +kernel
theorem dX8_whyNoJoining_23 : decode cX8_whyNoJoining 23 = .ok (.aload_n 0, 1) := by decide +kernel
theorem dX8_whyNoJoining_24 : decode cX8_whyNoJoining 24 = .ok (.getfield 15, 3) := by decide +kernel
theorem dX8_whyNoJoining_27 : decode cX8_whyNoJoining 27 = .ok (.iload_n 1, 1) := by decide +kernel
theorem dX8_whyNoJoining_28 : decode cX8_whyNoJoining 28 = .ok (.iaload, 1) := by decide +kernel
theorem dX8_whyNoJoining_29 : decode cX8_whyNoJoining 29 = .ok (.aload_n 0, 1) := by decide +kernel
theorem dX8_whyNoJoining_30 : decode cX8_whyNoJoining 30 = .ok (.getfield 15, 3) := by decide +kernel
theorem dX8_whyNoJoining_33 : decode cX8_whyNoJoining 33 = .ok (.iload_n 2, 1) := by decide +kernel
theorem dX8_whyNoJoining_34 : decode cX8_whyNoJoining 34 = .ok (.iaload, 1) := by decide +kernel
theorem dX8_whyNoJoining_35 : decode cX8_whyNoJoining 35 = .ok (.if_icmp .eq 7, 3) := by decide +kernel
theorem dX8_whyNoJoining_38 : decode cX8_whyNoJoining 38 = .ok (.iconst 5, 1) := by decide +kernel
theorem dX8_whyNoJoining_39 : decode cX8_whyNoJoining 39 = .ok (.goto 4, 3) := by decide +kernel
theorem dX8_whyNoJoining_42 : decode cX8_whyNoJoining 42 = .ok (.iconst 0, 1) := by decide +kernel
theorem dX8_whyNoJoining_43 : decode cX8_whyNoJoining 43 = .ok (.ireturn, 1) := by decide +kernel
set_option maxRecDepth 20000 in
theorem ggX8_perform_X9_wordsOf : GoodIn wsX8_perform wsX9_wordsOf := goodIn_r _ [8, 9, 10, 11, 12, 62, 63] (by decide +kernel) (by decide +kernel)
set_option maxRecDepth 20000 in
theorem gX8_perform_X9_wordsOf : GoodIn wsX8_perform (wsV RX8 57 RX9 yX9_wordsOf wsX9_wordsOf) := goodIn_app (goodIn_of _ (by decide +kernel)) ggX8_perform_X9_wordsOf
set_option maxRecDepth 20000 in
theorem ggX8_perform_X8_readAloud : GoodIn wsX8_perform wsX8_readAloud := goodIn_r _ [17, 18, 19, 20, 21, 22, 16, 23, 24, 25, 26, 27, 28, 29, 30, 31, 32, 33, 34, 35, 36, 11, 37, 38, 39, 40, 41, 42, 43, 44, 45, 64, 65, 66, 67, 68, 69, 70] (by decide +kernel) (by decide +kernel)
set_option maxRecDepth 20000 in
theorem gX8_perform_X8_readAloud : GoodIn wsX8_perform (wsV RX8 79 RX8 yX8_readAloud wsX8_readAloud) := goodIn_app (goodIn_of _ (by decide +kernel)) ggX8_perform_X8_readAloud
set_option maxRecDepth 20000 in
theorem ggX8_perform_X8_cheer : GoodIn wsX8_perform wsX8_cheer := goodIn_r _ [41, 19, 42, 43, 44, 45, 31, 32, 33, 16, 34, 35, 64, 65, 66, 67, 68, 69, 70] (by decide +kernel) (by decide +kernel)
set_option maxRecDepth 20000 in
theorem gX8_perform_X8_cheer : GoodIn wsX8_perform (wsV RX8 83 RX8 yX8_cheer wsX8_cheer) := goodIn_app (goodIn_of _ (by decide +kernel)) ggX8_perform_X8_cheer
set_option maxRecDepth 20000 in
theorem ggX8_perform_X8_takeNet : GoodIn wsX8_perform wsX8_takeNet := goodIn_r _ [49, 28, 50, 31, 32, 33, 16, 34, 35, 64, 65, 66, 67, 68, 69, 70] (by decide +kernel) (by decide +kernel)
set_option maxRecDepth 20000 in
theorem gX8_perform_X8_takeNet : GoodIn wsX8_perform (wsV RX8 87 RX8 yX8_takeNet wsX8_takeNet) := goodIn_app (goodIn_of _ (by decide +kernel)) ggX8_perform_X8_takeNet
set_option maxRecDepth 20000 in
theorem ggX8_perform_X8_joinTo : GoodIn wsX8_perform wsX8_joinTo := goodIn_r _ [54, 28, 42, 43, 44, 45, 35, 31, 32, 33, 16, 34, 64, 65, 66, 67, 68, 69, 70] (by decide +kernel) (by decide +kernel)
set_option maxRecDepth 20000 in
theorem gX8_perform_X8_joinTo : GoodIn wsX8_perform (wsV RX8 90 RX8 yX8_joinTo wsX8_joinTo) := goodIn_app (goodIn_of _ (by decide +kernel)) ggX8_perform_X8_joinTo
set_option maxRecDepth 20000 in
theorem ggX8_perform_X8_passMonth : GoodIn wsX8_perform wsX8_passMonth := goodIn_r _ [58, 28, 29, 30, 42, 43, 44, 45, 38, 39, 40, 16, 41, 19, 31, 32, 33, 34, 35, 64, 65, 66, 67, 68, 69, 70] (by decide +kernel) (by decide +kernel)
set_option maxRecDepth 20000 in
theorem gX8_perform_X8_passMonth : GoodIn wsX8_perform (wsV RX8 93 RX8 yX8_passMonth wsX8_passMonth) := goodIn_app (goodIn_of _ (by decide +kernel)) ggX8_perform_X8_passMonth
theorem dX8_perform_0 : decode cX8_perform 0 = .ok (.aload_n 1, 1) := by decide +kernel
theorem dX8_perform_1 : decode cX8_perform 1 = .ok (.getfield 49, 3) := by decide +kernel
theorem dX8_perform_4 : decode cX8_perform 4 = .ok (.tableswitch 85 0 3 #[32, 47, 59, 70], 32) := by decide +kernel
theorem dX8_perform_36 : decode cX8_perform 36 = .ok (.aload_n 0, 1) := by decide +kernel
theorem dX8_perform_37 : decode cX8_perform 37 = .ok (.aload_n 2, 1) := by decide +kernel
theorem dX8_perform_38 : decode cX8_perform 38 = .ok (.aload_n 1, 1) := by decide +kernel
theorem dX8_perform_39 : decode cX8_perform 39 = .ok (.getfield 54, 3) := by decide +kernel
theorem dX8_perform_42 : decode cX8_perform 42 = .ok (.invokevirtual 57, 3) := by decide +kernel
theorem dX8_perform_45 : decode cX8_perform 45 = .ok (.invokevirtual 79, 3) := by decide +kernel
theorem dX8_perform_48 : decode cX8_perform 48 = .ok (.goto 45, 3) := by decide +kernel
theorem dX8_perform_51 : decode cX8_perform 51 = .ok (.aload_n 0, 1) := by decide +kernel
theorem dX8_perform_52 : decode cX8_perform 52 = .ok (.aload_n 1, 1) := by decide +kernel
theorem dX8_perform_53 : decode cX8_perform 53 = .ok (.getfield 54, 3) := by decide +kernel
theorem dX8_perform_56 : decode cX8_perform 56 = .ok (.iconst 3, 1) := by decide +kernel
theorem dX8_perform_57 : decode cX8_perform 57 = .ok (.invokevirtual 83, 3) := by decide +kernel
theorem dX8_perform_60 : decode cX8_perform 60 = .ok (.goto 33, 3) := by decide +kernel
theorem dX8_perform_63 : decode cX8_perform 63 = .ok (.aload_n 0, 1) := by decide +kernel
theorem dX8_perform_64 : decode cX8_perform 64 = .ok (.aload_n 1, 1) := by decide +kernel
theorem dX8_perform_65 : decode cX8_perform 65 = .ok (.getfield 54, 3) := by decide +kernel
theorem dX8_perform_68 : decode cX8_perform 68 = .ok (.invokevirtual 87, 3) := by decide +kernel
theorem dX8_perform_71 : decode cX8_perform 71 = .ok (.goto 22, 3) := by decide +kernel
theorem dX8_perform_74 : decode cX8_perform 74 = .ok (.aload_n 0, 1) := by decide +kernel
theorem dX8_perform_75 : decode cX8_perform 75 = .ok (.aload_n 1, 1) := by decide +kernel
theorem dX8_perform_76 : decode cX8_perform 76 = .ok (.getfield 54, 3) := by decide +kernel
theorem dX8_perform_79 : decode cX8_perform 79 = .ok (.aload_n 1, 1) := by decide +kernel
theorem dX8_perform_80 : decode cX8_perform 80 = .ok (.getfield 72, 3) := by decide +kernel
theorem dX8_perform_83 : decode cX8_perform 83 = .ok (.invokevirtual 90, 3) := by decide +kernel
theorem dX8_perform_86 : decode cX8_perform 86 = .ok (.goto 7, 3) := by decide +kernel
theorem dX8_perform_89 : decode cX8_perform 89 = .ok (.aload_n 0, 1) := by decide +kernel
theorem dX8_perform_90 : decode cX8_perform 90 = .ok (.invokevirtual 93, 3) := by decide +kernel
theorem dX8_perform_93 : decode cX8_perform 93 = .ok (.return_, 1) := by decide +kernel
set_option maxRecDepth 20000 in
theorem ggX8_cheer_X8_isThere : GoodIn wsX8_cheer wsX8_isThere := goodIn_r _ [10, 11, 12, 13, 14, 15, 16, 17, 18] (by decide +kernel) (by decide +kernel)
set_option maxRecDepth 20000 in
theorem gX8_cheer_X8_isThere : GoodIn wsX8_cheer (wsV RX8 38 RX8 yX8_isThere wsX8_isThere) := goodIn_app (goodIn_of _ (by decide +kernel)) ggX8_cheer_X8_isThere
theorem dX8_cheer_0 : decode cX8_cheer 0 = .ok (.aload_n 0, 1) := by decide +kernel
theorem dX8_cheer_1 : decode cX8_cheer 1 = .ok (.iload_n 1, 1) := by decide +kernel
theorem dX8_cheer_2 : decode cX8_cheer 2 = .ok (.invokevirtual 38, 3) := by decide +kernel
theorem dX8_cheer_5 : decode cX8_cheer 5 = .ok (.ifCond .eq 22, 3) := by decide +kernel
theorem dX8_cheer_8 : decode cX8_cheer 8 = .ok (.aload_n 0, 1) := by decide +kernel
theorem dX8_cheer_9 : decode cX8_cheer 9 = .ok (.getfield 18, 3) := by decide +kernel
theorem dX8_cheer_12 : decode cX8_cheer 12 = .ok (.iload_n 1, 1) := by decide +kernel
theorem dX8_cheer_13 : decode cX8_cheer 13 = .ok (.bipush 9, 2) := by decide +kernel
theorem dX8_cheer_15 : decode cX8_cheer 15 = .ok (.aload_n 0, 1) := by decide +kernel
theorem dX8_cheer_16 : decode cX8_cheer 16 = .ok (.getfield 18, 3) := by decide +kernel
theorem dX8_cheer_19 : decode cX8_cheer 19 = .ok (.iload_n 1, 1) := by decide +kernel
theorem dX8_cheer_20 : decode cX8_cheer 20 = .ok (.iaload, 1) := by decide +kernel
theorem dX8_cheer_21 : decode cX8_cheer 21 = .ok (.iload_n 2, 1) := by decide +kernel
theorem dX8_cheer_22 : decode cX8_cheer 22 = .ok (.iadd, 1) := by decide +kernel
theorem dX8_cheer_23 : decode cX8_cheer 23 = .ok (.invokestatic 96, 3) := by decide +kernel
theorem dX8_cheer_26 : decode cX8_cheer 26 = .ok (.iastore, 1) := by decide +kernel
theorem dX8_cheer_27 : decode cX8_cheer 27 = .ok (.return_, 1) := by decide +kernel
set_option maxRecDepth 20000 in
theorem ggX8_readAloud_X8_signers : GoodIn wsX8_readAloud wsX8_signers := goodIn_r _ [7, 2, 8, 9, 10, 6, 11, 12, 13, 14, 15, 16, 17, 18, 19, 31, 32, 33, 34, 35, 36, 37] (by decide +kernel) (by decide +kernel)
set_option maxRecDepth 20000 in
theorem gX8_readAloud_X8_signers : GoodIn wsX8_readAloud (wsV RX8 63 RX8 yX8_signers wsX8_signers) := goodIn_app (goodIn_of _ (by decide +kernel)) ggX8_readAloud_X8_signers
set_option maxRecDepth 20000 in
theorem ggX8_readAloud_X11_has : GoodIn wsX8_readAloud wsX11_has := goodIn_r _ [22] (by decide +kernel) (by decide +kernel)
set_option maxRecDepth 20000 in
theorem gX8_readAloud_X11_has_n45 : GoodIn wsX8_readAloud (wsX11_has) := ggX8_readAloud_X11_has
set_option maxRecDepth 20000 in
theorem ggX8_readAloud_X8_cheer : GoodIn wsX8_readAloud wsX8_cheer := goodIn_r _ [26, 2, 27, 28, 29, 30, 15, 16, 17, 6, 18, 19, 31, 32, 33, 34, 35, 36, 37] (by decide +kernel) (by decide +kernel)
set_option maxRecDepth 20000 in
theorem gX8_readAloud_X8_cheer : GoodIn wsX8_readAloud (wsV RX8 83 RX8 yX8_cheer wsX8_cheer) := goodIn_app (goodIn_of _ (by decide +kernel)) ggX8_readAloud_X8_cheer
theorem dX8_readAloud_0 : decode cX8_readAloud 0 = .ok (.aload_n 0, 1) := by decide +kernel
theorem dX8_readAloud_1 : decode cX8_readAloud 1 = .ok (.iload_n 1, 1) := by decide +kernel
theorem dX8_readAloud_2 : decode cX8_readAloud 2 = .ok (.invokevirtual 63, 3) := by decide +kernel
theorem dX8_readAloud_5 : decode cX8_readAloud 5 = .ok (.istore_n 2, 1) := by decide +kernel
theorem dX8_readAloud_6 : decode cX8_readAloud 6 = .ok (.iconst 0, 1) := by decide +kernel
theorem dX8_readAloud_7 : decode cX8_readAloud 7 = .ok (.istore_n 3, 1) := by decide +kernel
theorem dX8_readAloud_8 : decode cX8_readAloud 8 = .ok (.iload_n 3, 1) := by decide +kernel
theorem dX8_readAloud_9 : decode cX8_readAloud 9 = .ok (.bipush 6, 2) := by decide +kernel
theorem dX8_readAloud_11 : decode cX8_readAloud 11 = .ok (.if_icmp .ge 50, 3) := by decide +kernel
theorem dX8_readAloud_14 : decode cX8_readAloud 14 = .ok (.iload_n 2, 1) := by decide +kernel
theorem dX8_readAloud_15 : decode cX8_readAloud 15 = .ok (.iload_n 3, 1) := by decide +kernel
theorem dX8_readAloud_16 : decode cX8_readAloud 16 = .ok (.invokestatic 45, 3) := by decide +kernel
theorem dX8_readAloud_19 : decode cX8_readAloud 19 = .ok (.ifCond .eq 30, 3) := by decide +kernel
theorem dX8_readAloud_22 : decode cX8_readAloud 22 = .ok (.aload_n 0, 1) := by decide +kernel
theorem dX8_readAloud_23 : decode cX8_readAloud 23 = .ok (.getfield 15, 3) := by decide +kernel
theorem dX8_readAloud_26 : decode cX8_readAloud 26 = .ok (.iload_n 3, 1) := by decide +kernel
theorem dX8_readAloud_27 : decode cX8_readAloud 27 = .ok (.iconst 1, 1) := by decide +kernel
theorem dX8_readAloud_28 : decode cX8_readAloud 28 = .ok (.aload_n 0, 1) := by decide +kernel
theorem dX8_readAloud_29 : decode cX8_readAloud 29 = .ok (.getfield 15, 3) := by decide +kernel
theorem dX8_readAloud_32 : decode cX8_readAloud 32 = .ok (.iload_n 3, 1) := by decide +kernel
theorem dX8_readAloud_33 : decode cX8_readAloud 33 = .ok (.iaload, 1) := by decide +kernel
theorem dX8_readAloud_34 : decode cX8_readAloud 34 = .ok (.isub, 1) := by decide +kernel
theorem dX8_readAloud_35 : decode cX8_readAloud 35 = .ok (.iastore, 1) := by decide +kernel
theorem dX8_readAloud_36 : decode cX8_readAloud 36 = .ok (.aload_n 0, 1) := by decide +kernel
theorem dX8_readAloud_37 : decode cX8_readAloud 37 = .ok (.getfield 18, 3) := by decide +kernel
theorem dX8_readAloud_40 : decode cX8_readAloud 40 = .ok (.iload_n 3, 1) := by decide +kernel
theorem dX8_readAloud_41 : decode cX8_readAloud 41 = .ok (.dup2, 1) := by decide +kernel
theorem dX8_readAloud_42 : decode cX8_readAloud 42 = .ok (.iaload, 1) := by decide +kernel
theorem dX8_readAloud_43 : decode cX8_readAloud 43 = .ok (.iload_n 1, 1) := by decide +kernel
theorem dX8_readAloud_44 : decode cX8_readAloud 44 = .ok (.isub, 1) := by decide +kernel
theorem dX8_readAloud_45 : decode cX8_readAloud 45 = .ok (.iastore, 1) := by decide +kernel
theorem dX8_readAloud_46 : decode cX8_readAloud 46 = .ok (.goto 9, 3) := by decide +kernel
theorem dX8_readAloud_49 : decode cX8_readAloud 49 = .ok (.aload_n 0, 1) := by decide +kernel
theorem dX8_readAloud_50 : decode cX8_readAloud 50 = .ok (.iload_n 3, 1) := by decide +kernel
theorem dX8_readAloud_51 : decode cX8_readAloud 51 = .ok (.iconst 1, 1) := by decide +kernel
theorem dX8_readAloud_52 : decode cX8_readAloud 52 = .ok (.invokevirtual 83, 3) := by decide +kernel
theorem dX8_readAloud_55 : decode cX8_readAloud 55 = .ok (.iinc 3 1, 3) := by decide +kernel
theorem dX8_readAloud_58 : decode cX8_readAloud 58 = .ok (.goto (-50), 3) := by decide +kernel
theorem dX8_readAloud_61 : decode cX8_readAloud 61 = .ok (.return_, 1) := by decide +kernel
set_option maxRecDepth 20000 in
theorem ggX8_takeNet_X8_isThere : GoodIn wsX8_takeNet wsX8_isThere := goodIn_r _ [7, 8, 9, 10, 11, 12, 13, 14, 15] (by decide +kernel) (by decide +kernel)
set_option maxRecDepth 20000 in
theorem gX8_takeNet_X8_isThere : GoodIn wsX8_takeNet (wsV RX8 38 RX8 yX8_isThere wsX8_isThere) := goodIn_app (goodIn_of _ (by decide +kernel)) ggX8_takeNet_X8_isThere
theorem dX8_takeNet_0 : decode cX8_takeNet 0 = .ok (.aload_n 0, 1) := by decide +kernel
theorem dX8_takeNet_1 : decode cX8_takeNet 1 = .ok (.iload_n 1, 1) := by decide +kernel
theorem dX8_takeNet_2 : decode cX8_takeNet 2 = .ok (.invokevirtual 38, 3) := by decide +kernel
theorem dX8_takeNet_5 : decode cX8_takeNet 5 = .ok (.ifCond .eq 23, 3) := by decide +kernel
theorem dX8_takeNet_8 : decode cX8_takeNet 8 = .ok (.aload_n 0, 1) := by decide +kernel
theorem dX8_takeNet_9 : decode cX8_takeNet 9 = .ok (.getfield 9, 3) := by decide +kernel
theorem dX8_takeNet_12 : decode cX8_takeNet 12 = .ok (.iload_n 1, 1) := by decide +kernel
theorem dX8_takeNet_13 : decode cX8_takeNet 13 = .ok (.dup2, 1) := by decide +kernel
theorem dX8_takeNet_14 : decode cX8_takeNet 14 = .ok (.iaload, 1) := by decide +kernel
theorem dX8_takeNet_15 : decode cX8_takeNet 15 = .ok (.iconst 5, 1) := by decide +kernel
theorem dX8_takeNet_16 : decode cX8_takeNet 16 = .ok (.isub, 1) := by decide +kernel
theorem dX8_takeNet_17 : decode cX8_takeNet 17 = .ok (.iastore, 1) := by decide +kernel
theorem dX8_takeNet_18 : decode cX8_takeNet 18 = .ok (.aload_n 0, 1) := by decide +kernel
theorem dX8_takeNet_19 : decode cX8_takeNet 19 = .ok (.dup, 1) := by decide +kernel
theorem dX8_takeNet_20 : decode cX8_takeNet 20 = .ok (.getfield 31, 3) := by decide +kernel
theorem dX8_takeNet_23 : decode cX8_takeNet 23 = .ok (.iconst 5, 1) := by decide +kernel
theorem dX8_takeNet_24 : decode cX8_takeNet 24 = .ok (.iadd, 1) := by decide +kernel
theorem dX8_takeNet_25 : decode cX8_takeNet 25 = .ok (.putfield 31, 3) := by decide +kernel
theorem dX8_takeNet_28 : decode cX8_takeNet 28 = .ok (.return_, 1) := by decide +kernel
set_option maxRecDepth 20000 in
theorem ggX8_joinTo_X8_isThere : GoodIn wsX8_joinTo wsX8_isThere := goodIn_r _ [11, 6, 12, 13, 14, 15, 16, 17, 18] (by decide +kernel) (by decide +kernel)
set_option maxRecDepth 20000 in
theorem gX8_joinTo_X8_isThere : GoodIn wsX8_joinTo (wsV RX8 38 RX8 yX8_isThere wsX8_isThere) := goodIn_app (goodIn_of _ (by decide +kernel)) ggX8_joinTo_X8_isThere
theorem dX8_joinTo_0 : decode cX8_joinTo 0 = .ok (.aload_n 0, 1) := by decide +kernel
theorem dX8_joinTo_1 : decode cX8_joinTo 1 = .ok (.iload_n 1, 1) := by decide +kernel
theorem dX8_joinTo_2 : decode cX8_joinTo 2 = .ok (.invokevirtual 38, 3) := by decide +kernel
theorem dX8_joinTo_5 : decode cX8_joinTo 5 = .ok (.ifCond .eq 49, 3) := by decide +kernel
theorem dX8_joinTo_8 : decode cX8_joinTo 8 = .ok (.aload_n 0, 1) := by decide +kernel
theorem dX8_joinTo_9 : decode cX8_joinTo 9 = .ok (.iload_n 2, 1) := by decide +kernel
theorem dX8_joinTo_10 : decode cX8_joinTo 10 = .ok (.invokevirtual 38, 3) := by decide +kernel
theorem dX8_joinTo_13 : decode cX8_joinTo 13 = .ok (.ifCond .eq 41, 3) := by decide +kernel
theorem dX8_joinTo_16 : decode cX8_joinTo 16 = .ok (.aload_n 0, 1) := by decide +kernel
theorem dX8_joinTo_17 : decode cX8_joinTo 17 = .ok (.getfield 9, 3) := by decide +kernel
theorem dX8_joinTo_20 : decode cX8_joinTo 20 = .ok (.iload_n 1, 1) := by decide +kernel
theorem dX8_joinTo_21 : decode cX8_joinTo 21 = .ok (.bipush 99, 2) := by decide +kernel
theorem dX8_joinTo_23 : decode cX8_joinTo 23 = .ok (.aload_n 0, 1) := by decide +kernel
theorem dX8_joinTo_24 : decode cX8_joinTo 24 = .ok (.getfield 9, 3) := by decide +kernel
theorem dX8_joinTo_27 : decode cX8_joinTo 27 = .ok (.iload_n 1, 1) := by decide +kernel
theorem dX8_joinTo_28 : decode cX8_joinTo 28 = .ok (.iaload, 1) := by decide +kernel
theorem dX8_joinTo_29 : decode cX8_joinTo 29 = .ok (.aload_n 0, 1) := by decide +kernel
theorem dX8_joinTo_30 : decode cX8_joinTo 30 = .ok (.getfield 9, 3) := by decide +kernel
theorem dX8_joinTo_33 : decode cX8_joinTo 33 = .ok (.iload_n 2, 1) := by decide +kernel
theorem dX8_joinTo_34 : decode cX8_joinTo 34 = .ok (.iaload, 1) := by decide +kernel
theorem dX8_joinTo_35 : decode cX8_joinTo 35 = .ok (.iadd, 1) := by decide +kernel
theorem dX8_joinTo_36 : decode cX8_joinTo 36 = .ok (.invokestatic 96, 3) := by decide +kernel
theorem dX8_joinTo_39 : decode cX8_joinTo 39 = .ok (.iastore, 1) := by decide +kernel
theorem dX8_joinTo_40 : decode cX8_joinTo 40 = .ok (.aload_n 0, 1) := by decide +kernel
theorem dX8_joinTo_41 : decode cX8_joinTo 41 = .ok (.dup, 1) := by decide +kernel
theorem dX8_joinTo_42 : decode cX8_joinTo 42 = .ok (.getfield 24, 3) := by decide +kernel
theorem dX8_joinTo_45 : decode cX8_joinTo 45 = .ok (.iconst 1, 1) := by decide +kernel
theorem dX8_joinTo_46 : decode cX8_joinTo 46 = .ok (.iload_n 2, 1) := by decide +kernel
theorem dX8_joinTo_47 : decode cX8_joinTo 47 = .ok (.ishl, 1) := by decide +kernel
theorem dX8_joinTo_48 : decode cX8_joinTo 48 = .ok (.iconst (-1), 1) := by decide +kernel
theorem dX8_joinTo_49 : decode cX8_joinTo 49 = .ok (.ixor, 1) := by decide +kernel
theorem dX8_joinTo_50 : decode cX8_joinTo 50 = .ok (.iand, 1) := by decide +kernel
theorem dX8_joinTo_51 : decode cX8_joinTo 51 = .ok (.putfield 24, 3) := by decide +kernel
theorem dX8_joinTo_54 : decode cX8_joinTo 54 = .ok (.return_, 1) := by decide +kernel
set_option maxRecDepth 20000 in
theorem ggX8_passMonth_X8_cheer : GoodIn wsX8_passMonth wsX8_cheer := goodIn_r _ [12, 13, 4, 5, 6, 7, 14, 15, 16, 11, 17, 18, 19, 20, 21, 22, 23, 24, 25] (by decide +kernel) (by decide +kernel)
set_option maxRecDepth 20000 in
theorem gX8_passMonth_X8_cheer : GoodIn wsX8_passMonth (wsV RX8 83 RX8 yX8_cheer wsX8_cheer) := goodIn_app (goodIn_of _ (by decide +kernel)) ggX8_passMonth_X8_cheer
set_option maxRecDepth 20000 in
theorem ggX8_passMonth_X8_isThere : GoodIn wsX8_passMonth wsX8_isThere := goodIn_r _ [17, 18, 19, 20, 21, 22, 23, 24, 25] (by decide +kernel) (by decide +kernel)
set_option maxRecDepth 20000 in
theorem gX8_passMonth_X8_isThere : GoodIn wsX8_passMonth (wsV RX8 38 RX8 yX8_isThere wsX8_isThere) := goodIn_app (goodIn_of _ (by decide +kernel)) ggX8_passMonth_X8_isThere
theorem dX8_passMonth_0 : decode cX8_passMonth 0 = .ok (.iconst 0, 1) := by decide +kernel
theorem dX8_passMonth_1 : decode cX8_passMonth 1 = .ok (.istore_n 1, 1) := by decide +kernel
theorem dX8_passMonth_2 : decode cX8_passMonth 2 = .ok (.iload_n 1, 1) := by decide +kernel
theorem dX8_passMonth_3 : decode cX8_passMonth 3 = .ok (.bipush 6, 2) := by decide +kernel
theorem dX8_passMonth_5 : decode cX8_passMonth 5 = .ok (.if_icmp .ge 68, 3) := by decide +kernel
theorem dX8_passMonth_8 : decode cX8_passMonth 8 = .ok (.aload_n 0, 1) := by decide +kernel
theorem dX8_passMonth_9 : decode cX8_passMonth 9 = .ok (.iload_n 1, 1) := by decide +kernel
theorem dX8_passMonth_10 : decode cX8_passMonth 10 = .ok (.iconst 2, 1) := by decide +kernel
theorem dX8_passMonth_11 : decode cX8_passMonth 11 = .ok (.invokevirtual 83, 3) := by decide +kernel
theorem dX8_passMonth_14 : decode cX8_passMonth 14 = .ok (.aload_n 0, 1) := by decide +kernel
theorem dX8_passMonth_15 : decode cX8_passMonth 15 = .ok (.iload_n 1, 1) := by decide +kernel
theorem dX8_passMonth_16 : decode cX8_passMonth 16 = .ok (.invokevirtual 38, 3) := by decide +kernel
theorem dX8_passMonth_19 : decode cX8_passMonth 19 = .ok (.ifCond .eq 48, 3) := by decide +kernel
theorem dX8_passMonth_22 : decode cX8_passMonth 22 = .ok (.aload_n 0, 1) := by decide +kernel
theorem dX8_passMonth_23 : decode cX8_passMonth 23 = .ok (.getfield 9, 3) := by decide +kernel
theorem dX8_passMonth_26 : decode cX8_passMonth 26 = .ok (.iload_n 1, 1) := by decide +kernel
theorem dX8_passMonth_27 : decode cX8_passMonth 27 = .ok (.iaload, 1) := by decide +kernel
theorem dX8_passMonth_28 : decode cX8_passMonth 28 = .ok (.iconst 2, 1) := by decide +kernel
theorem dX8_passMonth_29 : decode cX8_passMonth 29 = .ok (.if_icmp .lt 38, 3) := by decide +kernel
theorem dX8_passMonth_32 : decode cX8_passMonth 32 = .ok (.aload_n 0, 1) := by decide +kernel
theorem dX8_passMonth_33 : decode cX8_passMonth 33 = .ok (.getfield 21, 3) := by decide +kernel
theorem dX8_passMonth_36 : decode cX8_passMonth 36 = .ok (.iload_n 1, 1) := by decide +kernel
theorem dX8_passMonth_37 : decode cX8_passMonth 37 = .ok (.iaload, 1) := by decide +kernel
theorem dX8_passMonth_38 : decode cX8_passMonth 38 = .ok (.aload_n 0, 1) := by decide +kernel
theorem dX8_passMonth_39 : decode cX8_passMonth 39 = .ok (.getfield 28, 3) := by decide +kernel
theorem dX8_passMonth_42 : decode cX8_passMonth 42 = .ok (.bipush 12, 2) := by decide +kernel
theorem dX8_passMonth_44 : decode cX8_passMonth 44 = .ok (.irem, 1) := by decide +kernel
theorem dX8_passMonth_45 : decode cX8_passMonth 45 = .ok (.if_icmp .eq 22, 3) := by decide +kernel
theorem dX8_passMonth_48 : decode cX8_passMonth 48 = .ok (.aload_n 0, 1) := by decide +kernel
theorem dX8_passMonth_49 : decode cX8_passMonth 49 = .ok (.getfield 9, 3) := by decide +kernel
theorem dX8_passMonth_52 : decode cX8_passMonth 52 = .ok (.iload_n 1, 1) := by decide +kernel
theorem dX8_passMonth_53 : decode cX8_passMonth 53 = .ok (.bipush 99, 2) := by decide +kernel
theorem dX8_passMonth_55 : decode cX8_passMonth 55 = .ok (.aload_n 0, 1) := by decide +kernel
theorem dX8_passMonth_56 : decode cX8_passMonth 56 = .ok (.getfield 9, 3) := by decide +kernel
theorem dX8_passMonth_59 : decode cX8_passMonth 59 = .ok (.iload_n 1, 1) := by decide +kernel
theorem dX8_passMonth_60 : decode cX8_passMonth 60 = .ok (.iaload, 1) := by decide +kernel
theorem dX8_passMonth_61 : decode cX8_passMonth 61 = .ok (.iconst 1, 1) := by decide +kernel
theorem dX8_passMonth_62 : decode cX8_passMonth 62 = .ok (.iadd, 1) := by decide +kernel
theorem dX8_passMonth_63 : decode cX8_passMonth 63 = .ok (.invokestatic 96, 3) := by decide +kernel
theorem dX8_passMonth_66 : decode cX8_passMonth 66 = .ok (.iastore, 1) := by decide +kernel
theorem dX8_passMonth_67 : decode cX8_passMonth 67 = .ok (.iinc 1 1, 3) := by decide +kernel
theorem dX8_passMonth_70 : decode cX8_passMonth 70 = .ok (.goto (-68), 3) := by decide +kernel
theorem dX8_passMonth_73 : decode cX8_passMonth 73 = .ok (.aload_n 0, 1) := by decide +kernel
theorem dX8_passMonth_74 : decode cX8_passMonth 74 = .ok (.dup, 1) := by decide +kernel
theorem dX8_passMonth_75 : decode cX8_passMonth 75 = .ok (.getfield 28, 3) := by decide +kernel
theorem dX8_passMonth_78 : decode cX8_passMonth 78 = .ok (.iconst 1, 1) := by decide +kernel
theorem dX8_passMonth_79 : decode cX8_passMonth 79 = .ok (.iadd, 1) := by decide +kernel
theorem dX8_passMonth_80 : decode cX8_passMonth 80 = .ok (.putfield 28, 3) := by decide +kernel
theorem dX8_passMonth_83 : decode cX8_passMonth 83 = .ok (.return_, 1) := by decide +kernel
set_option maxRecDepth 20000 in
theorem ggX9_init_J7_fill_53178 : GoodIn wsX9_init wsJ7_fill_53178 := goodIn_r _ [10] (by decide +kernel) (by decide +kernel)
set_option maxRecDepth 20000 in
theorem gX9_init_J7_fill_53178 : GoodIn wsX9_init (va_wsS RX9 18 yJ7_fill_53178 wsJ7_fill_53178) := goodIn_app (goodIn_of _ (by decide +kernel)) ggX9_init_J7_fill_53178
theorem dX9_init_0 : decode cX9_init 0 = .ok (.aload_n 0, 1) := by decide +kernel
theorem dX9_init_1 : decode cX9_init 1 = .ok (.invokespecial 3, 3) := by decide +kernel
theorem dX9_init_4 : decode cX9_init 4 = .ok (.aload_n 0, 1) := by decide +kernel
theorem dX9_init_5 : decode cX9_init 5 = .ok (.bipush 10, 2) := by decide +kernel
theorem dX9_init_7 : decode cX9_init 7 = .ok (.newarray .int, 2) := by decide +kernel
theorem dX9_init_9 : decode cX9_init 9 = .ok (.putfield 9, 3) := by decide +kernel
theorem dX9_init_12 : decode cX9_init 12 = .ok (.aload_n 0, 1) := by decide +kernel
theorem dX9_init_13 : decode cX9_init 13 = .ok (.bipush 10, 2) := by decide +kernel
theorem dX9_init_15 : decode cX9_init 15 = .ok (.newarray .int, 2) := by decide +kernel
theorem dX9_init_17 : decode cX9_init 17 = .ok (.putfield 15, 3) := by decide +kernel
theorem dX9_init_20 : decode cX9_init 20 = .ok (.aload_n 0, 1) := by decide +kernel
theorem dX9_init_21 : decode cX9_init 21 = .ok (.getfield 9, 3) := by decide +kernel
theorem dX9_init_24 : decode cX9_init 24 = .ok (.iconst 3, 1) := by decide +kernel
theorem dX9_init_25 : decode cX9_init 25 = .ok (.invokestatic 18, 3) := by decide +kernel
theorem dX9_init_28 : decode cX9_init 28 = .ok (.return_, 1) := by decide +kernel
theorem dX9_copyFrom_0 : decode cX9_copyFrom 0 = .ok (.iconst 0, 1) := by decide +kernel
theorem dX9_copyFrom_1 : decode cX9_copyFrom 1 = .ok (.istore_n 2, 1) := by decide +kernel
theorem dX9_copyFrom_2 : decode cX9_copyFrom 2 = .ok (.iload_n 2, 1) := by decide +kernel
theorem dX9_copyFrom_3 : decode cX9_copyFrom 3 = .ok (.bipush 10, 2) := by decide +kernel
theorem dX9_copyFrom_5 : decode cX9_copyFrom 5 = .ok (.if_icmp .ge 33, 3) := by decide +kernel
theorem dX9_copyFrom_8 : decode cX9_copyFrom 8 = .ok (.aload_n 0, 1) := by decide +kernel
theorem dX9_copyFrom_9 : decode cX9_copyFrom 9 = .ok (.getfield 9, 3) := by decide +kernel
theorem dX9_copyFrom_12 : decode cX9_copyFrom 12 = .ok (.iload_n 2, 1) := by decide +kernel
theorem dX9_copyFrom_13 : decode cX9_copyFrom 13 = .ok (.aload_n 1, 1) := by decide +kernel
theorem dX9_copyFrom_14 : decode cX9_copyFrom 14 = .ok (.getfield 9, 3) := by decide +kernel
theorem dX9_copyFrom_17 : decode cX9_copyFrom 17 = .ok (.iload_n 2, 1) := by decide +kernel
theorem dX9_copyFrom_18 : decode cX9_copyFrom 18 = .ok (.iaload, 1) := by decide +kernel
theorem dX9_copyFrom_19 : decode cX9_copyFrom 19 = .ok (.iastore, 1) := by decide +kernel
theorem dX9_copyFrom_20 : decode cX9_copyFrom 20 = .ok (.aload_n 0, 1) := by decide +kernel
theorem dX9_copyFrom_21 : decode cX9_copyFrom 21 = .ok (.getfield 15, 3) := by decide +kernel
theorem dX9_copyFrom_24 : decode cX9_copyFrom 24 = .ok (.iload_n 2, 1) := by decide +kernel
theorem dX9_copyFrom_25 : decode cX9_copyFrom 25 = .ok (.aload_n 1, 1) := by decide +kernel
theorem dX9_copyFrom_26 : decode cX9_copyFrom 26 = .ok (.getfield 15, 3) := by decide +kernel
theorem dX9_copyFrom_29 : decode cX9_copyFrom 29 = .ok (.iload_n 2, 1) := by decide +kernel
theorem dX9_copyFrom_30 : decode cX9_copyFrom 30 = .ok (.iaload, 1) := by decide +kernel
theorem dX9_copyFrom_31 : decode cX9_copyFrom 31 = .ok (.iastore, 1) := by decide +kernel
theorem dX9_copyFrom_32 : decode cX9_copyFrom 32 = .ok (.iinc 2 1, 3) := by decide +kernel
theorem dX9_copyFrom_35 : decode cX9_copyFrom 35 = .ok (.goto (-33), 3) := by decide +kernel
theorem dX9_copyFrom_38 : decode cX9_copyFrom 38 = .ok (.return_, 1) := by decide +kernel
set_option maxRecDepth 20000 in
theorem ggX9_wordsOf_X11_within : GoodIn wsX9_wordsOf wsX11_within := goodIn_r _ [4] (by decide +kernel) (by decide +kernel)
set_option maxRecDepth 20000 in
theorem gX9_wordsOf_X11_within_n24 : GoodIn wsX9_wordsOf (wsX11_within) := ggX9_wordsOf_X11_within
theorem dX9_wordsOf_0 : decode cX9_wordsOf 0 = .ok (.iload_n 1, 1) := by decide +kernel
theorem dX9_wordsOf_1 : decode cX9_wordsOf 1 = .ok (.iconst 0, 1) := by decide +kernel
theorem dX9_wordsOf_2 : decode cX9_wordsOf 2 = .ok (.bipush 9, 2) := by decide +kernel
theorem dX9_wordsOf_4 : decode cX9_wordsOf 4 = .ok (.invokestatic 24, 3) := by decide +kernel
theorem dX9_wordsOf_7 : decode cX9_wordsOf 7 = .ok (.ifCond .eq 12, 3) := by decide +kernel
theorem dX9_wordsOf_10 : decode cX9_wordsOf 10 = .ok (.aload_n 0, 1) := by decide +kernel
theorem dX9_wordsOf_11 : decode cX9_wordsOf 11 = .ok (.getfield 9, 3) := by decide +kernel
theorem dX9_wordsOf_14 : decode cX9_wordsOf 14 = .ok (.iload_n 1, 1) := by decide +kernel
theorem dX9_wordsOf_15 : decode cX9_wordsOf 15 = .ok (.iaload, 1) := by decide +kernel
theorem dX9_wordsOf_16 : decode cX9_wordsOf 16 = .ok (.goto 4, 3) := by decide +kernel
theorem dX9_wordsOf_19 : decode cX9_wordsOf 19 = .ok (.iconst 3, 1) := by decide +kernel
theorem dX9_wordsOf_20 : decode cX9_wordsOf 20 = .ok (.ireturn, 1) := by decide +kernel
set_option maxRecDepth 20000 in
theorem ggX9_wordsOfAll_X11_has : GoodIn wsX9_wordsOfAll wsX11_has := goodIn_r _ [4] (by decide +kernel) (by decide +kernel)
set_option maxRecDepth 20000 in
theorem gX9_wordsOfAll_X11_has_n28 : GoodIn wsX9_wordsOfAll (wsX11_has) := ggX9_wordsOfAll_X11_has
theorem dX9_wordsOfAll_0 : decode cX9_wordsOfAll 0 = .ok (.iconst 0, 1) := by decide +kernel
theorem dX9_wordsOfAll_1 : decode cX9_wordsOfAll 1 = .ok (.istore_n 2, 1) := by decide +kernel
theorem dX9_wordsOfAll_2 : decode cX9_wordsOfAll 2 = .ok (.iconst 0, 1) := by decide +kernel
theorem dX9_wordsOfAll_3 : decode cX9_wordsOfAll 3 = .ok (.istore_n 3, 1) := by decide +kernel
theorem dX9_wordsOfAll_4 : decode cX9_wordsOfAll 4 = .ok (.iload_n 3, 1) := by decide +kernel
theorem dX9_wordsOfAll_5 : decode cX9_wordsOfAll 5 = .ok (.bipush 10, 2) := by decide +kernel
theorem dX9_wordsOfAll_7 : decode cX9_wordsOfAll 7 = .ok (.if_icmp .ge 26, 3) := by decide +kernel
theorem dX9_wordsOfAll_10 : decode cX9_wordsOfAll 10 = .ok (.iload_n 1, 1) := by decide +kernel
theorem dX9_wordsOfAll_11 : decode cX9_wordsOfAll 11 = .ok (.iload_n 3, 1) := by decide +kernel
theorem dX9_wordsOfAll_12 : decode cX9_wordsOfAll 12 = .ok (.invokestatic 28, 3) := by decide +kernel
theorem dX9_wordsOfAll_15 : decode cX9_wordsOfAll 15 = .ok (.ifCond .eq 12, 3) := by decide +kernel
theorem dX9_wordsOfAll_18 : decode cX9_wordsOfAll 18 = .ok (.iload_n 2, 1) := by decide +kernel
theorem dX9_wordsOfAll_19 : decode cX9_wordsOfAll 19 = .ok (.aload_n 0, 1) := by decide +kernel
theorem dX9_wordsOfAll_20 : decode cX9_wordsOfAll 20 = .ok (.getfield 9, 3) := by decide +kernel
theorem dX9_wordsOfAll_23 : decode cX9_wordsOfAll 23 = .ok (.iload_n 3, 1) := by decide +kernel
theorem dX9_wordsOfAll_24 : decode cX9_wordsOfAll 24 = .ok (.iaload, 1) := by decide +kernel
theorem dX9_wordsOfAll_25 : decode cX9_wordsOfAll 25 = .ok (.iadd, 1) := by decide +kernel
theorem dX9_wordsOfAll_26 : decode cX9_wordsOfAll 26 = .ok (.istore_n 2, 1) := by decide +kernel
theorem dX9_wordsOfAll_27 : decode cX9_wordsOfAll 27 = .ok (.iinc 3 1, 3) := by decide +kernel
theorem dX9_wordsOfAll_30 : decode cX9_wordsOfAll 30 = .ok (.goto (-26), 3) := by decide +kernel
theorem dX9_wordsOfAll_33 : decode cX9_wordsOfAll 33 = .ok (.iload_n 2, 1) := by decide +kernel
theorem dX9_wordsOfAll_34 : decode cX9_wordsOfAll 34 = .ok (.ireturn, 1) := by decide +kernel
set_option maxRecDepth 20000 in
theorem ggX9_setClash_X11_within : GoodIn wsX9_setClash wsX11_within := goodIn_r _ [4] (by decide +kernel) (by decide +kernel)
set_option maxRecDepth 20000 in
theorem gX9_setClash_X11_within_n24 : GoodIn wsX9_setClash (wsX11_within) := ggX9_setClash_X11_within
theorem dX9_setClash_0 : decode cX9_setClash 0 = .ok (.iload_n 1, 1) := by decide +kernel
theorem dX9_setClash_1 : decode cX9_setClash 1 = .ok (.iconst 0, 1) := by decide +kernel
theorem dX9_setClash_2 : decode cX9_setClash 2 = .ok (.bipush 9, 2) := by decide +kernel
theorem dX9_setClash_4 : decode cX9_setClash 4 = .ok (.invokestatic 24, 3) := by decide +kernel
theorem dX9_setClash_7 : decode cX9_setClash 7 = .ok (.ifCond .ne 4, 3) := by decide +kernel
theorem dX9_setClash_10 : decode cX9_setClash 10 = .ok (.return_, 1) := by decide +kernel
theorem dX9_setClash_11 : decode cX9_setClash 11 = .ok (.iload_n 3, 1) := by decide +kernel
theorem dX9_setClash_12 : decode cX9_setClash 12 = .ok (.ifCond .eq 18, 3) := by decide +kernel
theorem dX9_setClash_15 : decode cX9_setClash 15 = .ok (.aload_n 0, 1) := by decide +kernel
theorem dX9_setClash_16 : decode cX9_setClash 16 = .ok (.getfield 15, 3) := by decide +kernel
theorem dX9_setClash_19 : decode cX9_setClash 19 = .ok (.iload_n 1, 1) := by decide +kernel
theorem dX9_setClash_20 : decode cX9_setClash 20 = .ok (.dup2, 1) := by decide +kernel
theorem dX9_setClash_21 : decode cX9_setClash 21 = .ok (.iaload, 1) := by decide +kernel
theorem dX9_setClash_22 : decode cX9_setClash 22 = .ok (.iconst 1, 1) := by decide +kernel
theorem dX9_setClash_23 : decode cX9_setClash 23 = .ok (.iload_n 2, 1) := by decide +kernel
theorem dX9_setClash_24 : decode cX9_setClash 24 = .ok (.ishl, 1) := by decide +kernel
theorem dX9_setClash_25 : decode cX9_setClash 25 = .ok (.ior, 1) := by decide +kernel
theorem dX9_setClash_26 : decode cX9_setClash 26 = .ok (.iastore, 1) := by decide +kernel
theorem dX9_setClash_27 : decode cX9_setClash 27 = .ok (.goto 17, 3) := by decide +kernel
theorem dX9_setClash_30 : decode cX9_setClash 30 = .ok (.aload_n 0, 1) := by decide +kernel
theorem dX9_setClash_31 : decode cX9_setClash 31 = .ok (.getfield 15, 3) := by decide +kernel
theorem dX9_setClash_34 : decode cX9_setClash 34 = .ok (.iload_n 1, 1) := by decide +kernel
theorem dX9_setClash_35 : decode cX9_setClash 35 = .ok (.dup2, 1) := by decide +kernel
theorem dX9_setClash_36 : decode cX9_setClash 36 = .ok (.iaload, 1) := by decide +kernel
theorem dX9_setClash_37 : decode cX9_setClash 37 = .ok (.iconst 1, 1) := by decide +kernel
theorem dX9_setClash_38 : decode cX9_setClash 38 = .ok (.iload_n 2, 1) := by decide +kernel
theorem dX9_setClash_39 : decode cX9_setClash 39 = .ok (.ishl, 1) := by decide +kernel
theorem dX9_setClash_40 : decode cX9_setClash 40 = .ok (.iconst (-1), 1) := by decide +kernel
theorem dX9_setClash_41 : decode cX9_setClash 41 = .ok (.ixor, 1) := by decide +kernel
theorem dX9_setClash_42 : decode cX9_setClash 42 = .ok (.iand, 1) := by decide +kernel
theorem dX9_setClash_43 : decode cX9_setClash 43 = .ok (.iastore, 1) := by decide +kernel
theorem dX9_setClash_44 : decode cX9_setClash 44 = .ok (.return_, 1) := by decide +kernel
set_option maxRecDepth 20000 in
theorem ggX9_clashingPairs_J6_bitCount_0f7a4 : GoodIn wsX9_clashingPairs wsJ6_bitCount_0f7a4 := goodIn_r _ [5, 6, 7, 8] (by decide +kernel) (by decide +kernel)
set_option maxRecDepth 20000 in
theorem gX9_clashingPairs_J6_bitCount_0f7a4 : GoodIn wsX9_clashingPairs (va_wsS RX9 32 yJ6_bitCount_0f7a4 wsJ6_bitCount_0f7a4) := goodIn_app (goodIn_of _ (by decide +kernel)) ggX9_clashingPairs_J6_bitCount_0f7a4
theorem dX9_clashingPairs_0 : decode cX9_clashingPairs 0 = .ok (.iconst 0, 1) := by decide +kernel
theorem dX9_clashingPairs_1 : decode cX9_clashingPairs 1 = .ok (.istore_n 1, 1) := by decide +kernel
theorem dX9_clashingPairs_2 : decode cX9_clashingPairs 2 = .ok (.iconst 0, 1) := by decide +kernel
theorem dX9_clashingPairs_3 : decode cX9_clashingPairs 3 = .ok (.istore_n 2, 1) := by decide +kernel
theorem dX9_clashingPairs_4 : decode cX9_clashingPairs 4 = .ok (.iload_n 2, 1) := by decide +kernel
theorem dX9_clashingPairs_5 : decode cX9_clashingPairs 5 = .ok (.bipush 10, 2) := by decide +kernel
theorem dX9_clashingPairs_7 : decode cX9_clashingPairs 7 = .ok (.if_icmp .ge 21, 3) := by decide +kernel
theorem dX9_clashingPairs_10 : decode cX9_clashingPairs 10 = .ok (.iload_n 1, 1) := by decide +kernel
theorem dX9_clashingPairs_11 : decode cX9_clashingPairs 11 = .ok (.aload_n 0, 1) := by decide +kernel
theorem dX9_clashingPairs_12 : decode cX9_clashingPairs 12 = .ok (.getfield 15, 3) := by decide +kernel
theorem dX9_clashingPairs_15 : decode cX9_clashingPairs 15 = .ok (.iload_n 2, 1) := by decide +kernel
theorem dX9_clashingPairs_16 : decode cX9_clashingPairs 16 = .ok (.iaload, 1) := by decide +kernel
theorem dX9_clashingPairs_17 : decode cX9_clashingPairs 17 = .ok (.invokestatic 32, 3) := by decide +kernel
theorem dX9_clashingPairs_20 : decode cX9_clashingPairs 20 = .ok (.iadd, 1) := by decide +kernel
theorem dX9_clashingPairs_21 : decode cX9_clashingPairs 21 = .ok (.istore_n 1, 1) := by decide +kernel
theorem dX9_clashingPairs_22 : decode cX9_clashingPairs 22 = .ok (.iinc 2 1, 3) := by decide +kernel
theorem dX9_clashingPairs_25 : decode cX9_clashingPairs 25 = .ok (.goto (-21), 3) := by decide +kernel
theorem dX9_clashingPairs_28 : decode cX9_clashingPairs 28 = .ok (.iload_n 1, 1) := by decide +kernel
theorem dX9_clashingPairs_29 : decode cX9_clashingPairs 29 = .ok (.iconst 2, 1) := by decide +kernel
theorem dX9_clashingPairs_30 : decode cX9_clashingPairs 30 = .ok (.idiv, 1) := by decide +kernel
theorem dX9_clashingPairs_31 : decode cX9_clashingPairs 31 = .ok (.ireturn, 1) := by decide +kernel
set_option maxRecDepth 20000 in
theorem ggX9_isQuiet_X11_has : GoodIn wsX9_isQuiet wsX11_has := goodIn_r _ [4] (by decide +kernel) (by decide +kernel)
set_option maxRecDepth 20000 in
theorem gX9_isQuiet_X11_has_n28 : GoodIn wsX9_isQuiet (wsX11_has) := ggX9_isQuiet_X11_has
theorem dX9_isQuiet_0 : decode cX9_isQuiet 0 = .ok (.iconst 0, 1) := by decide +kernel
theorem dX9_isQuiet_1 : decode cX9_isQuiet 1 = .ok (.istore_n 2, 1) := by decide +kernel
theorem dX9_isQuiet_2 : decode cX9_isQuiet 2 = .ok (.iload_n 2, 1) := by decide +kernel
theorem dX9_isQuiet_3 : decode cX9_isQuiet 3 = .ok (.bipush 10, 2) := by decide +kernel
theorem dX9_isQuiet_5 : decode cX9_isQuiet 5 = .ok (.if_icmp .ge 30, 3) := by decide +kernel
theorem dX9_isQuiet_8 : decode cX9_isQuiet 8 = .ok (.iload_n 1, 1) := by decide +kernel
theorem dX9_isQuiet_9 : decode cX9_isQuiet 9 = .ok (.iload_n 2, 1) := by decide +kernel
theorem dX9_isQuiet_10 : decode cX9_isQuiet 10 = .ok (.invokestatic 28, 3) := by decide +kernel
theorem dX9_isQuiet_13 : decode cX9_isQuiet 13 = .ok (.ifCond .eq 16, 3) := by decide +kernel
theorem dX9_isQuiet_16 : decode cX9_isQuiet 16 = .ok (.aload_n 0, 1) := by decide +kernel
theorem dX9_isQuiet_17 : decode cX9_isQuiet 17 = .ok (.getfield 15, 3) := by decide +kernel
theorem dX9_isQuiet_20 : decode cX9_isQuiet 20 = .ok (.iload_n 2, 1) := by decide +kernel
theorem dX9_isQuiet_21 : decode cX9_isQuiet 21 = .ok (.iaload, 1) := by decide +kernel
theorem dX9_isQuiet_22 : decode cX9_isQuiet 22 = .ok (.iload_n 1, 1) := by decide +kernel
theorem dX9_isQuiet_23 : decode cX9_isQuiet 23 = .ok (.iand, 1) := by decide +kernel
theorem dX9_isQuiet_24 : decode cX9_isQuiet 24 = .ok (.ifCond .eq 5, 3) := by decide +kernel
theorem dX9_isQuiet_27 : decode cX9_isQuiet 27 = .ok (.iconst 0, 1) := by decide +kernel
theorem dX9_isQuiet_28 : decode cX9_isQuiet 28 = .ok (.ireturn, 1) := by decide +kernel
theorem dX9_isQuiet_29 : decode cX9_isQuiet 29 = .ok (.iinc 2 1, 3) := by decide +kernel
theorem dX9_isQuiet_32 : decode cX9_isQuiet 32 = .ok (.goto (-30), 3) := by decide +kernel
theorem dX9_isQuiet_35 : decode cX9_isQuiet 35 = .ok (.iconst 1, 1) := by decide +kernel
theorem dX9_isQuiet_36 : decode cX9_isQuiet 36 = .ok (.ireturn, 1) := by decide +kernel
set_option maxRecDepth 20000 in
theorem ggX9_leastToDrop_J6_bitCount_0f7a4 : GoodIn wsX9_leastToDrop wsJ6_bitCount_0f7a4 := goodIn_r _ [4, 5, 6, 7] (by decide +kernel) (by decide +kernel)
set_option maxRecDepth 20000 in
theorem gX9_leastToDrop_J6_bitCount_0f7a4 : GoodIn wsX9_leastToDrop (va_wsS RX9 32 yJ6_bitCount_0f7a4 wsJ6_bitCount_0f7a4) := goodIn_app (goodIn_of _ (by decide +kernel)) ggX9_leastToDrop_J6_bitCount_0f7a4
set_option maxRecDepth 20000 in
theorem ggX9_leastToDrop_X9_isQuiet : GoodIn wsX9_leastToDrop wsX9_isQuiet := goodIn_r _ [12, 13, 14, 15, 16, 17, 18] (by decide +kernel) (by decide +kernel)
set_option maxRecDepth 20000 in
theorem gX9_leastToDrop_X9_isQuiet : GoodIn wsX9_leastToDrop (wsV RX9 38 RX9 yX9_isQuiet wsX9_isQuiet) := goodIn_app (goodIn_of _ (by decide +kernel)) ggX9_leastToDrop_X9_isQuiet
theorem dX9_leastToDrop_0 : decode cX9_leastToDrop 0 = .ok (.iload_n 1, 1) := by decide +kernel
theorem dX9_leastToDrop_1 : decode cX9_leastToDrop 1 = .ok (.istore_n 2, 1) := by decide +kernel
theorem dX9_leastToDrop_2 : decode cX9_leastToDrop 2 = .ok (.bipush 11, 2) := by decide +kernel
theorem dX9_leastToDrop_4 : decode cX9_leastToDrop 4 = .ok (.istore_n 3, 1) := by decide +kernel
theorem dX9_leastToDrop_5 : decode cX9_leastToDrop 5 = .ok (.iconst 0, 1) := by decide +kernel
theorem dX9_leastToDrop_6 : decode cX9_leastToDrop 6 = .ok (.istore 4, 2) := by decide +kernel
theorem dX9_leastToDrop_8 : decode cX9_leastToDrop 8 = .ok (.iload 4, 2) := by decide +kernel
theorem dX9_leastToDrop_10 : decode cX9_leastToDrop 10 = .ok (.sipush 1023, 3) := by decide +kernel
theorem dX9_leastToDrop_13 : decode cX9_leastToDrop 13 = .ok (.if_icmp .gt 61, 3) := by decide +kernel
theorem dX9_leastToDrop_16 : decode cX9_leastToDrop 16 = .ok (.iload 4, 2) := by decide +kernel
theorem dX9_leastToDrop_18 : decode cX9_leastToDrop 18 = .ok (.iload_n 1, 1) := by decide +kernel
theorem dX9_leastToDrop_19 : decode cX9_leastToDrop 19 = .ok (.iconst (-1), 1) := by decide +kernel
theorem dX9_leastToDrop_20 : decode cX9_leastToDrop 20 = .ok (.ixor, 1) := by decide +kernel
theorem dX9_leastToDrop_21 : decode cX9_leastToDrop 21 = .ok (.iand, 1) := by decide +kernel
theorem dX9_leastToDrop_22 : decode cX9_leastToDrop 22 = .ok (.ifCond .ne 7, 3) := by decide +kernel
theorem dX9_leastToDrop_25 : decode cX9_leastToDrop 25 = .ok (.iconst 1, 1) := by decide +kernel
theorem dX9_leastToDrop_26 : decode cX9_leastToDrop 26 = .ok (.goto 4, 3) := by decide +kernel
theorem dX9_leastToDrop_29 : decode cX9_leastToDrop 29 = .ok (.iconst 0, 1) := by decide +kernel
theorem dX9_leastToDrop_30 : decode cX9_leastToDrop 30 = .ok (.istore 5, 2) := by decide +kernel
theorem dX9_leastToDrop_32 : decode cX9_leastToDrop 32 = .ok (.iload 5, 2) := by decide +kernel
theorem dX9_leastToDrop_34 : decode cX9_leastToDrop 34 = .ok (.ifCond .eq 34, 3) := by decide +kernel
theorem dX9_leastToDrop_37 : decode cX9_leastToDrop 37 = .ok (.iload 4, 2) := by decide +kernel
theorem dX9_leastToDrop_39 : decode cX9_leastToDrop 39 = .ok (.invokestatic 32, 3) := by decide +kernel
theorem dX9_leastToDrop_42 : decode cX9_leastToDrop 42 = .ok (.iload_n 3, 1) := by decide +kernel
theorem dX9_leastToDrop_43 : decode cX9_leastToDrop 43 = .ok (.if_icmp .ge 25, 3) := by decide +kernel
theorem dX9_leastToDrop_46 : decode cX9_leastToDrop 46 = .ok (.aload_n 0, 1) := by decide +kernel
theorem dX9_leastToDrop_47 : decode cX9_leastToDrop 47 = .ok (.iload_n 1, 1) := by decide +kernel
theorem dX9_leastToDrop_48 : decode cX9_leastToDrop 48 = .ok (.iload 4, 2) := by decide +kernel
theorem dX9_leastToDrop_50 : decode cX9_leastToDrop 50 = .ok (.iconst (-1), 1) := by decide +kernel
theorem dX9_leastToDrop_51 : decode cX9_leastToDrop 51 = .ok (.ixor, 1) := by decide +kernel
theorem dX9_leastToDrop_52 : decode cX9_leastToDrop 52 = .ok (.iand, 1) := by decide +kernel
theorem dX9_leastToDrop_53 : decode cX9_leastToDrop 53 = .ok (.invokevirtual 38, 3) := by decide +kernel
theorem dX9_leastToDrop_56 : decode cX9_leastToDrop 56 = .ok (.ifCond .eq 12, 3) := by decide +kernel
theorem dX9_leastToDrop_59 : decode cX9_leastToDrop 59 = .ok (.iload 4, 2) := by decide +kernel
theorem dX9_leastToDrop_61 : decode cX9_leastToDrop 61 = .ok (.istore_n 2, 1) := by decide +kernel
theorem dX9_leastToDrop_62 : decode cX9_leastToDrop 62 = .ok (.iload 4, 2) := by decide +kernel
theorem dX9_leastToDrop_64 : decode cX9_leastToDrop 64 = .ok (.invokestatic 32, 3) := by decide +kernel
theorem dX9_leastToDrop_67 : decode cX9_leastToDrop 67 = .ok (.istore_n 3, 1) := by decide +kernel
theorem dX9_leastToDrop_68 : decode cX9_leastToDrop 68 = .ok (.iinc 4 1, 3) := by decide +kernel
theorem dX9_leastToDrop_71 : decode cX9_leastToDrop 71 = .ok (.goto (-63), 3) := by decide +kernel
theorem dX9_leastToDrop_74 : decode cX9_leastToDrop 74 = .ok (.iload_n 2, 1) := by decide +kernel
theorem dX9_leastToDrop_75 : decode cX9_leastToDrop 75 = .ok (.ireturn, 1) := by decide +kernel
