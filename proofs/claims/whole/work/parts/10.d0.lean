theorem dJ6_bitCount_0f7a4_0 : decode cJ6_bitCount_0f7a4 0 = .ok (.iload_n 0, 1) := by decide +kernel
theorem dJ6_bitCount_0f7a4_1 : decode cJ6_bitCount_0f7a4 1 = .ok (.iload_n 0, 1) := by decide +kernel
theorem dJ6_bitCount_0f7a4_2 : decode cJ6_bitCount_0f7a4 2 = .ok (.iconst 1, 1) := by decide +kernel
theorem dJ6_bitCount_0f7a4_3 : decode cJ6_bitCount_0f7a4 3 = .ok (.iushr, 1) := by decide +kernel
theorem dJ6_bitCount_0f7a4_4 : decode cJ6_bitCount_0f7a4 4 = .ok (.ldc_w 265, 3) := by decide +kernel
theorem dJ6_bitCount_0f7a4_7 : decode cJ6_bitCount_0f7a4 7 = .ok (.iand, 1) := by decide +kernel
theorem dJ6_bitCount_0f7a4_8 : decode cJ6_bitCount_0f7a4 8 = .ok (.isub, 1) := by decide +kernel
theorem dJ6_bitCount_0f7a4_9 : decode cJ6_bitCount_0f7a4 9 = .ok (.istore_n 0, 1) := by decide +kernel
theorem dJ6_bitCount_0f7a4_10 : decode cJ6_bitCount_0f7a4 10 = .ok (.iload_n 0, 1) := by decide +kernel
theorem dJ6_bitCount_0f7a4_11 : decode cJ6_bitCount_0f7a4 11 = .ok (.ldc_w 266, 3) := by decide +kernel
theorem dJ6_bitCount_0f7a4_14 : decode cJ6_bitCount_0f7a4 14 = .ok (.iand, 1) := by decide +kernel
theorem dJ6_bitCount_0f7a4_15 : decode cJ6_bitCount_0f7a4 15 = .ok (.iload_n 0, 1) := by decide +kernel
theorem dJ6_bitCount_0f7a4_16 : decode cJ6_bitCount_0f7a4 16 = .ok (.iconst 2, 1) := by decide +kernel
theorem dJ6_bitCount_0f7a4_17 : decode cJ6_bitCount_0f7a4 17 = .ok (.iushr, 1) := by decide +kernel
theorem dJ6_bitCount_0f7a4_18 : decode cJ6_bitCount_0f7a4 18 = .ok (.ldc_w 266, 3) := by decide +kernel
theorem dJ6_bitCount_0f7a4_21 : decode cJ6_bitCount_0f7a4 21 = .ok (.iand, 1) := by decide +kernel
theorem dJ6_bitCount_0f7a4_22 : decode cJ6_bitCount_0f7a4 22 = .ok (.iadd, 1) := by decide +kernel
theorem dJ6_bitCount_0f7a4_23 : decode cJ6_bitCount_0f7a4 23 = .ok (.istore_n 0, 1) := by decide +kernel
theorem dJ6_bitCount_0f7a4_24 : decode cJ6_bitCount_0f7a4 24 = .ok (.iload_n 0, 1) := by decide +kernel
theorem dJ6_bitCount_0f7a4_25 : decode cJ6_bitCount_0f7a4 25 = .ok (.iload_n 0, 1) := by decide +kernel
theorem dJ6_bitCount_0f7a4_26 : decode cJ6_bitCount_0f7a4 26 = .ok (.iconst 4, 1) := by decide +kernel
theorem dJ6_bitCount_0f7a4_27 : decode cJ6_bitCount_0f7a4 27 = .ok (.iushr, 1) := by decide +kernel
theorem dJ6_bitCount_0f7a4_28 : decode cJ6_bitCount_0f7a4 28 = .ok (.iadd, 1) := by decide +kernel
theorem dJ6_bitCount_0f7a4_29 : decode cJ6_bitCount_0f7a4 29 = .ok (.ldc_w 267, 3) := by decide +kernel
theorem dJ6_bitCount_0f7a4_32 : decode cJ6_bitCount_0f7a4 32 = .ok (.iand, 1) := by decide +kernel
theorem dJ6_bitCount_0f7a4_33 : decode cJ6_bitCount_0f7a4 33 = .ok (.istore_n 0, 1) := by decide +kernel
theorem dJ6_bitCount_0f7a4_34 : decode cJ6_bitCount_0f7a4 34 = .ok (.iload_n 0, 1) := by decide +kernel
theorem dJ6_bitCount_0f7a4_35 : decode cJ6_bitCount_0f7a4 35 = .ok (.iload_n 0, 1) := by decide +kernel
theorem dJ6_bitCount_0f7a4_36 : decode cJ6_bitCount_0f7a4 36 = .ok (.bipush 8, 2) := by decide +kernel
theorem dJ6_bitCount_0f7a4_38 : decode cJ6_bitCount_0f7a4 38 = .ok (.iushr, 1) := by decide +kernel
theorem dJ6_bitCount_0f7a4_39 : decode cJ6_bitCount_0f7a4 39 = .ok (.iadd, 1) := by decide +kernel
theorem dJ6_bitCount_0f7a4_40 : decode cJ6_bitCount_0f7a4 40 = .ok (.istore_n 0, 1) := by decide +kernel
theorem dJ6_bitCount_0f7a4_41 : decode cJ6_bitCount_0f7a4 41 = .ok (.iload_n 0, 1) := by decide +kernel
theorem dJ6_bitCount_0f7a4_42 : decode cJ6_bitCount_0f7a4 42 = .ok (.iload_n 0, 1) := by decide +kernel
theorem dJ6_bitCount_0f7a4_43 : decode cJ6_bitCount_0f7a4 43 = .ok (.bipush 16, 2) := by decide +kernel
theorem dJ6_bitCount_0f7a4_45 : decode cJ6_bitCount_0f7a4 45 = .ok (.iushr, 1) := by decide +kernel
theorem dJ6_bitCount_0f7a4_46 : decode cJ6_bitCount_0f7a4 46 = .ok (.iadd, 1) := by decide +kernel
theorem dJ6_bitCount_0f7a4_47 : decode cJ6_bitCount_0f7a4 47 = .ok (.istore_n 0, 1) := by decide +kernel
theorem dJ6_bitCount_0f7a4_48 : decode cJ6_bitCount_0f7a4 48 = .ok (.iload_n 0, 1) := by decide +kernel
theorem dJ6_bitCount_0f7a4_49 : decode cJ6_bitCount_0f7a4 49 = .ok (.bipush 63, 2) := by decide +kernel
theorem dJ6_bitCount_0f7a4_51 : decode cJ6_bitCount_0f7a4 51 = .ok (.iand, 1) := by decide +kernel
theorem dJ6_bitCount_0f7a4_52 : decode cJ6_bitCount_0f7a4 52 = .ok (.ireturn, 1) := by decide +kernel
theorem dJ7_fill_53178_0 : decode cJ7_fill_53178 0 = .ok (.iconst 0, 1) := by decide +kernel
theorem dJ7_fill_53178_1 : decode cJ7_fill_53178 1 = .ok (.istore_n 2, 1) := by decide +kernel
theorem dJ7_fill_53178_2 : decode cJ7_fill_53178 2 = .ok (.aload_n 0, 1) := by decide +kernel
theorem dJ7_fill_53178_3 : decode cJ7_fill_53178 3 = .ok (.arraylength, 1) := by decide +kernel
theorem dJ7_fill_53178_4 : decode cJ7_fill_53178 4 = .ok (.istore_n 3, 1) := by decide +kernel
theorem dJ7_fill_53178_5 : decode cJ7_fill_53178 5 = .ok (.iload_n 2, 1) := by decide +kernel
theorem dJ7_fill_53178_6 : decode cJ7_fill_53178 6 = .ok (.iload_n 3, 1) := by decide +kernel
theorem dJ7_fill_53178_7 : decode cJ7_fill_53178 7 = .ok (.if_icmp .ge 13, 3) := by decide +kernel
theorem dJ7_fill_53178_10 : decode cJ7_fill_53178 10 = .ok (.aload_n 0, 1) := by decide +kernel
theorem dJ7_fill_53178_11 : decode cJ7_fill_53178 11 = .ok (.iload_n 2, 1) := by decide +kernel
theorem dJ7_fill_53178_12 : decode cJ7_fill_53178 12 = .ok (.iload_n 1, 1) := by decide +kernel
theorem dJ7_fill_53178_13 : decode cJ7_fill_53178 13 = .ok (.iastore, 1) := by decide +kernel
theorem dJ7_fill_53178_14 : decode cJ7_fill_53178 14 = .ok (.iinc 2 1, 3) := by decide +kernel
theorem dJ7_fill_53178_17 : decode cJ7_fill_53178 17 = .ok (.goto (-12), 3) := by decide +kernel
theorem dJ7_fill_53178_20 : decode cJ7_fill_53178 20 = .ok (.return_, 1) := by decide +kernel
theorem dX0_init_0 : decode cX0_init 0 = .ok (.aload_n 0, 1) := by decide +kernel
theorem dX0_init_1 : decode cX0_init 1 = .ok (.invokespecial 3, 3) := by decide +kernel
theorem dX0_init_4 : decode cX0_init 4 = .ok (.return_, 1) := by decide +kernel
theorem dX0_set_0 : decode cX0_set 0 = .ok (.aload_n 0, 1) := by decide +kernel
theorem dX0_set_1 : decode cX0_set 1 = .ok (.iload_n 1, 1) := by decide +kernel
theorem dX0_set_2 : decode cX0_set 2 = .ok (.putfield 9, 3) := by decide +kernel
theorem dX0_set_5 : decode cX0_set 5 = .ok (.aload_n 0, 1) := by decide +kernel
theorem dX0_set_6 : decode cX0_set 6 = .ok (.iload_n 2, 1) := by decide +kernel
theorem dX0_set_7 : decode cX0_set 7 = .ok (.putfield 15, 3) := by decide +kernel
theorem dX0_set_10 : decode cX0_set 10 = .ok (.aload_n 0, 1) := by decide +kernel
theorem dX0_set_11 : decode cX0_set 11 = .ok (.iload_n 3, 1) := by decide +kernel
theorem dX0_set_12 : decode cX0_set 12 = .ok (.putfield 18, 3) := by decide +kernel
theorem dX0_set_15 : decode cX0_set 15 = .ok (.return_, 1) := by decide +kernel
set_option maxRecDepth 20000 in
theorem ggX0_takeFrom_X7_signAt : GoodIn wsX0_takeFrom wsX7_signAt := goodIn_r _ [5, 6, 7, 22, 23] (by decide +kernel) (by decide +kernel)
set_option maxRecDepth 20000 in
theorem gX0_takeFrom_X7_signAt : GoodIn wsX0_takeFrom (wsV RX0 21 RX7 yX7_signAt wsX7_signAt) := goodIn_app (goodIn_of _ (by decide +kernel)) ggX0_takeFrom_X7_signAt
set_option maxRecDepth 20000 in
theorem ggX0_takeFrom_X7_isHerd : GoodIn wsX0_takeFrom wsX7_isHerd := goodIn_r _ [10, 11, 12, 13] (by decide +kernel) (by decide +kernel)
set_option maxRecDepth 20000 in
theorem gX0_takeFrom_X7_isHerd : GoodIn wsX0_takeFrom (va_wsS RX0 27 yX7_isHerd wsX7_isHerd) := goodIn_app (goodIn_of _ (by decide +kernel)) ggX0_takeFrom_X7_isHerd
set_option maxRecDepth 20000 in
theorem ggX0_takeFrom_X0_set : GoodIn wsX0_takeFrom wsX0_set := goodIn_r _ [18, 19, 20, 21, 24, 25, 26] (by decide +kernel) (by decide +kernel)
set_option maxRecDepth 20000 in
theorem gX0_takeFrom_X0_set : GoodIn wsX0_takeFrom (wsV RX0 31 RX0 yX0_set wsX0_set) := goodIn_app (goodIn_of _ (by decide +kernel)) ggX0_takeFrom_X0_set
theorem dX0_takeFrom_0 : decode cX0_takeFrom 0 = .ok (.aload_n 1, 1) := by decide +kernel
theorem dX0_takeFrom_1 : decode cX0_takeFrom 1 = .ok (.iload_n 2, 1) := by decide +kernel
theorem dX0_takeFrom_2 : decode cX0_takeFrom 2 = .ok (.invokevirtual 21, 3) := by decide +kernel
theorem dX0_takeFrom_5 : decode cX0_takeFrom 5 = .ok (.istore_n 3, 1) := by decide +kernel
theorem dX0_takeFrom_6 : decode cX0_takeFrom 6 = .ok (.iload_n 3, 1) := by decide +kernel
theorem dX0_takeFrom_7 : decode cX0_takeFrom 7 = .ok (.invokestatic 27, 3) := by decide +kernel
theorem dX0_takeFrom_10 : decode cX0_takeFrom 10 = .ok (.ifCond .ne 25, 3) := by decide +kernel
theorem dX0_takeFrom_13 : decode cX0_takeFrom 13 = .ok (.aload_n 0, 1) := by decide +kernel
theorem dX0_takeFrom_14 : decode cX0_takeFrom 14 = .ok (.iload_n 3, 1) := by decide +kernel
theorem dX0_takeFrom_15 : decode cX0_takeFrom 15 = .ok (.bipush 46, 2) := by decide +kernel
theorem dX0_takeFrom_17 : decode cX0_takeFrom 17 = .ok (.if_icmp .ne 7, 3) := by decide +kernel
theorem dX0_takeFrom_20 : decode cX0_takeFrom 20 = .ok (.iconst 4, 1) := by decide +kernel
theorem dX0_takeFrom_21 : decode cX0_takeFrom 21 = .ok (.goto 4, 3) := by decide +kernel
theorem dX0_takeFrom_24 : decode cX0_takeFrom 24 = .ok (.iconst 0, 1) := by decide +kernel
theorem dX0_takeFrom_25 : decode cX0_takeFrom 25 = .ok (.iload_n 3, 1) := by decide +kernel
theorem dX0_takeFrom_26 : decode cX0_takeFrom 26 = .ok (.bipush 97, 2) := by decide +kernel
theorem dX0_takeFrom_28 : decode cX0_takeFrom 28 = .ok (.isub, 1) := by decide +kernel
theorem dX0_takeFrom_29 : decode cX0_takeFrom 29 = .ok (.iconst 0, 1) := by decide +kernel
theorem dX0_takeFrom_30 : decode cX0_takeFrom 30 = .ok (.invokevirtual 31, 3) := by decide +kernel
theorem dX0_takeFrom_33 : decode cX0_takeFrom 33 = .ok (.iconst 1, 1) := by decide +kernel
theorem dX0_takeFrom_34 : decode cX0_takeFrom 34 = .ok (.ireturn, 1) := by decide +kernel
theorem dX0_takeFrom_35 : decode cX0_takeFrom 35 = .ok (.aload_n 1, 1) := by decide +kernel
theorem dX0_takeFrom_36 : decode cX0_takeFrom 36 = .ok (.iload_n 2, 1) := by decide +kernel
theorem dX0_takeFrom_37 : decode cX0_takeFrom 37 = .ok (.iconst 1, 1) := by decide +kernel
theorem dX0_takeFrom_38 : decode cX0_takeFrom 38 = .ok (.iadd, 1) := by decide +kernel
theorem dX0_takeFrom_39 : decode cX0_takeFrom 39 = .ok (.invokevirtual 21, 3) := by decide +kernel
theorem dX0_takeFrom_42 : decode cX0_takeFrom 42 = .ok (.istore 4, 2) := by decide +kernel
theorem dX0_takeFrom_44 : decode cX0_takeFrom 44 = .ok (.iload 4, 2) := by decide +kernel
theorem dX0_takeFrom_46 : decode cX0_takeFrom 46 = .ok (.bipush 38, 2) := by decide +kernel
theorem dX0_takeFrom_48 : decode cX0_takeFrom 48 = .ok (.if_icmp .ne 24, 3) := by decide +kernel
theorem dX0_takeFrom_51 : decode cX0_takeFrom 51 = .ok (.aload_n 0, 1) := by decide +kernel
theorem dX0_takeFrom_52 : decode cX0_takeFrom 52 = .ok (.iconst 3, 1) := by decide +kernel
theorem dX0_takeFrom_53 : decode cX0_takeFrom 53 = .ok (.iload_n 3, 1) := by decide +kernel
theorem dX0_takeFrom_54 : decode cX0_takeFrom 54 = .ok (.bipush 65, 2) := by decide +kernel
theorem dX0_takeFrom_56 : decode cX0_takeFrom 56 = .ok (.isub, 1) := by decide +kernel
theorem dX0_takeFrom_57 : decode cX0_takeFrom 57 = .ok (.aload_n 1, 1) := by decide +kernel
theorem dX0_takeFrom_58 : decode cX0_takeFrom 58 = .ok (.iload_n 2, 1) := by decide +kernel
theorem dX0_takeFrom_59 : decode cX0_takeFrom 59 = .ok (.iconst 2, 1) := by decide +kernel
theorem dX0_takeFrom_60 : decode cX0_takeFrom 60 = .ok (.iadd, 1) := by decide +kernel
theorem dX0_takeFrom_61 : decode cX0_takeFrom 61 = .ok (.invokevirtual 21, 3) := by decide +kernel
theorem dX0_takeFrom_64 : decode cX0_takeFrom 64 = .ok (.bipush 65, 2) := by decide +kernel
theorem dX0_takeFrom_66 : decode cX0_takeFrom 66 = .ok (.isub, 1) := by decide +kernel
theorem dX0_takeFrom_67 : decode cX0_takeFrom 67 = .ok (.invokevirtual 31, 3) := by decide +kernel
theorem dX0_takeFrom_70 : decode cX0_takeFrom 70 = .ok (.iconst 3, 1) := by decide +kernel
theorem dX0_takeFrom_71 : decode cX0_takeFrom 71 = .ok (.ireturn, 1) := by decide +kernel
theorem dX0_takeFrom_72 : decode cX0_takeFrom 72 = .ok (.aload_n 0, 1) := by decide +kernel
theorem dX0_takeFrom_73 : decode cX0_takeFrom 73 = .ok (.iload 4, 2) := by decide +kernel
theorem dX0_takeFrom_75 : decode cX0_takeFrom 75 = .ok (.bipush 63, 2) := by decide +kernel
theorem dX0_takeFrom_77 : decode cX0_takeFrom 77 = .ok (.if_icmp .ne 7, 3) := by decide +kernel
theorem dX0_takeFrom_80 : decode cX0_takeFrom 80 = .ok (.iconst 1, 1) := by decide +kernel
theorem dX0_takeFrom_81 : decode cX0_takeFrom 81 = .ok (.goto 4, 3) := by decide +kernel
theorem dX0_takeFrom_84 : decode cX0_takeFrom 84 = .ok (.iconst 2, 1) := by decide +kernel
theorem dX0_takeFrom_85 : decode cX0_takeFrom 85 = .ok (.iload_n 3, 1) := by decide +kernel
theorem dX0_takeFrom_86 : decode cX0_takeFrom 86 = .ok (.bipush 65, 2) := by decide +kernel
theorem dX0_takeFrom_88 : decode cX0_takeFrom 88 = .ok (.isub, 1) := by decide +kernel
theorem dX0_takeFrom_89 : decode cX0_takeFrom 89 = .ok (.iconst 0, 1) := by decide +kernel
theorem dX0_takeFrom_90 : decode cX0_takeFrom 90 = .ok (.invokevirtual 31, 3) := by decide +kernel
theorem dX0_takeFrom_93 : decode cX0_takeFrom 93 = .ok (.iconst 2, 1) := by decide +kernel
theorem dX0_takeFrom_94 : decode cX0_takeFrom 94 = .ok (.ireturn, 1) := by decide +kernel
set_option maxRecDepth 20000 in
theorem ggX0_draw_X0_set : GoodIn wsX0_draw wsX0_set := goodIn_r _ [5, 6, 7, 8, 9, 10, 11] (by decide +kernel) (by decide +kernel)
set_option maxRecDepth 20000 in
theorem gX0_draw_X0_set : GoodIn wsX0_draw (wsV RX0 31 RX0 yX0_set wsX0_set) := goodIn_app (goodIn_of _ (by decide +kernel)) ggX0_draw_X0_set
theorem dX0_draw_0 : decode cX0_draw 0 = .ok (.iload_n 1, 1) := by decide +kernel
theorem dX0_draw_1 : decode cX0_draw 1 = .ok (.bipush 8, 2) := by decide +kernel
theorem dX0_draw_3 : decode cX0_draw 3 = .ok (.idiv, 1) := by decide +kernel
theorem dX0_draw_4 : decode cX0_draw 4 = .ok (.istore_n 2, 1) := by decide +kernel
theorem dX0_draw_5 : decode cX0_draw 5 = .ok (.iload_n 1, 1) := by decide +kernel
theorem dX0_draw_6 : decode cX0_draw 6 = .ok (.bipush 8, 2) := by decide +kernel
theorem dX0_draw_8 : decode cX0_draw 8 = .ok (.irem, 1) := by decide +kernel
theorem dX0_draw_9 : decode cX0_draw 9 = .ok (.tableswitch 86 4 7 #[31, 44, 57, 76], 31) := by decide +kernel
theorem dX0_draw_40 : decode cX0_draw 40 = .ok (.aload_n 0, 1) := by decide +kernel
theorem dX0_draw_41 : decode cX0_draw 41 = .ok (.iconst 1, 1) := by decide +kernel
theorem dX0_draw_42 : decode cX0_draw 42 = .ok (.iload_n 2, 1) := by decide +kernel
theorem dX0_draw_43 : decode cX0_draw 43 = .ok (.bipush 6, 2) := by decide +kernel
theorem dX0_draw_45 : decode cX0_draw 45 = .ok (.irem, 1) := by decide +kernel
theorem dX0_draw_46 : decode cX0_draw 46 = .ok (.iconst 0, 1) := by decide +kernel
theorem dX0_draw_47 : decode cX0_draw 47 = .ok (.invokevirtual 31, 3) := by decide +kernel
theorem dX0_draw_50 : decode cX0_draw 50 = .ok (.goto 55, 3) := by decide +kernel
theorem dX0_draw_53 : decode cX0_draw 53 = .ok (.aload_n 0, 1) := by decide +kernel
theorem dX0_draw_54 : decode cX0_draw 54 = .ok (.iconst 2, 1) := by decide +kernel
theorem dX0_draw_55 : decode cX0_draw 55 = .ok (.iload_n 2, 1) := by decide +kernel
theorem dX0_draw_56 : decode cX0_draw 56 = .ok (.bipush 6, 2) := by decide +kernel
theorem dX0_draw_58 : decode cX0_draw 58 = .ok (.irem, 1) := by decide +kernel
theorem dX0_draw_59 : decode cX0_draw 59 = .ok (.iconst 0, 1) := by decide +kernel
theorem dX0_draw_60 : decode cX0_draw 60 = .ok (.invokevirtual 31, 3) := by decide +kernel
theorem dX0_draw_63 : decode cX0_draw 63 = .ok (.goto 42, 3) := by decide +kernel
theorem dX0_draw_66 : decode cX0_draw 66 = .ok (.aload_n 0, 1) := by decide +kernel
theorem dX0_draw_67 : decode cX0_draw 67 = .ok (.iconst 3, 1) := by decide +kernel
theorem dX0_draw_68 : decode cX0_draw 68 = .ok (.iload_n 2, 1) := by decide +kernel
theorem dX0_draw_69 : decode cX0_draw 69 = .ok (.bipush 6, 2) := by decide +kernel
theorem dX0_draw_71 : decode cX0_draw 71 = .ok (.irem, 1) := by decide +kernel
theorem dX0_draw_72 : decode cX0_draw 72 = .ok (.iload_n 2, 1) := by decide +kernel
theorem dX0_draw_73 : decode cX0_draw 73 = .ok (.bipush 6, 2) := by decide +kernel
theorem dX0_draw_75 : decode cX0_draw 75 = .ok (.idiv, 1) := by decide +kernel
theorem dX0_draw_76 : decode cX0_draw 76 = .ok (.bipush 6, 2) := by decide +kernel
theorem dX0_draw_78 : decode cX0_draw 78 = .ok (.irem, 1) := by decide +kernel
theorem dX0_draw_79 : decode cX0_draw 79 = .ok (.invokevirtual 31, 3) := by decide +kernel
theorem dX0_draw_82 : decode cX0_draw 82 = .ok (.goto 23, 3) := by decide +kernel
theorem dX0_draw_85 : decode cX0_draw 85 = .ok (.aload_n 0, 1) := by decide +kernel
theorem dX0_draw_86 : decode cX0_draw 86 = .ok (.iconst 4, 1) := by decide +kernel
theorem dX0_draw_87 : decode cX0_draw 87 = .ok (.iconst 0, 1) := by decide +kernel
theorem dX0_draw_88 : decode cX0_draw 88 = .ok (.iconst 0, 1) := by decide +kernel
theorem dX0_draw_89 : decode cX0_draw 89 = .ok (.invokevirtual 31, 3) := by decide +kernel
theorem dX0_draw_92 : decode cX0_draw 92 = .ok (.goto 13, 3) := by decide +kernel
theorem dX0_draw_95 : decode cX0_draw 95 = .ok (.aload_n 0, 1) := by decide +kernel
theorem dX0_draw_96 : decode cX0_draw 96 = .ok (.iconst 0, 1) := by decide +kernel
theorem dX0_draw_97 : decode cX0_draw 97 = .ok (.iload_n 2, 1) := by decide +kernel
theorem dX0_draw_98 : decode cX0_draw 98 = .ok (.bipush 10, 2) := by decide +kernel
theorem dX0_draw_100 : decode cX0_draw 100 = .ok (.irem, 1) := by decide +kernel
theorem dX0_draw_101 : decode cX0_draw 101 = .ok (.iconst 0, 1) := by decide +kernel
theorem dX0_draw_102 : decode cX0_draw 102 = .ok (.invokevirtual 31, 3) := by decide +kernel
theorem dX0_draw_105 : decode cX0_draw 105 = .ok (.return_, 1) := by decide +kernel
theorem dX7_init_0 : decode cX7_init 0 = .ok (.aload_n 0, 1) := by decide +kernel
theorem dX7_init_1 : decode cX7_init 1 = .ok (.invokespecial 3, 3) := by decide +kernel
theorem dX7_init_4 : decode cX7_init 4 = .ok (.aload_n 0, 1) := by decide +kernel
theorem dX7_init_5 : decode cX7_init 5 = .ok (.bipush 60, 2) := by decide +kernel
theorem dX7_init_7 : decode cX7_init 7 = .ok (.newarray .int, 2) := by decide +kernel
theorem dX7_init_9 : decode cX7_init 9 = .ok (.putfield 11, 3) := by decide +kernel
theorem dX7_init_12 : decode cX7_init 12 = .ok (.return_, 1) := by decide +kernel
theorem dX7_write_0 : decode cX7_write 0 = .ok (.aload_n 0, 1) := by decide +kernel
theorem dX7_write_1 : decode cX7_write 1 = .ok (.getfield 15, 3) := by decide +kernel
theorem dX7_write_4 : decode cX7_write 4 = .ok (.bipush 60, 2) := by decide +kernel
theorem dX7_write_6 : decode cX7_write 6 = .ok (.if_icmp .lt 5, 3) := by decide +kernel
theorem dX7_write_9 : decode cX7_write 9 = .ok (.iconst 0, 1) := by decide +kernel
theorem dX7_write_10 : decode cX7_write 10 = .ok (.ireturn, 1) := by decide +kernel
theorem dX7_write_11 : decode cX7_write 11 = .ok (.aload_n 0, 1) := by decide +kernel
theorem dX7_write_12 : decode cX7_write 12 = .ok (.getfield 11, 3) := by decide +kernel
theorem dX7_write_15 : decode cX7_write 15 = .ok (.aload_n 0, 1) := by decide +kernel
theorem dX7_write_16 : decode cX7_write 16 = .ok (.getfield 15, 3) := by decide +kernel
theorem dX7_write_19 : decode cX7_write 19 = .ok (.iload_n 1, 1) := by decide +kernel
theorem dX7_write_20 : decode cX7_write 20 = .ok (.iastore, 1) := by decide +kernel
theorem dX7_write_21 : decode cX7_write 21 = .ok (.aload_n 0, 1) := by decide +kernel
theorem dX7_write_22 : decode cX7_write 22 = .ok (.dup, 1) := by decide +kernel
theorem dX7_write_23 : decode cX7_write 23 = .ok (.getfield 15, 3) := by decide +kernel
theorem dX7_write_26 : decode cX7_write 26 = .ok (.iconst 1, 1) := by decide +kernel
theorem dX7_write_27 : decode cX7_write 27 = .ok (.iadd, 1) := by decide +kernel
theorem dX7_write_28 : decode cX7_write 28 = .ok (.putfield 15, 3) := by decide +kernel
theorem dX7_write_31 : decode cX7_write 31 = .ok (.iconst 1, 1) := by decide +kernel
theorem dX7_write_32 : decode cX7_write 32 = .ok (.ireturn, 1) := by decide +kernel
theorem dX7_signAt_0 : decode cX7_signAt 0 = .ok (.iload_n 1, 1) := by decide +kernel
theorem dX7_signAt_1 : decode cX7_signAt 1 = .ok (.ifCond .lt 26, 3) := by decide +kernel
theorem dX7_signAt_4 : decode cX7_signAt 4 = .ok (.iload_n 1, 1) := by decide +kernel
theorem dX7_signAt_5 : decode cX7_signAt 5 = .ok (.aload_n 0, 1) := by decide +kernel
theorem dX7_signAt_6 : decode cX7_signAt 6 = .ok (.getfield 15, 3) := by decide +kernel
theorem dX7_signAt_9 : decode cX7_signAt 9 = .ok (.if_icmp .ge 18, 3) := by decide +kernel
theorem dX7_signAt_12 : decode cX7_signAt 12 = .ok (.iload_n 1, 1) := by decide +kernel
theorem dX7_signAt_13 : decode cX7_signAt 13 = .ok (.bipush 60, 2) := by decide +kernel
theorem dX7_signAt_15 : decode cX7_signAt 15 = .ok (.if_icmp .ge 12, 3) := by decide +kernel
theorem dX7_signAt_18 : decode cX7_signAt 18 = .ok (.aload_n 0, 1) := by decide +kernel
theorem dX7_signAt_19 : decode cX7_signAt 19 = .ok (.getfield 11, 3) := by decide +kernel
theorem dX7_signAt_22 : decode cX7_signAt 22 = .ok (.iload_n 1, 1) := by decide +kernel
theorem dX7_signAt_23 : decode cX7_signAt 23 = .ok (.iaload, 1) := by decide +kernel
theorem dX7_signAt_24 : decode cX7_signAt 24 = .ok (.goto 4, 3) := by decide +kernel
theorem dX7_signAt_27 : decode cX7_signAt 27 = .ok (.iconst 0, 1) := by decide +kernel
theorem dX7_signAt_28 : decode cX7_signAt 28 = .ok (.ireturn, 1) := by decide +kernel
set_option maxRecDepth 20000 in
theorem ggX7_faultPlace_X7_awaitedBehind : GoodIn wsX7_faultPlace wsX7_awaitedBehind := goodIn_r _ [6, 7, 8, 5, 9, 10, 11, 12, 13, 14, 15] (by decide +kernel) (by decide +kernel)
set_option maxRecDepth 20000 in
theorem gX7_faultPlace_X7_awaitedBehind : GoodIn wsX7_faultPlace (va_wsS RX7 19 yX7_awaitedBehind wsX7_awaitedBehind) := goodIn_app (goodIn_of _ (by decide +kernel)) ggX7_faultPlace_X7_awaitedBehind
theorem dX7_faultPlace_0 : decode cX7_faultPlace 0 = .ok (.iconst 0, 1) := by decide +kernel
theorem dX7_faultPlace_1 : decode cX7_faultPlace 1 = .ok (.istore_n 1, 1) := by decide +kernel
theorem dX7_faultPlace_2 : decode cX7_faultPlace 2 = .ok (.iconst 0, 1) := by decide +kernel
theorem dX7_faultPlace_3 : decode cX7_faultPlace 3 = .ok (.istore_n 2, 1) := by decide +kernel
theorem dX7_faultPlace_4 : decode cX7_faultPlace 4 = .ok (.iload_n 2, 1) := by decide +kernel
theorem dX7_faultPlace_5 : decode cX7_faultPlace 5 = .ok (.aload_n 0, 1) := by decide +kernel
theorem dX7_faultPlace_6 : decode cX7_faultPlace 6 = .ok (.getfield 15, 3) := by decide +kernel
theorem dX7_faultPlace_9 : decode cX7_faultPlace 9 = .ok (.if_icmp .ge 33, 3) := by decide +kernel
theorem dX7_faultPlace_12 : decode cX7_faultPlace 12 = .ok (.iload_n 2, 1) := by decide +kernel
theorem dX7_faultPlace_13 : decode cX7_faultPlace 13 = .ok (.bipush 60, 2) := by decide +kernel
theorem dX7_faultPlace_15 : decode cX7_faultPlace 15 = .ok (.if_icmp .ge 27, 3) := by decide +kernel
theorem dX7_faultPlace_18 : decode cX7_faultPlace 18 = .ok (.iload_n 1, 1) := by decide +kernel
theorem dX7_faultPlace_19 : decode cX7_faultPlace 19 = .ok (.aload_n 0, 1) := by decide +kernel
theorem dX7_faultPlace_20 : decode cX7_faultPlace 20 = .ok (.getfield 11, 3) := by decide +kernel
theorem dX7_faultPlace_23 : decode cX7_faultPlace 23 = .ok (.iload_n 2, 1) := by decide +kernel
theorem dX7_faultPlace_24 : decode cX7_faultPlace 24 = .ok (.iaload, 1) := by decide +kernel
theorem dX7_faultPlace_25 : decode cX7_faultPlace 25 = .ok (.invokestatic 19, 3) := by decide +kernel
theorem dX7_faultPlace_28 : decode cX7_faultPlace 28 = .ok (.istore_n 1, 1) := by decide +kernel
theorem dX7_faultPlace_29 : decode cX7_faultPlace 29 = .ok (.iload_n 1, 1) := by decide +kernel
theorem dX7_faultPlace_30 : decode cX7_faultPlace 30 = .ok (.iconst 3, 1) := by decide +kernel
theorem dX7_faultPlace_31 : decode cX7_faultPlace 31 = .ok (.if_icmp .ne 5, 3) := by decide +kernel
theorem dX7_faultPlace_34 : decode cX7_faultPlace 34 = .ok (.iload_n 2, 1) := by decide +kernel
theorem dX7_faultPlace_35 : decode cX7_faultPlace 35 = .ok (.ireturn, 1) := by decide +kernel
theorem dX7_faultPlace_36 : decode cX7_faultPlace 36 = .ok (.iinc 2 1, 3) := by decide +kernel
theorem dX7_faultPlace_39 : decode cX7_faultPlace 39 = .ok (.goto (-35), 3) := by decide +kernel
theorem dX7_faultPlace_42 : decode cX7_faultPlace 42 = .ok (.iload_n 1, 1) := by decide +kernel
theorem dX7_faultPlace_43 : decode cX7_faultPlace 43 = .ok (.ifCond .ne 8, 3) := by decide +kernel
theorem dX7_faultPlace_46 : decode cX7_faultPlace 46 = .ok (.bipush (-6), 2) := by decide +kernel
theorem dX7_faultPlace_48 : decode cX7_faultPlace 48 = .ok (.goto 7, 3) := by decide +kernel
theorem dX7_faultPlace_51 : decode cX7_faultPlace 51 = .ok (.aload_n 0, 1) := by decide +kernel
theorem dX7_faultPlace_52 : decode cX7_faultPlace 52 = .ok (.getfield 15, 3) := by decide +kernel
theorem dX7_faultPlace_55 : decode cX7_faultPlace 55 = .ok (.ireturn, 1) := by decide +kernel
set_option maxRecDepth 20000 in
theorem ggX7_awaitedBehind_X7_isHerd : GoodIn wsX7_awaitedBehind wsX7_isHerd := goodIn_r _ [4, 5, 6, 7] (by decide +kernel) (by decide +kernel)
set_option maxRecDepth 20000 in
theorem gX7_awaitedBehind_X7_isHerd : GoodIn wsX7_awaitedBehind (va_wsS RX7 23 yX7_isHerd wsX7_isHerd) := goodIn_app (goodIn_of _ (by decide +kernel)) ggX7_awaitedBehind_X7_isHerd
set_option maxRecDepth 20000 in
theorem ggX7_awaitedBehind_X7_isClause : GoodIn wsX7_awaitedBehind wsX7_isClause := goodIn_r _ [10, 5, 6, 7] (by decide +kernel) (by decide +kernel)
set_option maxRecDepth 20000 in
theorem gX7_awaitedBehind_X7_isClause : GoodIn wsX7_awaitedBehind (va_wsS RX7 27 yX7_isClause wsX7_isClause) := goodIn_app (goodIn_of _ (by decide +kernel)) ggX7_awaitedBehind_X7_isClause
theorem dX7_awaitedBehind_0 : decode cX7_awaitedBehind 0 = .ok (.iload_n 0, 1) := by decide +kernel
theorem dX7_awaitedBehind_1 : decode cX7_awaitedBehind 1 = .ok (.ifCond .ne 31, 3) := by decide +kernel
theorem dX7_awaitedBehind_4 : decode cX7_awaitedBehind 4 = .ok (.iload_n 1, 1) := by decide +kernel
theorem dX7_awaitedBehind_5 : decode cX7_awaitedBehind 5 = .ok (.invokestatic 23, 3) := by decide +kernel
theorem dX7_awaitedBehind_8 : decode cX7_awaitedBehind 8 = .ok (.ifCond .eq 5, 3) := by decide +kernel
theorem dX7_awaitedBehind_11 : decode cX7_awaitedBehind 11 = .ok (.iconst 1, 1) := by decide +kernel
theorem dX7_awaitedBehind_12 : decode cX7_awaitedBehind 12 = .ok (.ireturn, 1) := by decide +kernel
theorem dX7_awaitedBehind_13 : decode cX7_awaitedBehind 13 = .ok (.iload_n 1, 1) := by decide +kernel
theorem dX7_awaitedBehind_14 : decode cX7_awaitedBehind 14 = .ok (.invokestatic 27, 3) := by decide +kernel
theorem dX7_awaitedBehind_17 : decode cX7_awaitedBehind 17 = .ok (.ifCond .ne 9, 3) := by decide +kernel
theorem dX7_awaitedBehind_20 : decode cX7_awaitedBehind 20 = .ok (.iload_n 1, 1) := by decide +kernel
theorem dX7_awaitedBehind_21 : decode cX7_awaitedBehind 21 = .ok (.bipush 46, 2) := by decide +kernel
theorem dX7_awaitedBehind_23 : decode cX7_awaitedBehind 23 = .ok (.if_icmp .ne 7, 3) := by decide +kernel
theorem dX7_awaitedBehind_26 : decode cX7_awaitedBehind 26 = .ok (.iconst 0, 1) := by decide +kernel
theorem dX7_awaitedBehind_27 : decode cX7_awaitedBehind 27 = .ok (.goto 4, 3) := by decide +kernel
theorem dX7_awaitedBehind_30 : decode cX7_awaitedBehind 30 = .ok (.iconst 3, 1) := by decide +kernel
theorem dX7_awaitedBehind_31 : decode cX7_awaitedBehind 31 = .ok (.ireturn, 1) := by decide +kernel
theorem dX7_awaitedBehind_32 : decode cX7_awaitedBehind 32 = .ok (.iload_n 0, 1) := by decide +kernel
theorem dX7_awaitedBehind_33 : decode cX7_awaitedBehind 33 = .ok (.iconst 1, 1) := by decide +kernel
theorem dX7_awaitedBehind_34 : decode cX7_awaitedBehind 34 = .ok (.if_icmp .ne 29, 3) := by decide +kernel
theorem dX7_awaitedBehind_37 : decode cX7_awaitedBehind 37 = .ok (.iload_n 1, 1) := by decide +kernel
theorem dX7_awaitedBehind_38 : decode cX7_awaitedBehind 38 = .ok (.bipush 38, 2) := by decide +kernel
theorem dX7_awaitedBehind_40 : decode cX7_awaitedBehind 40 = .ok (.if_icmp .ne 5, 3) := by decide +kernel
theorem dX7_awaitedBehind_43 : decode cX7_awaitedBehind 43 = .ok (.iconst 2, 1) := by decide +kernel
theorem dX7_awaitedBehind_44 : decode cX7_awaitedBehind 44 = .ok (.ireturn, 1) := by decide +kernel
theorem dX7_awaitedBehind_45 : decode cX7_awaitedBehind 45 = .ok (.iload_n 1, 1) := by decide +kernel
theorem dX7_awaitedBehind_46 : decode cX7_awaitedBehind 46 = .ok (.bipush 63, 2) := by decide +kernel
theorem dX7_awaitedBehind_48 : decode cX7_awaitedBehind 48 = .ok (.if_icmp .eq 9, 3) := by decide +kernel
theorem dX7_awaitedBehind_51 : decode cX7_awaitedBehind 51 = .ok (.iload_n 1, 1) := by decide +kernel
theorem dX7_awaitedBehind_52 : decode cX7_awaitedBehind 52 = .ok (.bipush 33, 2) := by decide +kernel
theorem dX7_awaitedBehind_54 : decode cX7_awaitedBehind 54 = .ok (.if_icmp .ne 7, 3) := by decide +kernel
theorem dX7_awaitedBehind_57 : decode cX7_awaitedBehind 57 = .ok (.iconst 0, 1) := by decide +kernel
theorem dX7_awaitedBehind_58 : decode cX7_awaitedBehind 58 = .ok (.goto 4, 3) := by decide +kernel
theorem dX7_awaitedBehind_61 : decode cX7_awaitedBehind 61 = .ok (.iconst 3, 1) := by decide +kernel
theorem dX7_awaitedBehind_62 : decode cX7_awaitedBehind 62 = .ok (.ireturn, 1) := by decide +kernel
theorem dX7_awaitedBehind_63 : decode cX7_awaitedBehind 63 = .ok (.iload_n 1, 1) := by decide +kernel
theorem dX7_awaitedBehind_64 : decode cX7_awaitedBehind 64 = .ok (.invokestatic 23, 3) := by decide +kernel
theorem dX7_awaitedBehind_67 : decode cX7_awaitedBehind 67 = .ok (.ifCond .eq 7, 3) := by decide +kernel
theorem dX7_awaitedBehind_70 : decode cX7_awaitedBehind 70 = .ok (.iconst 0, 1) := by decide +kernel
theorem dX7_awaitedBehind_71 : decode cX7_awaitedBehind 71 = .ok (.goto 4, 3) := by decide +kernel
theorem dX7_awaitedBehind_74 : decode cX7_awaitedBehind 74 = .ok (.iconst 3, 1) := by decide +kernel
theorem dX7_awaitedBehind_75 : decode cX7_awaitedBehind 75 = .ok (.ireturn, 1) := by decide +kernel
set_option maxRecDepth 20000 in
theorem ggX7_isHerd_X11_within : GoodIn wsX7_isHerd wsX11_within := goodIn_r _ [3] (by decide +kernel) (by decide +kernel)
set_option maxRecDepth 20000 in
theorem gX7_isHerd_X11_within_n30 : GoodIn wsX7_isHerd (wsX11_within) := ggX7_isHerd_X11_within
theorem dX7_isHerd_0 : decode cX7_isHerd 0 = .ok (.iload_n 0, 1) := by decide +kernel
theorem dX7_isHerd_1 : decode cX7_isHerd 1 = .ok (.bipush 65, 2) := by decide +kernel
theorem dX7_isHerd_3 : decode cX7_isHerd 3 = .ok (.bipush 70, 2) := by decide +kernel
theorem dX7_isHerd_5 : decode cX7_isHerd 5 = .ok (.invokestatic 30, 3) := by decide +kernel
theorem dX7_isHerd_8 : decode cX7_isHerd 8 = .ok (.ireturn, 1) := by decide +kernel
set_option maxRecDepth 20000 in
theorem ggX7_isClause_X11_within : GoodIn wsX7_isClause wsX11_within := goodIn_r _ [3] (by decide +kernel) (by decide +kernel)
set_option maxRecDepth 20000 in
theorem gX7_isClause_X11_within_n30 : GoodIn wsX7_isClause (wsX11_within) := ggX7_isClause_X11_within
theorem dX7_isClause_0 : decode cX7_isClause 0 = .ok (.iload_n 0, 1) := by decide +kernel
theorem dX7_isClause_1 : decode cX7_isClause 1 = .ok (.bipush 97, 2) := by decide +kernel
theorem dX7_isClause_3 : decode cX7_isClause 3 = .ok (.bipush 106, 2) := by decide +kernel
theorem dX7_isClause_5 : decode cX7_isClause 5 = .ok (.invokestatic 30, 3) := by decide +kernel
theorem dX7_isClause_8 : decode cX7_isClause 8 = .ok (.ireturn, 1) := by decide +kernel
theorem dX11_within_0 : decode cX11_within 0 = .ok (.iload_n 0, 1) := by decide +kernel
theorem dX11_within_1 : decode cX11_within 1 = .ok (.iload_n 1, 1) := by decide +kernel
theorem dX11_within_2 : decode cX11_within 2 = .ok (.if_icmp .lt 12, 3) := by decide +kernel
theorem dX11_within_5 : decode cX11_within 5 = .ok (.iload_n 0, 1) := by decide +kernel
theorem dX11_within_6 : decode cX11_within 6 = .ok (.iload_n 2, 1) := by decide +kernel
theorem dX11_within_7 : decode cX11_within 7 = .ok (.if_icmp .gt 7, 3) := by decide +kernel
theorem dX11_within_10 : decode cX11_within 10 = .ok (.iconst 1, 1) := by decide +kernel
theorem dX11_within_11 : decode cX11_within 11 = .ok (.goto 4, 3) := by decide +kernel
theorem dX11_within_14 : decode cX11_within 14 = .ok (.iconst 0, 1) := by decide +kernel
theorem dX11_within_15 : decode cX11_within 15 = .ok (.ireturn, 1) := by decide +kernel
