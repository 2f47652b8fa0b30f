theorem dX12_init_0 : decode cX12_init 0 = .ok (.aload_n 0, 1) := by decide +kernel
theorem dX12_init_1 : decode cX12_init 1 = .ok (.invokespecial 1, 3) := by decide +kernel
theorem dX12_init_4 : decode cX12_init 4 = .ok (.aload_n 0, 1) := by decide +kernel
theorem dX12_init_5 : decode cX12_init 5 = .ok (.bipush 21, 2) := by decide +kernel
theorem dX12_init_7 : decode cX12_init 7 = .ok (.newarray .int, 2) := by decide +kernel
theorem dX12_init_9 : decode cX12_init 9 = .ok (.putfield 7, 3) := by decide +kernel
theorem dX12_init_12 : decode cX12_init 12 = .ok (.aload_n 0, 1) := by decide +kernel
theorem dX12_init_13 : decode cX12_init 13 = .ok (.bipush 21, 2) := by decide +kernel
theorem dX12_init_15 : decode cX12_init 15 = .ok (.newarray .int, 2) := by decide +kernel
theorem dX12_init_17 : decode cX12_init 17 = .ok (.putfield 13, 3) := by decide +kernel
theorem dX12_init_20 : decode cX12_init 20 = .ok (.aload_n 0, 1) := by decide +kernel
theorem dX12_init_21 : decode cX12_init 21 = .ok (.bipush 6, 2) := by decide +kernel
theorem dX12_init_23 : decode cX12_init 23 = .ok (.newarray .int, 2) := by decide +kernel
theorem dX12_init_25 : decode cX12_init 25 = .ok (.putfield 16, 3) := by decide +kernel
theorem dX12_init_28 : decode cX12_init 28 = .ok (.aload_n 0, 1) := by decide +kernel
theorem dX12_init_29 : decode cX12_init 29 = .ok (.bipush 10, 2) := by decide +kernel
theorem dX12_init_31 : decode cX12_init 31 = .ok (.newarray .int, 2) := by decide +kernel
theorem dX12_init_33 : decode cX12_init 33 = .ok (.putfield 19, 3) := by decide +kernel
theorem dX12_init_36 : decode cX12_init 36 = .ok (.aload_n 0, 1) := by decide +kernel
theorem dX12_init_37 : decode cX12_init 37 = .ok (.bipush 10, 2) := by decide +kernel
theorem dX12_init_39 : decode cX12_init 39 = .ok (.newarray .int, 2) := by decide +kernel
theorem dX12_init_41 : decode cX12_init 41 = .ok (.putfield 22, 3) := by decide +kernel
theorem dX12_init_44 : decode cX12_init 44 = .ok (.aload_n 0, 1) := by decide +kernel
theorem dX12_init_45 : decode cX12_init 45 = .ok (.bipush 6, 2) := by decide +kernel
theorem dX12_init_47 : decode cX12_init 47 = .ok (.newarray .int, 2) := by decide +kernel
theorem dX12_init_49 : decode cX12_init 49 = .ok (.putfield 25, 3) := by decide +kernel
theorem dX12_init_52 : decode cX12_init 52 = .ok (.aload_n 0, 1) := by decide +kernel
theorem dX12_init_53 : decode cX12_init 53 = .ok (.bipush 16, 2) := by decide +kernel
theorem dX12_init_55 : decode cX12_init 55 = .ok (.newarray .int, 2) := by decide +kernel
theorem dX12_init_57 : decode cX12_init 57 = .ok (.putfield 28, 3) := by decide +kernel
theorem dX12_init_60 : decode cX12_init 60 = .ok (.aload_n 0, 1) := by decide +kernel
theorem dX12_init_61 : decode cX12_init 61 = .ok (.bipush 60, 2) := by decide +kernel
theorem dX12_init_63 : decode cX12_init 63 = .ok (.newarray .int, 2) := by decide +kernel
theorem dX12_init_65 : decode cX12_init 65 = .ok (.putfield 31, 3) := by decide +kernel
theorem dX12_init_68 : decode cX12_init 68 = .ok (.aload_n 0, 1) := by decide +kernel
theorem dX12_init_69 : decode cX12_init 69 = .ok (.sipush 400, 3) := by decide +kernel
theorem dX12_init_72 : decode cX12_init 72 = .ok (.newarray .int, 2) := by decide +kernel
theorem dX12_init_74 : decode cX12_init 74 = .ok (.putfield 34, 3) := by decide +kernel
theorem dX12_init_77 : decode cX12_init 77 = .ok (.aload_n 0, 1) := by decide +kernel
theorem dX12_init_78 : decode cX12_init 78 = .ok (.sipush 400, 3) := by decide +kernel
theorem dX12_init_81 : decode cX12_init 81 = .ok (.newarray .int, 2) := by decide +kernel
theorem dX12_init_83 : decode cX12_init 83 = .ok (.putfield 37, 3) := by decide +kernel
theorem dX12_init_86 : decode cX12_init 86 = .ok (.aload_n 0, 1) := by decide +kernel
theorem dX12_init_87 : decode cX12_init 87 = .ok (.bipush 6, 2) := by decide +kernel
theorem dX12_init_89 : decode cX12_init 89 = .ok (.newarray .int, 2) := by decide +kernel
theorem dX12_init_91 : decode cX12_init 91 = .ok (.putfield 40, 3) := by decide +kernel
theorem dX12_init_94 : decode cX12_init 94 = .ok (.aload_n 0, 1) := by decide +kernel
theorem dX12_init_95 : decode cX12_init 95 = .ok (.sipush 1024, 3) := by decide +kernel
theorem dX12_init_98 : decode cX12_init 98 = .ok (.newarray .int, 2) := by decide +kernel
theorem dX12_init_100 : decode cX12_init 100 = .ok (.putfield 43, 3) := by decide +kernel
theorem dX12_init_103 : decode cX12_init 103 = .ok (.aload_n 0, 1) := by decide +kernel
theorem dX12_init_104 : decode cX12_init 104 = .ok (.sipush 160, 3) := by decide +kernel
theorem dX12_init_107 : decode cX12_init 107 = .ok (.newarray .int, 2) := by decide +kernel
theorem dX12_init_109 : decode cX12_init 109 = .ok (.putfield 46, 3) := by decide +kernel
theorem dX12_init_112 : decode cX12_init 112 = .ok (.aload_n 0, 1) := by decide +kernel
theorem dX12_init_113 : decode cX12_init 113 = .ok (.iconst 2, 1) := by decide +kernel
theorem dX12_init_114 : decode cX12_init 114 = .ok (.newarray .boolean, 2) := by decide +kernel
theorem dX12_init_116 : decode cX12_init 116 = .ok (.putfield 49, 3) := by decide +kernel
theorem dX12_init_119 : decode cX12_init 119 = .ok (.iconst 0, 1) := by decide +kernel
theorem dX12_init_120 : decode cX12_init 120 = .ok (.istore_n 1, 1) := by decide +kernel
theorem dX12_init_121 : decode cX12_init 121 = .ok (.iload_n 1, 1) := by decide +kernel
theorem dX12_init_122 : decode cX12_init 122 = .ok (.bipush 10, 2) := by decide +kernel
theorem dX12_init_124 : decode cX12_init 124 = .ok (.if_icmp .ge 16, 3) := by decide +kernel
theorem dX12_init_127 : decode cX12_init 127 = .ok (.aload_n 0, 1) := by decide +kernel
theorem dX12_init_128 : decode cX12_init 128 = .ok (.getfield 19, 3) := by decide +kernel
theorem dX12_init_131 : decode cX12_init 131 = .ok (.iload_n 1, 1) := by decide +kernel
theorem dX12_init_132 : decode cX12_init 132 = .ok (.iconst 3, 1) := by decide +kernel
theorem dX12_init_133 : decode cX12_init 133 = .ok (.iastore, 1) := by decide +kernel
theorem dX12_init_134 : decode cX12_init 134 = .ok (.iinc 1 1, 3) := by decide +kernel
theorem dX12_init_137 : decode cX12_init 137 = .ok (.goto (-16), 3) := by decide +kernel
theorem dX12_init_140 : decode cX12_init 140 = .ok (.iconst 0, 1) := by decide +kernel
theorem dX12_init_141 : decode cX12_init 141 = .ok (.istore_n 1, 1) := by decide +kernel
theorem dX12_init_142 : decode cX12_init 142 = .ok (.iload_n 1, 1) := by decide +kernel
theorem dX12_init_143 : decode cX12_init 143 = .ok (.bipush 6, 2) := by decide +kernel
theorem dX12_init_145 : decode cX12_init 145 = .ok (.if_icmp .ge 17, 3) := by decide +kernel
theorem dX12_init_148 : decode cX12_init 148 = .ok (.aload_n 0, 1) := by decide +kernel
theorem dX12_init_149 : decode cX12_init 149 = .ok (.getfield 25, 3) := by decide +kernel
theorem dX12_init_152 : decode cX12_init 152 = .ok (.iload_n 1, 1) := by decide +kernel
theorem dX12_init_153 : decode cX12_init 153 = .ok (.bipush 63, 2) := by decide +kernel
theorem dX12_init_155 : decode cX12_init 155 = .ok (.iastore, 1) := by decide +kernel
theorem dX12_init_156 : decode cX12_init 156 = .ok (.iinc 1 1, 3) := by decide +kernel
theorem dX12_init_159 : decode cX12_init 159 = .ok (.goto (-17), 3) := by decide +kernel
theorem dX12_init_162 : decode cX12_init 162 = .ok (.return_, 1) := by decide +kernel
theorem dX12_in_0 : decode cX12_in 0 = .ok (.iload_n 0, 1) := by decide +kernel
theorem dX12_in_1 : decode cX12_in 1 = .ok (.iload_n 1, 1) := by decide +kernel
theorem dX12_in_2 : decode cX12_in 2 = .ok (.if_icmp .lt 12, 3) := by decide +kernel
theorem dX12_in_5 : decode cX12_in 5 = .ok (.iload_n 0, 1) := by decide +kernel
theorem dX12_in_6 : decode cX12_in 6 = .ok (.iload_n 2, 1) := by decide +kernel
theorem dX12_in_7 : decode cX12_in 7 = .ok (.if_icmp .gt 7, 3) := by decide +kernel
theorem dX12_in_10 : decode cX12_in 10 = .ok (.iconst 1, 1) := by decide +kernel
theorem dX12_in_11 : decode cX12_in 11 = .ok (.goto 4, 3) := by decide +kernel
theorem dX12_in_14 : decode cX12_in 14 = .ok (.iconst 0, 1) := by decide +kernel
theorem dX12_in_15 : decode cX12_in 15 = .ok (.ireturn, 1) := by decide +kernel
theorem dX12_has_0 : decode cX12_has 0 = .ok (.iload_n 0, 1) := by decide +kernel
theorem dX12_has_1 : decode cX12_has 1 = .ok (.iload_n 1, 1) := by decide +kernel
theorem dX12_has_2 : decode cX12_has 2 = .ok (.ishr, 1) := by decide +kernel
theorem dX12_has_3 : decode cX12_has 3 = .ok (.iconst 1, 1) := by decide +kernel
theorem dX12_has_4 : decode cX12_has 4 = .ok (.iand, 1) := by decide +kernel
theorem dX12_has_5 : decode cX12_has 5 = .ok (.iconst 1, 1) := by decide +kernel
theorem dX12_has_6 : decode cX12_has 6 = .ok (.if_icmp .ne 7, 3) := by decide +kernel
theorem dX12_has_9 : decode cX12_has 9 = .ok (.iconst 1, 1) := by decide +kernel
theorem dX12_has_10 : decode cX12_has 10 = .ok (.goto 4, 3) := by decide +kernel
theorem dX12_has_13 : decode cX12_has 13 = .ok (.iconst 0, 1) := by decide +kernel
theorem dX12_has_14 : decode cX12_has 14 = .ok (.ireturn, 1) := by decide +kernel
theorem dX12_bits_0 : decode cX12_bits 0 = .ok (.iconst 0, 1) := by decide +kernel
theorem dX12_bits_1 : decode cX12_bits 1 = .ok (.istore_n 1, 1) := by decide +kernel
theorem dX12_bits_2 : decode cX12_bits 2 = .ok (.iconst 0, 1) := by decide +kernel
theorem dX12_bits_3 : decode cX12_bits 3 = .ok (.istore_n 2, 1) := by decide +kernel
theorem dX12_bits_4 : decode cX12_bits 4 = .ok (.iload_n 2, 1) := by decide +kernel
theorem dX12_bits_5 : decode cX12_bits 5 = .ok (.bipush 10, 2) := by decide +kernel
theorem dX12_bits_7 : decode cX12_bits 7 = .ok (.if_icmp .ge 17, 3) := by decide +kernel
theorem dX12_bits_10 : decode cX12_bits 10 = .ok (.iload_n 1, 1) := by decide +kernel
theorem dX12_bits_11 : decode cX12_bits 11 = .ok (.iload_n 0, 1) := by decide +kernel
theorem dX12_bits_12 : decode cX12_bits 12 = .ok (.iload_n 2, 1) := by decide +kernel
theorem dX12_bits_13 : decode cX12_bits 13 = .ok (.ishr, 1) := by decide +kernel
theorem dX12_bits_14 : decode cX12_bits 14 = .ok (.iconst 1, 1) := by decide +kernel
theorem dX12_bits_15 : decode cX12_bits 15 = .ok (.iand, 1) := by decide +kernel
theorem dX12_bits_16 : decode cX12_bits 16 = .ok (.iadd, 1) := by decide +kernel
theorem dX12_bits_17 : decode cX12_bits 17 = .ok (.istore_n 1, 1) := by decide +kernel
theorem dX12_bits_18 : decode cX12_bits 18 = .ok (.iinc 2 1, 3) := by decide +kernel
theorem dX12_bits_21 : decode cX12_bits 21 = .ok (.goto (-17), 3) := by decide +kernel
theorem dX12_bits_24 : decode cX12_bits 24 = .ok (.iload_n 1, 1) := by decide +kernel
theorem dX12_bits_25 : decode cX12_bits 25 = .ok (.ireturn, 1) := by decide +kernel
set_option maxRecDepth 20000 in
theorem ggX12_isClause_X12_in : GoodIn wsX12_isClause wsX12_in := goodIn_r _ [4] (by decide +kernel) (by decide +kernel)
set_option maxRecDepth 20000 in
theorem gX12_isClause_X12_in : GoodIn wsX12_isClause (va_wsS RX12 53 yX12_in wsX12_in) := goodIn_app (goodIn_of _ (by decide +kernel)) ggX12_isClause_X12_in
theorem dX12_isClause_0 : decode cX12_isClause 0 = .ok (.iload_n 0, 1) := by decide +kernel
theorem dX12_isClause_1 : decode cX12_isClause 1 = .ok (.iconst 0, 1) := by decide +kernel
theorem dX12_isClause_2 : decode cX12_isClause 2 = .ok (.bipush 9, 2) := by decide +kernel
theorem dX12_isClause_4 : decode cX12_isClause 4 = .ok (.invokestatic 53, 3) := by decide +kernel
theorem dX12_isClause_7 : decode cX12_isClause 7 = .ok (.ireturn, 1) := by decide +kernel
set_option maxRecDepth 20000 in
theorem ggX12_isThere_X12_in : GoodIn wsX12_isThere wsX12_in := goodIn_r _ [5] (by decide +kernel) (by decide +kernel)
set_option maxRecDepth 20000 in
theorem gX12_isThere_X12_in : GoodIn wsX12_isThere (va_wsS RX12 53 yX12_in wsX12_in) := goodIn_app (goodIn_of _ (by decide +kernel)) ggX12_isThere_X12_in
set_option maxRecDepth 20000 in
theorem ggX12_isThere_X12_has : GoodIn wsX12_isThere wsX12_has := goodIn_r _ [8] (by decide +kernel) (by decide +kernel)
set_option maxRecDepth 20000 in
theorem gX12_isThere_X12_has : GoodIn wsX12_isThere (va_wsS RX12 57 yX12_has wsX12_has) := goodIn_app (goodIn_of _ (by decide +kernel)) ggX12_isThere_X12_has
theorem dX12_isThere_0 : decode cX12_isThere 0 = .ok (.iload_n 1, 1) := by decide +kernel
theorem dX12_isThere_1 : decode cX12_isThere 1 = .ok (.iconst 0, 1) := by decide +kernel
theorem dX12_isThere_2 : decode cX12_isThere 2 = .ok (.iconst 5, 1) := by decide +kernel
theorem dX12_isThere_3 : decode cX12_isThere 3 = .ok (.invokestatic 53, 3) := by decide +kernel
theorem dX12_isThere_6 : decode cX12_isThere 6 = .ok (.ifCond .eq 21, 3) := by decide +kernel
theorem dX12_isThere_9 : decode cX12_isThere 9 = .ok (.aload_n 0, 1) := by decide +kernel
theorem dX12_isThere_10 : decode cX12_isThere 10 = .ok (.getfield 7, 3) := by decide +kernel
theorem dX12_isThere_13 : decode cX12_isThere 13 = .ok (.bipush 18, 2) := by decide +kernel
theorem dX12_isThere_15 : decode cX12_isThere 15 = .ok (.iaload, 1) := by decide +kernel
theorem dX12_isThere_16 : decode cX12_isThere 16 = .ok (.iload_n 1, 1) := by decide +kernel
theorem dX12_isThere_17 : decode cX12_isThere 17 = .ok (.invokestatic 57, 3) := by decide +kernel
theorem dX12_isThere_20 : decode cX12_isThere 20 = .ok (.ifCond .eq 7, 3) := by decide +kernel
theorem dX12_isThere_23 : decode cX12_isThere 23 = .ok (.iconst 1, 1) := by decide +kernel
theorem dX12_isThere_24 : decode cX12_isThere 24 = .ok (.goto 4, 3) := by decide +kernel
theorem dX12_isThere_27 : decode cX12_isThere 27 = .ok (.iconst 0, 1) := by decide +kernel
theorem dX12_isThere_28 : decode cX12_isThere 28 = .ok (.ireturn, 1) := by decide +kernel
set_option maxRecDepth 20000 in
theorem ggX12_herd_X12_in : GoodIn wsX12_herd wsX12_in := goodIn_r _ [6] (by decide +kernel) (by decide +kernel)
set_option maxRecDepth 20000 in
theorem gX12_herd_X12_in : GoodIn wsX12_herd (va_wsS RX12 53 yX12_in wsX12_in) := goodIn_app (goodIn_of _ (by decide +kernel)) ggX12_herd_X12_in
set_option maxRecDepth 20000 in
theorem ggX12_herd_X12_bits : GoodIn wsX12_herd wsX12_bits := goodIn_r _ [9] (by decide +kernel) (by decide +kernel)
set_option maxRecDepth 20000 in
theorem gX12_herd_X12_bits : GoodIn wsX12_herd (va_wsS RX12 61 yX12_bits wsX12_bits) := goodIn_app (goodIn_of _ (by decide +kernel)) ggX12_herd_X12_bits
theorem dX12_herd_0 : decode cX12_herd 0 = .ok (.iload_n 1, 1) := by decide +kernel
theorem dX12_herd_1 : decode cX12_herd 1 = .ok (.iconst 0, 1) := by decide +kernel
theorem dX12_herd_2 : decode cX12_herd 2 = .ok (.iconst 5, 1) := by decide +kernel
theorem dX12_herd_3 : decode cX12_herd 3 = .ok (.invokestatic 53, 3) := by decide +kernel
theorem dX12_herd_6 : decode cX12_herd 6 = .ok (.ifCond .ne 5, 3) := by decide +kernel
theorem dX12_herd_9 : decode cX12_herd 9 = .ok (.iconst (-1), 1) := by decide +kernel
theorem dX12_herd_10 : decode cX12_herd 10 = .ok (.ireturn, 1) := by decide +kernel
theorem dX12_herd_11 : decode cX12_herd 11 = .ok (.iload_n 2, 1) := by decide +kernel
theorem dX12_herd_12 : decode cX12_herd 12 = .ok (.iconst 0, 1) := by decide +kernel
theorem dX12_herd_13 : decode cX12_herd 13 = .ok (.bipush 99, 2) := by decide +kernel
theorem dX12_herd_15 : decode cX12_herd 15 = .ok (.invokestatic 53, 3) := by decide +kernel
theorem dX12_herd_18 : decode cX12_herd 18 = .ok (.ifCond .eq 34, 3) := by decide +kernel
theorem dX12_herd_21 : decode cX12_herd 21 = .ok (.iload_n 3, 1) := by decide +kernel
theorem dX12_herd_22 : decode cX12_herd 22 = .ok (.iconst 0, 1) := by decide +kernel
theorem dX12_herd_23 : decode cX12_herd 23 = .ok (.iconst 1, 1) := by decide +kernel
theorem dX12_herd_24 : decode cX12_herd 24 = .ok (.invokestatic 53, 3) := by decide +kernel
theorem dX12_herd_27 : decode cX12_herd 27 = .ok (.ifCond .eq 25, 3) := by decide +kernel
theorem dX12_herd_30 : decode cX12_herd 30 = .ok (.iload 4, 2) := by decide +kernel
theorem dX12_herd_32 : decode cX12_herd 32 = .ok (.iconst 0, 1) := by decide +kernel
theorem dX12_herd_33 : decode cX12_herd 33 = .ok (.bipush 9, 2) := by decide +kernel
theorem dX12_herd_35 : decode cX12_herd 35 = .ok (.invokestatic 53, 3) := by decide +kernel
theorem dX12_herd_38 : decode cX12_herd 38 = .ok (.ifCond .eq 14, 3) := by decide +kernel
theorem dX12_herd_41 : decode cX12_herd 41 = .ok (.iload 5, 2) := by decide +kernel
theorem dX12_herd_43 : decode cX12_herd 43 = .ok (.iconst 0, 1) := by decide +kernel
theorem dX12_herd_44 : decode cX12_herd 44 = .ok (.bipush 11, 2) := by decide +kernel
theorem dX12_herd_46 : decode cX12_herd 46 = .ok (.invokestatic 53, 3) := by decide +kernel
theorem dX12_herd_49 : decode cX12_herd 49 = .ok (.ifCond .ne 6, 3) := by decide +kernel
theorem dX12_herd_52 : decode cX12_herd 52 = .ok (.bipush (-2), 2) := by decide +kernel
theorem dX12_herd_54 : decode cX12_herd 54 = .ok (.ireturn, 1) := by decide +kernel
theorem dX12_herd_55 : decode cX12_herd 55 = .ok (.aload_n 0, 1) := by decide +kernel
theorem dX12_herd_56 : decode cX12_herd 56 = .ok (.getfield 7, 3) := by decide +kernel
theorem dX12_herd_59 : decode cX12_herd 59 = .ok (.iload_n 1, 1) := by decide +kernel
theorem dX12_herd_60 : decode cX12_herd 60 = .ok (.iload_n 2, 1) := by decide +kernel
theorem dX12_herd_61 : decode cX12_herd 61 = .ok (.iastore, 1) := by decide +kernel
theorem dX12_herd_62 : decode cX12_herd 62 = .ok (.aload_n 0, 1) := by decide +kernel
theorem dX12_herd_63 : decode cX12_herd 63 = .ok (.getfield 7, 3) := by decide +kernel
theorem dX12_herd_66 : decode cX12_herd 66 = .ok (.bipush 6, 2) := by decide +kernel
theorem dX12_herd_68 : decode cX12_herd 68 = .ok (.iload_n 1, 1) := by decide +kernel
theorem dX12_herd_69 : decode cX12_herd 69 = .ok (.iadd, 1) := by decide +kernel
theorem dX12_herd_70 : decode cX12_herd 70 = .ok (.iload_n 3, 1) := by decide +kernel
theorem dX12_herd_71 : decode cX12_herd 71 = .ok (.iastore, 1) := by decide +kernel
theorem dX12_herd_72 : decode cX12_herd 72 = .ok (.aload_n 0, 1) := by decide +kernel
theorem dX12_herd_73 : decode cX12_herd 73 = .ok (.getfield 7, 3) := by decide +kernel
theorem dX12_herd_76 : decode cX12_herd 76 = .ok (.bipush 12, 2) := by decide +kernel
theorem dX12_herd_78 : decode cX12_herd 78 = .ok (.iload_n 1, 1) := by decide +kernel
theorem dX12_herd_79 : decode cX12_herd 79 = .ok (.iadd, 1) := by decide +kernel
theorem dX12_herd_80 : decode cX12_herd 80 = .ok (.iload 4, 2) := by decide +kernel
theorem dX12_herd_82 : decode cX12_herd 82 = .ok (.iastore, 1) := by decide +kernel
theorem dX12_herd_83 : decode cX12_herd 83 = .ok (.aload_n 0, 1) := by decide +kernel
theorem dX12_herd_84 : decode cX12_herd 84 = .ok (.getfield 16, 3) := by decide +kernel
theorem dX12_herd_87 : decode cX12_herd 87 = .ok (.iload_n 1, 1) := by decide +kernel
theorem dX12_herd_88 : decode cX12_herd 88 = .ok (.iload 5, 2) := by decide +kernel
theorem dX12_herd_90 : decode cX12_herd 90 = .ok (.iastore, 1) := by decide +kernel
theorem dX12_herd_91 : decode cX12_herd 91 = .ok (.aload_n 0, 1) := by decide +kernel
theorem dX12_herd_92 : decode cX12_herd 92 = .ok (.getfield 7, 3) := by decide +kernel
theorem dX12_herd_95 : decode cX12_herd 95 = .ok (.bipush 18, 2) := by decide +kernel
theorem dX12_herd_97 : decode cX12_herd 97 = .ok (.dup2, 1) := by decide +kernel
theorem dX12_herd_98 : decode cX12_herd 98 = .ok (.iaload, 1) := by decide +kernel
theorem dX12_herd_99 : decode cX12_herd 99 = .ok (.iconst 1, 1) := by decide +kernel
theorem dX12_herd_100 : decode cX12_herd 100 = .ok (.iload_n 1, 1) := by decide +kernel
theorem dX12_herd_101 : decode cX12_herd 101 = .ok (.ishl, 1) := by decide +kernel
theorem dX12_herd_102 : decode cX12_herd 102 = .ok (.ior, 1) := by decide +kernel
theorem dX12_herd_103 : decode cX12_herd 103 = .ok (.iastore, 1) := by decide +kernel
theorem dX12_herd_104 : decode cX12_herd 104 = .ok (.aload_n 0, 1) := by decide +kernel
theorem dX12_herd_105 : decode cX12_herd 105 = .ok (.getfield 7, 3) := by decide +kernel
theorem dX12_herd_108 : decode cX12_herd 108 = .ok (.bipush 18, 2) := by decide +kernel
theorem dX12_herd_110 : decode cX12_herd 110 = .ok (.iaload, 1) := by decide +kernel
theorem dX12_herd_111 : decode cX12_herd 111 = .ok (.invokestatic 61, 3) := by decide +kernel
theorem dX12_herd_114 : decode cX12_herd 114 = .ok (.ireturn, 1) := by decide +kernel
set_option maxRecDepth 20000 in
theorem ggX12_clause_X12_isClause : GoodIn wsX12_clause wsX12_isClause := goodIn_r _ [5, 6, 7, 4, 8] (by decide +kernel) (by decide +kernel)
set_option maxRecDepth 20000 in
theorem gX12_clause_X12_isClause : GoodIn wsX12_clause (va_wsS RX12 65 yX12_isClause wsX12_isClause) := goodIn_app (goodIn_of _ (by decide +kernel)) ggX12_clause_X12_isClause
set_option maxRecDepth 20000 in
theorem ggX12_clause_X12_in : GoodIn wsX12_clause wsX12_in := goodIn_r _ [8] (by decide +kernel) (by decide +kernel)
set_option maxRecDepth 20000 in
theorem gX12_clause_X12_in : GoodIn wsX12_clause (va_wsS RX12 53 yX12_in wsX12_in) := goodIn_app (goodIn_of _ (by decide +kernel)) ggX12_clause_X12_in
theorem dX12_clause_0 : decode cX12_clause 0 = .ok (.iload_n 1, 1) := by decide +kernel
theorem dX12_clause_1 : decode cX12_clause 1 = .ok (.invokestatic 65, 3) := by decide +kernel
theorem dX12_clause_4 : decode cX12_clause 4 = .ok (.ifCond .ne 5, 3) := by decide +kernel
theorem dX12_clause_7 : decode cX12_clause 7 = .ok (.iconst (-1), 1) := by decide +kernel
theorem dX12_clause_8 : decode cX12_clause 8 = .ok (.ireturn, 1) := by decide +kernel
theorem dX12_clause_9 : decode cX12_clause 9 = .ok (.iload_n 2, 1) := by decide +kernel
theorem dX12_clause_10 : decode cX12_clause 10 = .ok (.iconst 1, 1) := by decide +kernel
theorem dX12_clause_11 : decode cX12_clause 11 = .ok (.bipush 9, 2) := by decide +kernel
theorem dX12_clause_13 : decode cX12_clause 13 = .ok (.invokestatic 53, 3) := by decide +kernel
theorem dX12_clause_16 : decode cX12_clause 16 = .ok (.ifCond .ne 6, 3) := by decide +kernel
theorem dX12_clause_19 : decode cX12_clause 19 = .ok (.bipush (-2), 2) := by decide +kernel
theorem dX12_clause_21 : decode cX12_clause 21 = .ok (.ireturn, 1) := by decide +kernel
theorem dX12_clause_22 : decode cX12_clause 22 = .ok (.aload_n 0, 1) := by decide +kernel
theorem dX12_clause_23 : decode cX12_clause 23 = .ok (.getfield 19, 3) := by decide +kernel
theorem dX12_clause_26 : decode cX12_clause 26 = .ok (.iload_n 1, 1) := by decide +kernel
theorem dX12_clause_27 : decode cX12_clause 27 = .ok (.iaload, 1) := by decide +kernel
theorem dX12_clause_28 : decode cX12_clause 28 = .ok (.istore_n 3, 1) := by decide +kernel
theorem dX12_clause_29 : decode cX12_clause 29 = .ok (.aload_n 0, 1) := by decide +kernel
theorem dX12_clause_30 : decode cX12_clause 30 = .ok (.getfield 19, 3) := by decide +kernel
theorem dX12_clause_33 : decode cX12_clause 33 = .ok (.iload_n 1, 1) := by decide +kernel
theorem dX12_clause_34 : decode cX12_clause 34 = .ok (.iload_n 2, 1) := by decide +kernel
theorem dX12_clause_35 : decode cX12_clause 35 = .ok (.iastore, 1) := by decide +kernel
theorem dX12_clause_36 : decode cX12_clause 36 = .ok (.iload_n 3, 1) := by decide +kernel
theorem dX12_clause_37 : decode cX12_clause 37 = .ok (.ireturn, 1) := by decide +kernel
set_option maxRecDepth 20000 in
theorem ggX12_clash_X12_isClause : GoodIn wsX12_clash wsX12_isClause := goodIn_r _ [5, 6, 7, 4, 8] (by decide +kernel) (by decide +kernel)
set_option maxRecDepth 20000 in
theorem gX12_clash_X12_isClause : GoodIn wsX12_clash (va_wsS RX12 65 yX12_isClause wsX12_isClause) := goodIn_app (goodIn_of _ (by decide +kernel)) ggX12_clash_X12_isClause
set_option maxRecDepth 20000 in
theorem ggX12_clash_X12_bits : GoodIn wsX12_clash wsX12_bits := goodIn_r _ [11] (by decide +kernel) (by decide +kernel)
set_option maxRecDepth 20000 in
theorem gX12_clash_X12_bits : GoodIn wsX12_clash (va_wsS RX12 61 yX12_bits wsX12_bits) := goodIn_app (goodIn_of _ (by decide +kernel)) ggX12_clash_X12_bits
theorem dX12_clash_0 : decode cX12_clash 0 = .ok (.iload_n 1, 1) := by decide +kernel
theorem dX12_clash_1 : decode cX12_clash 1 = .ok (.invokestatic 65, 3) := by decide +kernel
theorem dX12_clash_4 : decode cX12_clash 4 = .ok (.ifCond .eq 15, 3) := by decide +kernel
theorem dX12_clash_7 : decode cX12_clash 7 = .ok (.iload_n 2, 1) := by decide +kernel
theorem dX12_clash_8 : decode cX12_clash 8 = .ok (.invokestatic 65, 3) := by decide +kernel
theorem dX12_clash_11 : decode cX12_clash 11 = .ok (.ifCond .eq 8, 3) := by decide +kernel
theorem dX12_clash_14 : decode cX12_clash 14 = .ok (.iload_n 1, 1) := by decide +kernel
theorem dX12_clash_15 : decode cX12_clash 15 = .ok (.iload_n 2, 1) := by decide +kernel
theorem dX12_clash_16 : decode cX12_clash 16 = .ok (.if_icmp .ne 5, 3) := by decide +kernel
theorem dX12_clash_19 : decode cX12_clash 19 = .ok (.iconst (-1), 1) := by decide +kernel
theorem dX12_clash_20 : decode cX12_clash 20 = .ok (.ireturn, 1) := by decide +kernel
theorem dX12_clash_21 : decode cX12_clash 21 = .ok (.aload_n 0, 1) := by decide +kernel
theorem dX12_clash_22 : decode cX12_clash 22 = .ok (.getfield 22, 3) := by decide +kernel
theorem dX12_clash_25 : decode cX12_clash 25 = .ok (.iload_n 1, 1) := by decide +kernel
theorem dX12_clash_26 : decode cX12_clash 26 = .ok (.dup2, 1) := by decide +kernel
theorem dX12_clash_27 : decode cX12_clash 27 = .ok (.iaload, 1) := by decide +kernel
theorem dX12_clash_28 : decode cX12_clash 28 = .ok (.iconst 1, 1) := by decide +kernel
theorem dX12_clash_29 : decode cX12_clash 29 = .ok (.iload_n 2, 1) := by decide +kernel
theorem dX12_clash_30 : decode cX12_clash 30 = .ok (.ishl, 1) := by decide +kernel
theorem dX12_clash_31 : decode cX12_clash 31 = .ok (.iconst (-1), 1) := by decide +kernel
theorem dX12_clash_32 : decode cX12_clash 32 = .ok (.ixor, 1) := by decide +kernel
theorem dX12_clash_33 : decode cX12_clash 33 = .ok (.iand, 1) := by decide +kernel
theorem dX12_clash_34 : decode cX12_clash 34 = .ok (.iastore, 1) := by decide +kernel
theorem dX12_clash_35 : decode cX12_clash 35 = .ok (.aload_n 0, 1) := by decide +kernel
theorem dX12_clash_36 : decode cX12_clash 36 = .ok (.getfield 22, 3) := by decide +kernel
theorem dX12_clash_39 : decode cX12_clash 39 = .ok (.iload_n 2, 1) := by decide +kernel
theorem dX12_clash_40 : decode cX12_clash 40 = .ok (.dup2, 1) := by decide +kernel
theorem dX12_clash_41 : decode cX12_clash 41 = .ok (.iaload, 1) := by decide +kernel
theorem dX12_clash_42 : decode cX12_clash 42 = .ok (.iconst 1, 1) := by decide +kernel
theorem dX12_clash_43 : decode cX12_clash 43 = .ok (.iload_n 1, 1) := by decide +kernel
theorem dX12_clash_44 : decode cX12_clash 44 = .ok (.ishl, 1) := by decide +kernel
theorem dX12_clash_45 : decode cX12_clash 45 = .ok (.iconst (-1), 1) := by decide +kernel
theorem dX12_clash_46 : decode cX12_clash 46 = .ok (.ixor, 1) := by decide +kernel
theorem dX12_clash_47 : decode cX12_clash 47 = .ok (.iand, 1) := by decide +kernel
theorem dX12_clash_48 : decode cX12_clash 48 = .ok (.iastore, 1) := by decide +kernel
theorem dX12_clash_49 : decode cX12_clash 49 = .ok (.aload_n 0, 1) := by decide +kernel
theorem dX12_clash_50 : decode cX12_clash 50 = .ok (.getfield 22, 3) := by decide +kernel
theorem dX12_clash_53 : decode cX12_clash 53 = .ok (.iload_n 1, 1) := by decide +kernel
theorem dX12_clash_54 : decode cX12_clash 54 = .ok (.dup2, 1) := by decide +kernel
theorem dX12_clash_55 : decode cX12_clash 55 = .ok (.iaload, 1) := by decide +kernel
theorem dX12_clash_56 : decode cX12_clash 56 = .ok (.iload_n 3, 1) := by decide +kernel
theorem dX12_clash_57 : decode cX12_clash 57 = .ok (.ifCond .eq 9, 3) := by decide +kernel
theorem dX12_clash_60 : decode cX12_clash 60 = .ok (.iconst 1, 1) := by decide +kernel
theorem dX12_clash_61 : decode cX12_clash 61 = .ok (.iload_n 2, 1) := by decide +kernel
theorem dX12_clash_62 : decode cX12_clash 62 = .ok (.ishl, 1) := by decide +kernel
theorem dX12_clash_63 : decode cX12_clash 63 = .ok (.goto 4, 3) := by decide +kernel
theorem dX12_clash_66 : decode cX12_clash 66 = .ok (.iconst 0, 1) := by decide +kernel
theorem dX12_clash_67 : decode cX12_clash 67 = .ok (.ior, 1) := by decide +kernel
theorem dX12_clash_68 : decode cX12_clash 68 = .ok (.iastore, 1) := by decide +kernel
theorem dX12_clash_69 : decode cX12_clash 69 = .ok (.aload_n 0, 1) := by decide +kernel
theorem dX12_clash_70 : decode cX12_clash 70 = .ok (.getfield 22, 3) := by decide +kernel
theorem dX12_clash_73 : decode cX12_clash 73 = .ok (.iload_n 2, 1) := by decide +kernel
theorem dX12_clash_74 : decode cX12_clash 74 = .ok (.dup2, 1) := by decide +kernel
theorem dX12_clash_75 : decode cX12_clash 75 = .ok (.iaload, 1) := by decide +kernel
theorem dX12_clash_76 : decode cX12_clash 76 = .ok (.iload_n 3, 1) := by decide +kernel
theorem dX12_clash_77 : decode cX12_clash 77 = .ok (.ifCond .eq 9, 3) := by decide +kernel
theorem dX12_clash_80 : decode cX12_clash 80 = .ok (.iconst 1, 1) := by decide +kernel
theorem dX12_clash_81 : decode cX12_clash 81 = .ok (.iload_n 1, 1) := by decide +kernel
theorem dX12_clash_82 : decode cX12_clash 82 = .ok (.ishl, 1) := by decide +kernel
theorem dX12_clash_83 : decode cX12_clash 83 = .ok (.goto 4, 3) := by decide +kernel
theorem dX12_clash_86 : decode cX12_clash 86 = .ok (.iconst 0, 1) := by decide +kernel
theorem dX12_clash_87 : decode cX12_clash 87 = .ok (.ior, 1) := by decide +kernel
theorem dX12_clash_88 : decode cX12_clash 88 = .ok (.iastore, 1) := by decide +kernel
theorem dX12_clash_89 : decode cX12_clash 89 = .ok (.iconst 0, 1) := by decide +kernel
theorem dX12_clash_90 : decode cX12_clash 90 = .ok (.istore 4, 2) := by decide +kernel
theorem dX12_clash_92 : decode cX12_clash 92 = .ok (.iconst 0, 1) := by decide +kernel
theorem dX12_clash_93 : decode cX12_clash 93 = .ok (.istore 5, 2) := by decide +kernel
theorem dX12_clash_95 : decode cX12_clash 95 = .ok (.iload 5, 2) := by decide +kernel
theorem dX12_clash_97 : decode cX12_clash 97 = .ok (.bipush 10, 2) := by decide +kernel
theorem dX12_clash_99 : decode cX12_clash 99 = .ok (.if_icmp .ge 24, 3) := by decide +kernel
theorem dX12_clash_102 : decode cX12_clash 102 = .ok (.iload 4, 2) := by decide +kernel
theorem dX12_clash_104 : decode cX12_clash 104 = .ok (.aload_n 0, 1) := by decide +kernel
theorem dX12_clash_105 : decode cX12_clash 105 = .ok (.getfield 22, 3) := by decide +kernel
theorem dX12_clash_108 : decode cX12_clash 108 = .ok (.iload 5, 2) := by decide +kernel
theorem dX12_clash_110 : decode cX12_clash 110 = .ok (.iaload, 1) := by decide +kernel
theorem dX12_clash_111 : decode cX12_clash 111 = .ok (.invokestatic 61, 3) := by decide +kernel
theorem dX12_clash_114 : decode cX12_clash 114 = .ok (.iadd, 1) := by decide +kernel
theorem dX12_clash_115 : decode cX12_clash 115 = .ok (.istore 4, 2) := by decide +kernel
theorem dX12_clash_117 : decode cX12_clash 117 = .ok (.iinc 5 1, 3) := by decide +kernel
theorem dX12_clash_120 : decode cX12_clash 120 = .ok (.goto (-25), 3) := by decide +kernel
theorem dX12_clash_123 : decode cX12_clash 123 = .ok (.iload 4, 2) := by decide +kernel
theorem dX12_clash_125 : decode cX12_clash 125 = .ok (.iconst 2, 1) := by decide +kernel
theorem dX12_clash_126 : decode cX12_clash 126 = .ok (.idiv, 1) := by decide +kernel
theorem dX12_clash_127 : decode cX12_clash 127 = .ok (.ireturn, 1) := by decide +kernel
set_option maxRecDepth 20000 in
theorem ggX12_rock_X12_in : GoodIn wsX12_rock wsX12_in := goodIn_r _ [5] (by decide +kernel) (by decide +kernel)
set_option maxRecDepth 20000 in
theorem gX12_rock_X12_in : GoodIn wsX12_rock (va_wsS RX12 53 yX12_in wsX12_in) := goodIn_app (goodIn_of _ (by decide +kernel)) ggX12_rock_X12_in
theorem dX12_rock_0 : decode cX12_rock 0 = .ok (.iload_n 1, 1) := by decide +kernel
theorem dX12_rock_1 : decode cX12_rock 1 = .ok (.iconst 0, 1) := by decide +kernel
theorem dX12_rock_2 : decode cX12_rock 2 = .ok (.iconst 5, 1) := by decide +kernel
theorem dX12_rock_3 : decode cX12_rock 3 = .ok (.invokestatic 53, 3) := by decide +kernel
theorem dX12_rock_6 : decode cX12_rock 6 = .ok (.ifCond .ne 5, 3) := by decide +kernel
theorem dX12_rock_9 : decode cX12_rock 9 = .ok (.iconst (-1), 1) := by decide +kernel
theorem dX12_rock_10 : decode cX12_rock 10 = .ok (.ireturn, 1) := by decide +kernel
theorem dX12_rock_11 : decode cX12_rock 11 = .ok (.iload_n 2, 1) := by decide +kernel
theorem dX12_rock_12 : decode cX12_rock 12 = .ok (.iconst 0, 1) := by decide +kernel
theorem dX12_rock_13 : decode cX12_rock 13 = .ok (.bipush 63, 2) := by decide +kernel
theorem dX12_rock_15 : decode cX12_rock 15 = .ok (.invokestatic 53, 3) := by decide +kernel
theorem dX12_rock_18 : decode cX12_rock 18 = .ok (.ifCond .ne 6, 3) := by decide +kernel
theorem dX12_rock_21 : decode cX12_rock 21 = .ok (.bipush (-2), 2) := by decide +kernel
theorem dX12_rock_23 : decode cX12_rock 23 = .ok (.ireturn, 1) := by decide +kernel
theorem dX12_rock_24 : decode cX12_rock 24 = .ok (.aload_n 0, 1) := by decide +kernel
theorem dX12_rock_25 : decode cX12_rock 25 = .ok (.getfield 25, 3) := by decide +kernel
theorem dX12_rock_28 : decode cX12_rock 28 = .ok (.iload_n 1, 1) := by decide +kernel
theorem dX12_rock_29 : decode cX12_rock 29 = .ok (.iaload, 1) := by decide +kernel
theorem dX12_rock_30 : decode cX12_rock 30 = .ok (.istore_n 3, 1) := by decide +kernel
theorem dX12_rock_31 : decode cX12_rock 31 = .ok (.aload_n 0, 1) := by decide +kernel
theorem dX12_rock_32 : decode cX12_rock 32 = .ok (.getfield 25, 3) := by decide +kernel
theorem dX12_rock_35 : decode cX12_rock 35 = .ok (.iload_n 1, 1) := by decide +kernel
theorem dX12_rock_36 : decode cX12_rock 36 = .ok (.iload_n 2, 1) := by decide +kernel
theorem dX12_rock_37 : decode cX12_rock 37 = .ok (.iastore, 1) := by decide +kernel
theorem dX12_rock_38 : decode cX12_rock 38 = .ok (.iload_n 3, 1) := by decide +kernel
theorem dX12_rock_39 : decode cX12_rock 39 = .ok (.ireturn, 1) := by decide +kernel
set_option maxRecDepth 20000 in
theorem ggX12_say_X12_in : GoodIn wsX12_say wsX12_in := goodIn_r _ [6] (by decide +kernel) (by decide +kernel)
set_option maxRecDepth 20000 in
theorem gX12_say_X12_in : GoodIn wsX12_say (va_wsS RX12 53 yX12_in wsX12_in) := goodIn_app (goodIn_of _ (by decide +kernel)) ggX12_say_X12_in
theorem dX12_say_0 : decode cX12_say 0 = .ok (.iload_n 1, 1) := by decide +kernel
theorem dX12_say_1 : decode cX12_say 1 = .ok (.bipush 33, 2) := by decide +kernel
theorem dX12_say_3 : decode cX12_say 3 = .ok (.bipush 126, 2) := by decide +kernel
theorem dX12_say_5 : decode cX12_say 5 = .ok (.invokestatic 53, 3) := by decide +kernel
theorem dX12_say_8 : decode cX12_say 8 = .ok (.ifCond .ne 6, 3) := by decide +kernel
theorem dX12_say_11 : decode cX12_say 11 = .ok (.bipush (-2), 2) := by decide +kernel
theorem dX12_say_13 : decode cX12_say 13 = .ok (.ireturn, 1) := by decide +kernel
theorem dX12_say_14 : decode cX12_say 14 = .ok (.aload_n 0, 1) := by decide +kernel
theorem dX12_say_15 : decode cX12_say 15 = .ok (.getfield 69, 3) := by decide +kernel
theorem dX12_say_18 : decode cX12_say 18 = .ok (.bipush 60, 2) := by decide +kernel
theorem dX12_say_20 : decode cX12_say 20 = .ok (.if_icmp .ne 6, 3) := by decide +kernel
theorem dX12_say_23 : decode cX12_say 23 = .ok (.bipush (-4), 2) := by decide +kernel
theorem dX12_say_25 : decode cX12_say 25 = .ok (.ireturn, 1) := by decide +kernel
theorem dX12_say_26 : decode cX12_say 26 = .ok (.aload_n 0, 1) := by decide +kernel
theorem dX12_say_27 : decode cX12_say 27 = .ok (.getfield 31, 3) := by decide +kernel
theorem dX12_say_30 : decode cX12_say 30 = .ok (.aload_n 0, 1) := by decide +kernel
theorem dX12_say_31 : decode cX12_say 31 = .ok (.getfield 69, 3) := by decide +kernel
theorem dX12_say_34 : decode cX12_say 34 = .ok (.iload_n 1, 1) := by decide +kernel
theorem dX12_say_35 : decode cX12_say 35 = .ok (.iastore, 1) := by decide +kernel
theorem dX12_say_36 : decode cX12_say 36 = .ok (.aload_n 0, 1) := by decide +kernel
theorem dX12_say_37 : decode cX12_say 37 = .ok (.dup, 1) := by decide +kernel
theorem dX12_say_38 : decode cX12_say 38 = .ok (.getfield 69, 3) := by decide +kernel
theorem dX12_say_41 : decode cX12_say 41 = .ok (.iconst 1, 1) := by decide +kernel
theorem dX12_say_42 : decode cX12_say 42 = .ok (.iadd, 1) := by decide +kernel
theorem dX12_say_43 : decode cX12_say 43 = .ok (.putfield 69, 3) := by decide +kernel
theorem dX12_say_46 : decode cX12_say 46 = .ok (.aload_n 0, 1) := by decide +kernel
theorem dX12_say_47 : decode cX12_say 47 = .ok (.getfield 69, 3) := by decide +kernel
theorem dX12_say_50 : decode cX12_say 50 = .ok (.ireturn, 1) := by decide +kernel
theorem dX12_wipe_0 : decode cX12_wipe 0 = .ok (.aload_n 0, 1) := by decide +kernel
theorem dX12_wipe_1 : decode cX12_wipe 1 = .ok (.getfield 69, 3) := by decide +kernel
theorem dX12_wipe_4 : decode cX12_wipe 4 = .ok (.istore_n 1, 1) := by decide +kernel
theorem dX12_wipe_5 : decode cX12_wipe 5 = .ok (.aload_n 0, 1) := by decide +kernel
theorem dX12_wipe_6 : decode cX12_wipe 6 = .ok (.iconst 0, 1) := by decide +kernel
theorem dX12_wipe_7 : decode cX12_wipe 7 = .ok (.putfield 69, 3) := by decide +kernel
theorem dX12_wipe_10 : decode cX12_wipe 10 = .ok (.iload_n 1, 1) := by decide +kernel
theorem dX12_wipe_11 : decode cX12_wipe 11 = .ok (.ireturn, 1) := by decide +kernel
set_option maxRecDepth 20000 in
theorem ggX12_faultOf_X12_in : GoodIn wsX12_faultOf wsX12_in := goodIn_r _ [6] (by decide +kernel) (by decide +kernel)
set_option maxRecDepth 20000 in
theorem gX12_faultOf_X12_in : GoodIn wsX12_faultOf (va_wsS RX12 53 yX12_in wsX12_in) := goodIn_app (goodIn_of _ (by decide +kernel)) ggX12_faultOf_X12_in
theorem dX12_faultOf_0 : decode cX12_faultOf 0 = .ok (.iconst 0, 1) := by decide +kernel
theorem dX12_faultOf_1 : decode cX12_faultOf 1 = .ok (.istore_n 1, 1) := by decide +kernel
theorem dX12_faultOf_2 : decode cX12_faultOf 2 = .ok (.iconst 0, 1) := by decide +kernel
theorem dX12_faultOf_3 : decode cX12_faultOf 3 = .ok (.istore_n 2, 1) := by decide +kernel
theorem dX12_faultOf_4 : decode cX12_faultOf 4 = .ok (.iload_n 2, 1) := by decide +kernel
theorem dX12_faultOf_5 : decode cX12_faultOf 5 = .ok (.aload_n 0, 1) := by decide +kernel
theorem dX12_faultOf_6 : decode cX12_faultOf 6 = .ok (.getfield 69, 3) := by decide +kernel
theorem dX12_faultOf_9 : decode cX12_faultOf 9 = .ok (.if_icmp .ge 132, 3) := by decide +kernel
theorem dX12_faultOf_12 : decode cX12_faultOf 12 = .ok (.aload_n 0, 1) := by decide +kernel
theorem dX12_faultOf_13 : decode cX12_faultOf 13 = .ok (.getfield 31, 3) := by decide +kernel
theorem dX12_faultOf_16 : decode cX12_faultOf 16 = .ok (.iload_n 2, 1) := by decide +kernel
theorem dX12_faultOf_17 : decode cX12_faultOf 17 = .ok (.iaload, 1) := by decide +kernel
theorem dX12_faultOf_18 : decode cX12_faultOf 18 = .ok (.istore_n 3, 1) := by decide +kernel
theorem dX12_faultOf_19 : decode cX12_faultOf 19 = .ok (.iload_n 3, 1) := by decide +kernel
theorem dX12_faultOf_20 : decode cX12_faultOf 20 = .ok (.bipush 65, 2) := by decide +kernel
theorem dX12_faultOf_22 : decode cX12_faultOf 22 = .ok (.bipush 70, 2) := by decide +kernel
theorem dX12_faultOf_24 : decode cX12_faultOf 24 = .ok (.invokestatic 53, 3) := by decide +kernel
theorem dX12_faultOf_27 : decode cX12_faultOf 27 = .ok (.istore 4, 2) := by decide +kernel
theorem dX12_faultOf_29 : decode cX12_faultOf 29 = .ok (.iload_n 1, 1) := by decide +kernel
theorem dX12_faultOf_30 : decode cX12_faultOf 30 = .ok (.ifCond .ne 33, 3) := by decide +kernel
theorem dX12_faultOf_33 : decode cX12_faultOf 33 = .ok (.iload 4, 2) := by decide +kernel
theorem dX12_faultOf_35 : decode cX12_faultOf 35 = .ok (.ifCond .ne 20, 3) := by decide +kernel
theorem dX12_faultOf_38 : decode cX12_faultOf 38 = .ok (.iload_n 3, 1) := by decide +kernel
theorem dX12_faultOf_39 : decode cX12_faultOf 39 = .ok (.bipush 97, 2) := by decide +kernel
theorem dX12_faultOf_41 : decode cX12_faultOf 41 = .ok (.bipush 106, 2) := by decide +kernel
theorem dX12_faultOf_43 : decode cX12_faultOf 43 = .ok (.invokestatic 53, 3) := by decide +kernel
theorem dX12_faultOf_46 : decode cX12_faultOf 46 = .ok (.ifCond .ne 9, 3) := by decide +kernel
theorem dX12_faultOf_49 : decode cX12_faultOf 49 = .ok (.iload_n 3, 1) := by decide +kernel
theorem dX12_faultOf_50 : decode cX12_faultOf 50 = .ok (.bipush 46, 2) := by decide +kernel
theorem dX12_faultOf_52 : decode cX12_faultOf 52 = .ok (.if_icmp .ne 7, 3) := by decide +kernel
theorem dX12_faultOf_55 : decode cX12_faultOf 55 = .ok (.iconst 1, 1) := by decide +kernel
theorem dX12_faultOf_56 : decode cX12_faultOf 56 = .ok (.goto 40, 3) := by decide +kernel
theorem dX12_faultOf_59 : decode cX12_faultOf 59 = .ok (.iconst 0, 1) := by decide +kernel
theorem dX12_faultOf_60 : decode cX12_faultOf 60 = .ok (.goto 36, 3) := by decide +kernel
theorem dX12_faultOf_63 : decode cX12_faultOf 63 = .ok (.iload_n 1, 1) := by decide +kernel
theorem dX12_faultOf_64 : decode cX12_faultOf 64 = .ok (.iconst 1, 1) := by decide +kernel
theorem dX12_faultOf_65 : decode cX12_faultOf 65 = .ok (.if_icmp .ne 29, 3) := by decide +kernel
theorem dX12_faultOf_68 : decode cX12_faultOf 68 = .ok (.iload_n 3, 1) := by decide +kernel
theorem dX12_faultOf_69 : decode cX12_faultOf 69 = .ok (.bipush 63, 2) := by decide +kernel
theorem dX12_faultOf_71 : decode cX12_faultOf 71 = .ok (.if_icmp .eq 15, 3) := by decide +kernel
theorem dX12_faultOf_74 : decode cX12_faultOf 74 = .ok (.iload_n 3, 1) := by decide +kernel
theorem dX12_faultOf_75 : decode cX12_faultOf 75 = .ok (.bipush 33, 2) := by decide +kernel
theorem dX12_faultOf_77 : decode cX12_faultOf 77 = .ok (.if_icmp .eq 9, 3) := by decide +kernel
theorem dX12_faultOf_80 : decode cX12_faultOf 80 = .ok (.iload_n 3, 1) := by decide +kernel
theorem dX12_faultOf_81 : decode cX12_faultOf 81 = .ok (.bipush 38, 2) := by decide +kernel
theorem dX12_faultOf_83 : decode cX12_faultOf 83 = .ok (.if_icmp .ne 7, 3) := by decide +kernel
theorem dX12_faultOf_86 : decode cX12_faultOf 86 = .ok (.iconst 1, 1) := by decide +kernel
theorem dX12_faultOf_87 : decode cX12_faultOf 87 = .ok (.goto 9, 3) := by decide +kernel
theorem dX12_faultOf_90 : decode cX12_faultOf 90 = .ok (.iconst 0, 1) := by decide +kernel
theorem dX12_faultOf_91 : decode cX12_faultOf 91 = .ok (.goto 5, 3) := by decide +kernel
theorem dX12_faultOf_94 : decode cX12_faultOf 94 = .ok (.iload 4, 2) := by decide +kernel
theorem dX12_faultOf_96 : decode cX12_faultOf 96 = .ok (.istore 5, 2) := by decide +kernel
theorem dX12_faultOf_98 : decode cX12_faultOf 98 = .ok (.iload 5, 2) := by decide +kernel
theorem dX12_faultOf_100 : decode cX12_faultOf 100 = .ok (.ifCond .ne 5, 3) := by decide +kernel
theorem dX12_faultOf_103 : decode cX12_faultOf 103 = .ok (.iload_n 2, 1) := by decide +kernel
theorem dX12_faultOf_104 : decode cX12_faultOf 104 = .ok (.ireturn, 1) := by decide +kernel
theorem dX12_faultOf_105 : decode cX12_faultOf 105 = .ok (.iload_n 1, 1) := by decide +kernel
theorem dX12_faultOf_106 : decode cX12_faultOf 106 = .ok (.ifCond .ne 12, 3) := by decide +kernel
theorem dX12_faultOf_109 : decode cX12_faultOf 109 = .ok (.iload 4, 2) := by decide +kernel
theorem dX12_faultOf_111 : decode cX12_faultOf 111 = .ok (.ifCond .eq 7, 3) := by decide +kernel
theorem dX12_faultOf_114 : decode cX12_faultOf 114 = .ok (.iconst 1, 1) := by decide +kernel
theorem dX12_faultOf_115 : decode cX12_faultOf 115 = .ok (.goto 19, 3) := by decide +kernel
theorem dX12_faultOf_118 : decode cX12_faultOf 118 = .ok (.iload_n 1, 1) := by decide +kernel
theorem dX12_faultOf_119 : decode cX12_faultOf 119 = .ok (.iconst 1, 1) := by decide +kernel
theorem dX12_faultOf_120 : decode cX12_faultOf 120 = .ok (.if_icmp .ne 13, 3) := by decide +kernel
theorem dX12_faultOf_123 : decode cX12_faultOf 123 = .ok (.iload_n 3, 1) := by decide +kernel
theorem dX12_faultOf_124 : decode cX12_faultOf 124 = .ok (.bipush 38, 2) := by decide +kernel
theorem dX12_faultOf_126 : decode cX12_faultOf 126 = .ok (.if_icmp .ne 7, 3) := by decide +kernel
theorem dX12_faultOf_129 : decode cX12_faultOf 129 = .ok (.iconst 2, 1) := by decide +kernel
theorem dX12_faultOf_130 : decode cX12_faultOf 130 = .ok (.goto 4, 3) := by decide +kernel
theorem dX12_faultOf_133 : decode cX12_faultOf 133 = .ok (.iconst 0, 1) := by decide +kernel
theorem dX12_faultOf_134 : decode cX12_faultOf 134 = .ok (.istore_n 1, 1) := by decide +kernel
theorem dX12_faultOf_135 : decode cX12_faultOf 135 = .ok (.iinc 2 1, 3) := by decide +kernel
theorem dX12_faultOf_138 : decode cX12_faultOf 138 = .ok (.goto (-134), 3) := by decide +kernel
theorem dX12_faultOf_141 : decode cX12_faultOf 141 = .ok (.iload_n 1, 1) := by decide +kernel
theorem dX12_faultOf_142 : decode cX12_faultOf 142 = .ok (.ifCond .ne 8, 3) := by decide +kernel
theorem dX12_faultOf_145 : decode cX12_faultOf 145 = .ok (.bipush (-6), 2) := by decide +kernel
theorem dX12_faultOf_147 : decode cX12_faultOf 147 = .ok (.goto 7, 3) := by decide +kernel
theorem dX12_faultOf_150 : decode cX12_faultOf 150 = .ok (.aload_n 0, 1) := by decide +kernel
theorem dX12_faultOf_151 : decode cX12_faultOf 151 = .ok (.getfield 69, 3) := by decide +kernel
theorem dX12_faultOf_154 : decode cX12_faultOf 154 = .ok (.ireturn, 1) := by decide +kernel
set_option maxRecDepth 20000 in
theorem ggX12_fault_X12_faultOf : GoodIn wsX12_fault wsX12_faultOf := goodIn_r _ [5, 6, 7, 8, 9, 4, 10, 11, 12, 13, 14, 15, 16, 17, 18, 19, 20, 21, 22, 23, 24, 25, 26, 27, 28, 29, 30, 31, 32] (by decide +kernel) (by decide +kernel)
set_option maxRecDepth 20000 in
theorem gX12_fault_X12_faultOf : GoodIn wsX12_fault (wsV RX12 73 RX12 yX12_faultOf wsX12_faultOf) := goodIn_app (goodIn_of _ (by decide +kernel)) ggX12_fault_X12_faultOf
theorem dX12_fault_0 : decode cX12_fault 0 = .ok (.aload_n 0, 1) := by decide +kernel
theorem dX12_fault_1 : decode cX12_fault 1 = .ok (.invokevirtual 73, 3) := by decide +kernel
theorem dX12_fault_4 : decode cX12_fault 4 = .ok (.ireturn, 1) := by decide +kernel
theorem dX12_asNow_0 : decode cX12_asNow 0 = .ok (.iconst 0, 1) := by decide +kernel
theorem dX12_asNow_1 : decode cX12_asNow 1 = .ok (.istore_n 1, 1) := by decide +kernel
theorem dX12_asNow_2 : decode cX12_asNow 2 = .ok (.iload_n 1, 1) := by decide +kernel
theorem dX12_asNow_3 : decode cX12_asNow 3 = .ok (.bipush 21, 2) := by decide +kernel
theorem dX12_asNow_5 : decode cX12_asNow 5 = .ok (.if_icmp .ge 21, 3) := by decide +kernel
theorem dX12_asNow_8 : decode cX12_asNow 8 = .ok (.aload_n 0, 1) := by decide +kernel
theorem dX12_asNow_9 : decode cX12_asNow 9 = .ok (.getfield 13, 3) := by decide +kernel
theorem dX12_asNow_12 : decode cX12_asNow 12 = .ok (.iload_n 1, 1) := by decide +kernel
theorem dX12_asNow_13 : decode cX12_asNow 13 = .ok (.aload_n 0, 1) := by decide +kernel
theorem dX12_asNow_14 : decode cX12_asNow 14 = .ok (.getfield 7, 3) := by decide +kernel
theorem dX12_asNow_17 : decode cX12_asNow 17 = .ok (.iload_n 1, 1) := by decide +kernel
theorem dX12_asNow_18 : decode cX12_asNow 18 = .ok (.iaload, 1) := by decide +kernel
theorem dX12_asNow_19 : decode cX12_asNow 19 = .ok (.iastore, 1) := by decide +kernel
theorem dX12_asNow_20 : decode cX12_asNow 20 = .ok (.iinc 1 1, 3) := by decide +kernel
theorem dX12_asNow_23 : decode cX12_asNow 23 = .ok (.goto (-21), 3) := by decide +kernel
theorem dX12_asNow_26 : decode cX12_asNow 26 = .ok (.aload_n 0, 1) := by decide +kernel
theorem dX12_asNow_27 : decode cX12_asNow 27 = .ok (.iconst 0, 1) := by decide +kernel
theorem dX12_asNow_28 : decode cX12_asNow 28 = .ok (.putfield 77, 3) := by decide +kernel
theorem dX12_asNow_31 : decode cX12_asNow 31 = .ok (.aload_n 0, 1) := by decide +kernel
theorem dX12_asNow_32 : decode cX12_asNow 32 = .ok (.bipush 63, 2) := by decide +kernel
theorem dX12_asNow_34 : decode cX12_asNow 34 = .ok (.putfield 80, 3) := by decide +kernel
theorem dX12_asNow_37 : decode cX12_asNow 37 = .ok (.return_, 1) := by decide +kernel
set_option maxRecDepth 20000 in
theorem ggX12_stands_X12_in : GoodIn wsX12_stands wsX12_in := goodIn_r _ [5] (by decide +kernel) (by decide +kernel)
set_option maxRecDepth 20000 in
theorem gX12_stands_X12_in : GoodIn wsX12_stands (va_wsS RX12 53 yX12_in wsX12_in) := goodIn_app (goodIn_of _ (by decide +kernel)) ggX12_stands_X12_in
set_option maxRecDepth 20000 in
theorem ggX12_stands_X12_has : GoodIn wsX12_stands wsX12_has := goodIn_r _ [8] (by decide +kernel) (by decide +kernel)
set_option maxRecDepth 20000 in
theorem gX12_stands_X12_has : GoodIn wsX12_stands (va_wsS RX12 57 yX12_has wsX12_has) := goodIn_app (goodIn_of _ (by decide +kernel)) ggX12_stands_X12_has
theorem dX12_stands_0 : decode cX12_stands 0 = .ok (.iload_n 1, 1) := by decide +kernel
theorem dX12_stands_1 : decode cX12_stands 1 = .ok (.iconst 0, 1) := by decide +kernel
theorem dX12_stands_2 : decode cX12_stands 2 = .ok (.iconst 5, 1) := by decide +kernel
theorem dX12_stands_3 : decode cX12_stands 3 = .ok (.invokestatic 53, 3) := by decide +kernel
theorem dX12_stands_6 : decode cX12_stands 6 = .ok (.ifCond .eq 21, 3) := by decide +kernel
theorem dX12_stands_9 : decode cX12_stands 9 = .ok (.aload_n 0, 1) := by decide +kernel
theorem dX12_stands_10 : decode cX12_stands 10 = .ok (.getfield 13, 3) := by decide +kernel
theorem dX12_stands_13 : decode cX12_stands 13 = .ok (.bipush 18, 2) := by decide +kernel
theorem dX12_stands_15 : decode cX12_stands 15 = .ok (.iaload, 1) := by decide +kernel
theorem dX12_stands_16 : decode cX12_stands 16 = .ok (.iload_n 1, 1) := by decide +kernel
theorem dX12_stands_17 : decode cX12_stands 17 = .ok (.invokestatic 57, 3) := by decide +kernel
theorem dX12_stands_20 : decode cX12_stands 20 = .ok (.ifCond .eq 7, 3) := by decide +kernel
theorem dX12_stands_23 : decode cX12_stands 23 = .ok (.iconst 1, 1) := by decide +kernel
theorem dX12_stands_24 : decode cX12_stands 24 = .ok (.goto 4, 3) := by decide +kernel
theorem dX12_stands_27 : decode cX12_stands 27 = .ok (.iconst 0, 1) := by decide +kernel
theorem dX12_stands_28 : decode cX12_stands 28 = .ok (.ireturn, 1) := by decide +kernel
set_option maxRecDepth 20000 in
theorem ggX12_wouldSign_X12_stands : GoodIn wsX12_wouldSign wsX12_stands := goodIn_r _ [8, 1, 9, 10, 7, 11, 12, 13, 14, 15, 16, 17, 18, 19, 20, 21, 22, 23, 24, 25, 26, 27, 28, 29, 30, 31, 32, 33, 34, 35, 36] (by decide +kernel) (by decide +kernel)
set_option maxRecDepth 20000 in
theorem gX12_wouldSign_X12_stands : GoodIn wsX12_wouldSign (wsV RX12 83 RX12 yX12_stands wsX12_stands) := goodIn_app (goodIn_of _ (by decide +kernel)) ggX12_wouldSign_X12_stands
theorem dX12_wouldSign_0 : decode cX12_wouldSign 0 = .ok (.aload_n 0, 1) := by decide +kernel
theorem dX12_wouldSign_1 : decode cX12_wouldSign 1 = .ok (.iload_n 1, 1) := by decide +kernel
theorem dX12_wouldSign_2 : decode cX12_wouldSign 2 = .ok (.invokevirtual 83, 3) := by decide +kernel
theorem dX12_wouldSign_5 : decode cX12_wouldSign 5 = .ok (.ifCond .eq 53, 3) := by decide +kernel
theorem dX12_wouldSign_8 : decode cX12_wouldSign 8 = .ok (.aload_n 0, 1) := by decide +kernel
theorem dX12_wouldSign_9 : decode cX12_wouldSign 9 = .ok (.getfield 13, 3) := by decide +kernel
theorem dX12_wouldSign_12 : decode cX12_wouldSign 12 = .ok (.bipush 20, 2) := by decide +kernel
theorem dX12_wouldSign_14 : decode cX12_wouldSign 14 = .ok (.iaload, 1) := by decide +kernel
theorem dX12_wouldSign_15 : decode cX12_wouldSign 15 = .ok (.bipush 12, 2) := by decide +kernel
theorem dX12_wouldSign_17 : decode cX12_wouldSign 17 = .ok (.irem, 1) := by decide +kernel
theorem dX12_wouldSign_18 : decode cX12_wouldSign 18 = .ok (.aload_n 0, 1) := by decide +kernel
theorem dX12_wouldSign_19 : decode cX12_wouldSign 19 = .ok (.getfield 16, 3) := by decide +kernel
theorem dX12_wouldSign_22 : decode cX12_wouldSign 22 = .ok (.iload_n 1, 1) := by decide +kernel
theorem dX12_wouldSign_23 : decode cX12_wouldSign 23 = .ok (.iaload, 1) := by decide +kernel
theorem dX12_wouldSign_24 : decode cX12_wouldSign 24 = .ok (.if_icmp .eq 34, 3) := by decide +kernel
theorem dX12_wouldSign_27 : decode cX12_wouldSign 27 = .ok (.aload_n 0, 1) := by decide +kernel
theorem dX12_wouldSign_28 : decode cX12_wouldSign 28 = .ok (.getfield 13, 3) := by decide +kernel
theorem dX12_wouldSign_31 : decode cX12_wouldSign 31 = .ok (.iload_n 1, 1) := by decide +kernel
theorem dX12_wouldSign_32 : decode cX12_wouldSign 32 = .ok (.iaload, 1) := by decide +kernel
theorem dX12_wouldSign_33 : decode cX12_wouldSign 33 = .ok (.ifCond .le 25, 3) := by decide +kernel
theorem dX12_wouldSign_36 : decode cX12_wouldSign 36 = .ok (.aload_n 0, 1) := by decide +kernel
theorem dX12_wouldSign_37 : decode cX12_wouldSign 37 = .ok (.getfield 13, 3) := by decide +kernel
theorem dX12_wouldSign_40 : decode cX12_wouldSign 40 = .ok (.bipush 12, 2) := by decide +kernel
theorem dX12_wouldSign_42 : decode cX12_wouldSign 42 = .ok (.iload_n 1, 1) := by decide +kernel
theorem dX12_wouldSign_43 : decode cX12_wouldSign 43 = .ok (.iadd, 1) := by decide +kernel
theorem dX12_wouldSign_44 : decode cX12_wouldSign 44 = .ok (.iaload, 1) := by decide +kernel
theorem dX12_wouldSign_45 : decode cX12_wouldSign 45 = .ok (.aload_n 0, 1) := by decide +kernel
theorem dX12_wouldSign_46 : decode cX12_wouldSign 46 = .ok (.getfield 19, 3) := by decide +kernel
theorem dX12_wouldSign_49 : decode cX12_wouldSign 49 = .ok (.iload_n 2, 1) := by decide +kernel
theorem dX12_wouldSign_50 : decode cX12_wouldSign 50 = .ok (.iaload, 1) := by decide +kernel
theorem dX12_wouldSign_51 : decode cX12_wouldSign 51 = .ok (.if_icmp .lt 7, 3) := by decide +kernel
theorem dX12_wouldSign_54 : decode cX12_wouldSign 54 = .ok (.iconst 1, 1) := by decide +kernel
theorem dX12_wouldSign_55 : decode cX12_wouldSign 55 = .ok (.goto 4, 3) := by decide +kernel
theorem dX12_wouldSign_58 : decode cX12_wouldSign 58 = .ok (.iconst 0, 1) := by decide +kernel
theorem dX12_wouldSign_59 : decode cX12_wouldSign 59 = .ok (.ireturn, 1) := by decide +kernel
set_option maxRecDepth 20000 in
theorem ggX12_signers_X12_wouldSign : GoodIn wsX12_signers wsX12_wouldSign := goodIn_r _ [5, 6, 7, 8, 9, 10, 11, 4, 12, 13, 14, 15, 16, 17, 18, 19, 20, 21, 22, 23, 24, 25, 26, 27, 28, 29, 30, 31, 32, 33, 34, 35, 36, 37, 38, 39, 40] (by decide +kernel) (by decide +kernel)
set_option maxRecDepth 20000 in
theorem gX12_signers_X12_wouldSign : GoodIn wsX12_signers (wsV RX12 86 RX12 yX12_wouldSign wsX12_wouldSign) := goodIn_app (goodIn_of _ (by decide +kernel)) ggX12_signers_X12_wouldSign
theorem dX12_signers_0 : decode cX12_signers 0 = .ok (.iconst 0, 1) := by decide +kernel
theorem dX12_signers_1 : decode cX12_signers 1 = .ok (.istore_n 2, 1) := by decide +kernel
theorem dX12_signers_2 : decode cX12_signers 2 = .ok (.iconst 0, 1) := by decide +kernel
theorem dX12_signers_3 : decode cX12_signers 3 = .ok (.istore_n 3, 1) := by decide +kernel
theorem dX12_signers_4 : decode cX12_signers 4 = .ok (.iload_n 3, 1) := by decide +kernel
theorem dX12_signers_5 : decode cX12_signers 5 = .ok (.bipush 6, 2) := by decide +kernel
theorem dX12_signers_7 : decode cX12_signers 7 = .ok (.if_icmp .ge 28, 3) := by decide +kernel
theorem dX12_signers_10 : decode cX12_signers 10 = .ok (.iload_n 2, 1) := by decide +kernel
theorem dX12_signers_11 : decode cX12_signers 11 = .ok (.aload_n 0, 1) := by decide +kernel
theorem dX12_signers_12 : decode cX12_signers 12 = .ok (.iload_n 3, 1) := by decide +kernel
theorem dX12_signers_13 : decode cX12_signers 13 = .ok (.iload_n 1, 1) := by decide +kernel
theorem dX12_signers_14 : decode cX12_signers 14 = .ok (.invokevirtual 86, 3) := by decide +kernel
theorem dX12_signers_17 : decode cX12_signers 17 = .ok (.ifCond .eq 9, 3) := by decide +kernel
theorem dX12_signers_20 : decode cX12_signers 20 = .ok (.iconst 1, 1) := by decide +kernel
theorem dX12_signers_21 : decode cX12_signers 21 = .ok (.iload_n 3, 1) := by decide +kernel
theorem dX12_signers_22 : decode cX12_signers 22 = .ok (.ishl, 1) := by decide +kernel
theorem dX12_signers_23 : decode cX12_signers 23 = .ok (.goto 4, 3) := by decide +kernel
theorem dX12_signers_26 : decode cX12_signers 26 = .ok (.iconst 0, 1) := by decide +kernel
theorem dX12_signers_27 : decode cX12_signers 27 = .ok (.ior, 1) := by decide +kernel
theorem dX12_signers_28 : decode cX12_signers 28 = .ok (.istore_n 2, 1) := by decide +kernel
theorem dX12_signers_29 : decode cX12_signers 29 = .ok (.iinc 3 1, 3) := by decide +kernel
theorem dX12_signers_32 : decode cX12_signers 32 = .ok (.goto (-28), 3) := by decide +kernel
theorem dX12_signers_35 : decode cX12_signers 35 = .ok (.iload_n 2, 1) := by decide +kernel
theorem dX12_signers_36 : decode cX12_signers 36 = .ok (.ireturn, 1) := by decide +kernel
theorem dX12_cheer_0 : decode cX12_cheer 0 = .ok (.aload_n 0, 1) := by decide +kernel
theorem dX12_cheer_1 : decode cX12_cheer 1 = .ok (.getfield 13, 3) := by decide +kernel
theorem dX12_cheer_4 : decode cX12_cheer 4 = .ok (.bipush 12, 2) := by decide +kernel
theorem dX12_cheer_6 : decode cX12_cheer 6 = .ok (.iload_n 1, 1) := by decide +kernel
theorem dX12_cheer_7 : decode cX12_cheer 7 = .ok (.iadd, 1) := by decide +kernel
theorem dX12_cheer_8 : decode cX12_cheer 8 = .ok (.aload_n 0, 1) := by decide +kernel
theorem dX12_cheer_9 : decode cX12_cheer 9 = .ok (.getfield 13, 3) := by decide +kernel
theorem dX12_cheer_12 : decode cX12_cheer 12 = .ok (.bipush 12, 2) := by decide +kernel
theorem dX12_cheer_14 : decode cX12_cheer 14 = .ok (.iload_n 1, 1) := by decide +kernel
theorem dX12_cheer_15 : decode cX12_cheer 15 = .ok (.iadd, 1) := by decide +kernel
theorem dX12_cheer_16 : decode cX12_cheer 16 = .ok (.iaload, 1) := by decide +kernel
theorem dX12_cheer_17 : decode cX12_cheer 17 = .ok (.iload_n 2, 1) := by decide +kernel
theorem dX12_cheer_18 : decode cX12_cheer 18 = .ok (.iadd, 1) := by decide +kernel
theorem dX12_cheer_19 : decode cX12_cheer 19 = .ok (.bipush 9, 2) := by decide +kernel
theorem dX12_cheer_21 : decode cX12_cheer 21 = .ok (.if_icmp .le 8, 3) := by decide +kernel
theorem dX12_cheer_24 : decode cX12_cheer 24 = .ok (.bipush 9, 2) := by decide +kernel
theorem dX12_cheer_26 : decode cX12_cheer 26 = .ok (.goto 14, 3) := by decide +kernel
theorem dX12_cheer_29 : decode cX12_cheer 29 = .ok (.aload_n 0, 1) := by decide +kernel
theorem dX12_cheer_30 : decode cX12_cheer 30 = .ok (.getfield 13, 3) := by decide +kernel
theorem dX12_cheer_33 : decode cX12_cheer 33 = .ok (.bipush 12, 2) := by decide +kernel
theorem dX12_cheer_35 : decode cX12_cheer 35 = .ok (.iload_n 1, 1) := by decide +kernel
theorem dX12_cheer_36 : decode cX12_cheer 36 = .ok (.iadd, 1) := by decide +kernel
theorem dX12_cheer_37 : decode cX12_cheer 37 = .ok (.iaload, 1) := by decide +kernel
theorem dX12_cheer_38 : decode cX12_cheer 38 = .ok (.iload_n 2, 1) := by decide +kernel
theorem dX12_cheer_39 : decode cX12_cheer 39 = .ok (.iadd, 1) := by decide +kernel
theorem dX12_cheer_40 : decode cX12_cheer 40 = .ok (.iastore, 1) := by decide +kernel
theorem dX12_cheer_41 : decode cX12_cheer 41 = .ok (.return_, 1) := by decide +kernel
set_option maxRecDepth 20000 in
theorem ggX12_read_X12_signers : GoodIn wsX12_read wsX12_signers := goodIn_r _ [9, 10, 11, 12, 8, 13, 1, 14, 2, 15, 16, 17, 18, 19, 20, 21, 22, 23, 24, 29, 30, 31, 32, 33, 34, 35, 36, 37, 38, 39, 40, 41, 42, 43, 44, 45, 46, 47, 48, 49, 50] (by decide +kernel) (by decide +kernel)
set_option maxRecDepth 20000 in
theorem gX12_read_X12_signers : GoodIn wsX12_read (wsV RX12 89 RX12 yX12_signers wsX12_signers) := goodIn_app (goodIn_of _ (by decide +kernel)) ggX12_read_X12_signers
set_option maxRecDepth 20000 in
theorem ggX12_read_X12_has : GoodIn wsX12_read wsX12_has := goodIn_r _ [24] (by decide +kernel) (by decide +kernel)
set_option maxRecDepth 20000 in
theorem gX12_read_X12_has : GoodIn wsX12_read (va_wsS RX12 57 yX12_has wsX12_has) := goodIn_app (goodIn_of _ (by decide +kernel)) ggX12_read_X12_has
set_option maxRecDepth 20000 in
theorem ggX12_read_X12_stands : GoodIn wsX12_read wsX12_stands := goodIn_r _ [18, 1, 19, 20, 8, 21, 22, 23, 24, 29, 30, 31, 32, 33, 34, 35, 36, 37, 38, 39, 40, 41, 42, 43, 44, 45, 46, 47, 48, 49, 50] (by decide +kernel) (by decide +kernel)
set_option maxRecDepth 20000 in
theorem gX12_read_X12_stands : GoodIn wsX12_read (wsV RX12 83 RX12 yX12_stands wsX12_stands) := goodIn_app (goodIn_of _ (by decide +kernel)) ggX12_read_X12_stands
set_option maxRecDepth 20000 in
theorem ggX12_read_X12_cheer : GoodIn wsX12_read wsX12_cheer := goodIn_r _ [28, 1, 29, 30, 31, 32, 33, 34, 35, 36, 37, 38, 39, 40, 41, 42, 43, 44, 45, 46, 47, 48, 49, 50] (by decide +kernel) (by decide +kernel)
set_option maxRecDepth 20000 in
theorem gX12_read_X12_cheer : GoodIn wsX12_read (wsV RX12 92 RX12 yX12_cheer wsX12_cheer) := goodIn_app (goodIn_of _ (by decide +kernel)) ggX12_read_X12_cheer
theorem dX12_read_0 : decode cX12_read 0 = .ok (.aload_n 0, 1) := by decide +kernel
theorem dX12_read_1 : decode cX12_read 1 = .ok (.iload_n 1, 1) := by decide +kernel
theorem dX12_read_2 : decode cX12_read 2 = .ok (.invokevirtual 89, 3) := by decide +kernel
theorem dX12_read_5 : decode cX12_read 5 = .ok (.istore_n 2, 1) := by decide +kernel
theorem dX12_read_6 : decode cX12_read 6 = .ok (.iload_n 2, 1) := by decide +kernel
theorem dX12_read_7 : decode cX12_read 7 = .ok (.ifCond .ne 5, 3) := by decide +kernel
theorem dX12_read_10 : decode cX12_read 10 = .ok (.iconst 2, 1) := by decide +kernel
theorem dX12_read_11 : decode cX12_read 11 = .ok (.ireturn, 1) := by decide +kernel
theorem dX12_read_12 : decode cX12_read 12 = .ok (.iconst 0, 1) := by decide +kernel
theorem dX12_read_13 : decode cX12_read 13 = .ok (.istore_n 3, 1) := by decide +kernel
theorem dX12_read_14 : decode cX12_read 14 = .ok (.iload_n 3, 1) := by decide +kernel
theorem dX12_read_15 : decode cX12_read 15 = .ok (.bipush 6, 2) := by decide +kernel
theorem dX12_read_17 : decode cX12_read 17 = .ok (.if_icmp .ge 72, 3) := by decide +kernel
theorem dX12_read_20 : decode cX12_read 20 = .ok (.iload_n 2, 1) := by decide +kernel
theorem dX12_read_21 : decode cX12_read 21 = .ok (.iload_n 3, 1) := by decide +kernel
theorem dX12_read_22 : decode cX12_read 22 = .ok (.invokestatic 57, 3) := by decide +kernel
theorem dX12_read_25 : decode cX12_read 25 = .ok (.ifCond .eq 44, 3) := by decide +kernel
theorem dX12_read_28 : decode cX12_read 28 = .ok (.aload_n 0, 1) := by decide +kernel
theorem dX12_read_29 : decode cX12_read 29 = .ok (.getfield 13, 3) := by decide +kernel
theorem dX12_read_32 : decode cX12_read 32 = .ok (.bipush 6, 2) := by decide +kernel
theorem dX12_read_34 : decode cX12_read 34 = .ok (.iload_n 3, 1) := by decide +kernel
theorem dX12_read_35 : decode cX12_read 35 = .ok (.iadd, 1) := by decide +kernel
theorem dX12_read_36 : decode cX12_read 36 = .ok (.iconst 1, 1) := by decide +kernel
theorem dX12_read_37 : decode cX12_read 37 = .ok (.aload_n 0, 1) := by decide +kernel
theorem dX12_read_38 : decode cX12_read 38 = .ok (.getfield 13, 3) := by decide +kernel
theorem dX12_read_41 : decode cX12_read 41 = .ok (.bipush 6, 2) := by decide +kernel
theorem dX12_read_43 : decode cX12_read 43 = .ok (.iload_n 3, 1) := by decide +kernel
theorem dX12_read_44 : decode cX12_read 44 = .ok (.iadd, 1) := by decide +kernel
theorem dX12_read_45 : decode cX12_read 45 = .ok (.iaload, 1) := by decide +kernel
theorem dX12_read_46 : decode cX12_read 46 = .ok (.isub, 1) := by decide +kernel
theorem dX12_read_47 : decode cX12_read 47 = .ok (.iastore, 1) := by decide +kernel
theorem dX12_read_48 : decode cX12_read 48 = .ok (.aload_n 0, 1) := by decide +kernel
theorem dX12_read_49 : decode cX12_read 49 = .ok (.getfield 13, 3) := by decide +kernel
theorem dX12_read_52 : decode cX12_read 52 = .ok (.bipush 12, 2) := by decide +kernel
theorem dX12_read_54 : decode cX12_read 54 = .ok (.iload_n 3, 1) := by decide +kernel
theorem dX12_read_55 : decode cX12_read 55 = .ok (.iadd, 1) := by decide +kernel
theorem dX12_read_56 : decode cX12_read 56 = .ok (.dup2, 1) := by decide +kernel
theorem dX12_read_57 : decode cX12_read 57 = .ok (.iaload, 1) := by decide +kernel
theorem dX12_read_58 : decode cX12_read 58 = .ok (.aload_n 0, 1) := by decide +kernel
theorem dX12_read_59 : decode cX12_read 59 = .ok (.getfield 19, 3) := by decide +kernel
theorem dX12_read_62 : decode cX12_read 62 = .ok (.iload_n 1, 1) := by decide +kernel
theorem dX12_read_63 : decode cX12_read 63 = .ok (.iaload, 1) := by decide +kernel
theorem dX12_read_64 : decode cX12_read 64 = .ok (.isub, 1) := by decide +kernel
theorem dX12_read_65 : decode cX12_read 65 = .ok (.iastore, 1) := by decide +kernel
theorem dX12_read_66 : decode cX12_read 66 = .ok (.goto 17, 3) := by decide +kernel
theorem dX12_read_69 : decode cX12_read 69 = .ok (.aload_n 0, 1) := by decide +kernel
theorem dX12_read_70 : decode cX12_read 70 = .ok (.iload_n 3, 1) := by decide +kernel
theorem dX12_read_71 : decode cX12_read 71 = .ok (.invokevirtual 83, 3) := by decide +kernel
theorem dX12_read_74 : decode cX12_read 74 = .ok (.ifCond .eq 9, 3) := by decide +kernel
theorem dX12_read_77 : decode cX12_read 77 = .ok (.aload_n 0, 1) := by decide +kernel
theorem dX12_read_78 : decode cX12_read 78 = .ok (.iload_n 3, 1) := by decide +kernel
theorem dX12_read_79 : decode cX12_read 79 = .ok (.iconst 1, 1) := by decide +kernel
theorem dX12_read_80 : decode cX12_read 80 = .ok (.invokevirtual 92, 3) := by decide +kernel
theorem dX12_read_83 : decode cX12_read 83 = .ok (.iinc 3 1, 3) := by decide +kernel
theorem dX12_read_86 : decode cX12_read 86 = .ok (.goto (-72), 3) := by decide +kernel
theorem dX12_read_89 : decode cX12_read 89 = .ok (.aload_n 0, 1) := by decide +kernel
theorem dX12_read_90 : decode cX12_read 90 = .ok (.dup, 1) := by decide +kernel
theorem dX12_read_91 : decode cX12_read 91 = .ok (.getfield 77, 3) := by decide +kernel
theorem dX12_read_94 : decode cX12_read 94 = .ok (.iconst 1, 1) := by decide +kernel
theorem dX12_read_95 : decode cX12_read 95 = .ok (.iadd, 1) := by decide +kernel
theorem dX12_read_96 : decode cX12_read 96 = .ok (.putfield 77, 3) := by decide +kernel
theorem dX12_read_99 : decode cX12_read 99 = .ok (.aload_n 0, 1) := by decide +kernel
theorem dX12_read_100 : decode cX12_read 100 = .ok (.dup, 1) := by decide +kernel
theorem dX12_read_101 : decode cX12_read 101 = .ok (.getfield 80, 3) := by decide +kernel
theorem dX12_read_104 : decode cX12_read 104 = .ok (.iload_n 2, 1) := by decide +kernel
theorem dX12_read_105 : decode cX12_read 105 = .ok (.iand, 1) := by decide +kernel
theorem dX12_read_106 : decode cX12_read 106 = .ok (.putfield 80, 3) := by decide +kernel
theorem dX12_read_109 : decode cX12_read 109 = .ok (.iconst 0, 1) := by decide +kernel
theorem dX12_read_110 : decode cX12_read 110 = .ok (.ireturn, 1) := by decide +kernel
set_option maxRecDepth 20000 in
theorem ggX12_whistle_X12_stands : GoodIn wsX12_whistle wsX12_stands := goodIn_r _ [6, 1, 7, 8, 5, 9, 10, 11, 12, 17, 18, 19, 20, 21, 22, 23, 24, 25, 26, 27, 28, 29, 30, 31, 32, 33, 34, 35, 36, 37, 38] (by decide +kernel) (by decide +kernel)
set_option maxRecDepth 20000 in
theorem gX12_whistle_X12_stands : GoodIn wsX12_whistle (wsV RX12 83 RX12 yX12_stands wsX12_stands) := goodIn_app (goodIn_of _ (by decide +kernel)) ggX12_whistle_X12_stands
set_option maxRecDepth 20000 in
theorem ggX12_whistle_X12_cheer : GoodIn wsX12_whistle wsX12_cheer := goodIn_r _ [16, 1, 17, 18, 19, 20, 21, 22, 23, 24, 25, 26, 27, 28, 29, 30, 31, 32, 33, 34, 35, 36, 37, 38] (by decide +kernel) (by decide +kernel)
set_option maxRecDepth 20000 in
theorem gX12_whistle_X12_cheer : GoodIn wsX12_whistle (wsV RX12 92 RX12 yX12_cheer wsX12_cheer) := goodIn_app (goodIn_of _ (by decide +kernel)) ggX12_whistle_X12_cheer
theorem dX12_whistle_0 : decode cX12_whistle 0 = .ok (.aload_n 0, 1) := by decide +kernel
theorem dX12_whistle_1 : decode cX12_whistle 1 = .ok (.iload_n 1, 1) := by decide +kernel
theorem dX12_whistle_2 : decode cX12_whistle 2 = .ok (.invokevirtual 83, 3) := by decide +kernel
theorem dX12_whistle_5 : decode cX12_whistle 5 = .ok (.ifCond .ne 5, 3) := by decide +kernel
theorem dX12_whistle_8 : decode cX12_whistle 8 = .ok (.iconst 1, 1) := by decide +kernel
theorem dX12_whistle_9 : decode cX12_whistle 9 = .ok (.ireturn, 1) := by decide +kernel
theorem dX12_whistle_10 : decode cX12_whistle 10 = .ok (.aload_n 0, 1) := by decide +kernel
theorem dX12_whistle_11 : decode cX12_whistle 11 = .ok (.getfield 13, 3) := by decide +kernel
theorem dX12_whistle_14 : decode cX12_whistle 14 = .ok (.bipush 12, 2) := by decide +kernel
theorem dX12_whistle_16 : decode cX12_whistle 16 = .ok (.iload_n 1, 1) := by decide +kernel
theorem dX12_whistle_17 : decode cX12_whistle 17 = .ok (.iadd, 1) := by decide +kernel
theorem dX12_whistle_18 : decode cX12_whistle 18 = .ok (.iaload, 1) := by decide +kernel
theorem dX12_whistle_19 : decode cX12_whistle 19 = .ok (.bipush 9, 2) := by decide +kernel
theorem dX12_whistle_21 : decode cX12_whistle 21 = .ok (.if_icmp .ne 5, 3) := by decide +kernel
theorem dX12_whistle_24 : decode cX12_whistle 24 = .ok (.iconst 3, 1) := by decide +kernel
theorem dX12_whistle_25 : decode cX12_whistle 25 = .ok (.ireturn, 1) := by decide +kernel
theorem dX12_whistle_26 : decode cX12_whistle 26 = .ok (.aload_n 0, 1) := by decide +kernel
theorem dX12_whistle_27 : decode cX12_whistle 27 = .ok (.iload_n 1, 1) := by decide +kernel
theorem dX12_whistle_28 : decode cX12_whistle 28 = .ok (.iconst 3, 1) := by decide +kernel
theorem dX12_whistle_29 : decode cX12_whistle 29 = .ok (.invokevirtual 92, 3) := by decide +kernel
theorem dX12_whistle_32 : decode cX12_whistle 32 = .ok (.iconst 0, 1) := by decide +kernel
theorem dX12_whistle_33 : decode cX12_whistle 33 = .ok (.ireturn, 1) := by decide +kernel
set_option maxRecDepth 20000 in
theorem ggX12_net_X12_stands : GoodIn wsX12_net wsX12_stands := goodIn_r _ [6, 1, 7, 8, 5, 9, 10, 11, 12, 13, 14, 15, 16, 17, 18, 19, 20, 21, 22, 23, 24, 25, 26, 27, 28, 29, 30, 31, 32, 33, 34] (by decide +kernel) (by decide +kernel)
set_option maxRecDepth 20000 in
theorem gX12_net_X12_stands : GoodIn wsX12_net (wsV RX12 83 RX12 yX12_stands wsX12_stands) := goodIn_app (goodIn_of _ (by decide +kernel)) ggX12_net_X12_stands
theorem dX12_net_0 : decode cX12_net 0 = .ok (.aload_n 0, 1) := by decide +kernel
theorem dX12_net_1 : decode cX12_net 1 = .ok (.iload_n 1, 1) := by decide +kernel
theorem dX12_net_2 : decode cX12_net 2 = .ok (.invokevirtual 83, 3) := by decide +kernel
theorem dX12_net_5 : decode cX12_net 5 = .ok (.ifCond .ne 5, 3) := by decide +kernel
theorem dX12_net_8 : decode cX12_net 8 = .ok (.iconst 1, 1) := by decide +kernel
theorem dX12_net_9 : decode cX12_net 9 = .ok (.ireturn, 1) := by decide +kernel
theorem dX12_net_10 : decode cX12_net 10 = .ok (.aload_n 0, 1) := by decide +kernel
theorem dX12_net_11 : decode cX12_net 11 = .ok (.getfield 13, 3) := by decide +kernel
theorem dX12_net_14 : decode cX12_net 14 = .ok (.iload_n 1, 1) := by decide +kernel
theorem dX12_net_15 : decode cX12_net 15 = .ok (.iaload, 1) := by decide +kernel
theorem dX12_net_16 : decode cX12_net 16 = .ok (.iconst 5, 1) := by decide +kernel
theorem dX12_net_17 : decode cX12_net 17 = .ok (.if_icmp .ge 5, 3) := by decide +kernel
theorem dX12_net_20 : decode cX12_net 20 = .ok (.iconst 4, 1) := by decide +kernel
theorem dX12_net_21 : decode cX12_net 21 = .ok (.ireturn, 1) := by decide +kernel
theorem dX12_net_22 : decode cX12_net 22 = .ok (.aload_n 0, 1) := by decide +kernel
theorem dX12_net_23 : decode cX12_net 23 = .ok (.getfield 13, 3) := by decide +kernel
theorem dX12_net_26 : decode cX12_net 26 = .ok (.iload_n 1, 1) := by decide +kernel
theorem dX12_net_27 : decode cX12_net 27 = .ok (.dup2, 1) := by decide +kernel
theorem dX12_net_28 : decode cX12_net 28 = .ok (.iaload, 1) := by decide +kernel
theorem dX12_net_29 : decode cX12_net 29 = .ok (.iconst 5, 1) := by decide +kernel
theorem dX12_net_30 : decode cX12_net 30 = .ok (.isub, 1) := by decide +kernel
theorem dX12_net_31 : decode cX12_net 31 = .ok (.iastore, 1) := by decide +kernel
theorem dX12_net_32 : decode cX12_net 32 = .ok (.aload_n 0, 1) := by decide +kernel
theorem dX12_net_33 : decode cX12_net 33 = .ok (.getfield 13, 3) := by decide +kernel
theorem dX12_net_36 : decode cX12_net 36 = .ok (.bipush 19, 2) := by decide +kernel
theorem dX12_net_38 : decode cX12_net 38 = .ok (.dup2, 1) := by decide +kernel
theorem dX12_net_39 : decode cX12_net 39 = .ok (.iaload, 1) := by decide +kernel
theorem dX12_net_40 : decode cX12_net 40 = .ok (.iconst 5, 1) := by decide +kernel
theorem dX12_net_41 : decode cX12_net 41 = .ok (.iadd, 1) := by decide +kernel
theorem dX12_net_42 : decode cX12_net 42 = .ok (.iastore, 1) := by decide +kernel
theorem dX12_net_43 : decode cX12_net 43 = .ok (.iconst 0, 1) := by decide +kernel
theorem dX12_net_44 : decode cX12_net 44 = .ok (.ireturn, 1) := by decide +kernel
set_option maxRecDepth 20000 in
theorem ggX12_join_X12_stands : GoodIn wsX12_join wsX12_stands := goodIn_r _ [6, 1, 7, 8, 5, 9, 10, 11, 12, 13, 14, 15, 16, 17, 18, 19, 20, 21, 22, 23, 24, 25, 26, 27, 28, 29, 30, 31, 32, 33, 34] (by decide +kernel) (by decide +kernel)
set_option maxRecDepth 20000 in
theorem gX12_join_X12_stands : GoodIn wsX12_join (wsV RX12 83 RX12 yX12_stands wsX12_stands) := goodIn_app (goodIn_of _ (by decide +kernel)) ggX12_join_X12_stands
theorem dX12_join_0 : decode cX12_join 0 = .ok (.aload_n 0, 1) := by decide +kernel
theorem dX12_join_1 : decode cX12_join 1 = .ok (.iload_n 1, 1) := by decide +kernel
theorem dX12_join_2 : decode cX12_join 2 = .ok (.invokevirtual 83, 3) := by decide +kernel
theorem dX12_join_5 : decode cX12_join 5 = .ok (.ifCond .eq 11, 3) := by decide +kernel
theorem dX12_join_8 : decode cX12_join 8 = .ok (.aload_n 0, 1) := by decide +kernel
theorem dX12_join_9 : decode cX12_join 9 = .ok (.iload_n 2, 1) := by decide +kernel
theorem dX12_join_10 : decode cX12_join 10 = .ok (.invokevirtual 83, 3) := by decide +kernel
theorem dX12_join_13 : decode cX12_join 13 = .ok (.ifCond .ne 5, 3) := by decide +kernel
theorem dX12_join_16 : decode cX12_join 16 = .ok (.iconst 1, 1) := by decide +kernel
theorem dX12_join_17 : decode cX12_join 17 = .ok (.ireturn, 1) := by decide +kernel
theorem dX12_join_18 : decode cX12_join 18 = .ok (.iload_n 1, 1) := by decide +kernel
theorem dX12_join_19 : decode cX12_join 19 = .ok (.iload_n 2, 1) := by decide +kernel
theorem dX12_join_20 : decode cX12_join 20 = .ok (.if_icmp .eq 24, 3) := by decide +kernel
theorem dX12_join_23 : decode cX12_join 23 = .ok (.aload_n 0, 1) := by decide +kernel
theorem dX12_join_24 : decode cX12_join 24 = .ok (.getfield 13, 3) := by decide +kernel
theorem dX12_join_27 : decode cX12_join 27 = .ok (.bipush 6, 2) := by decide +kernel
theorem dX12_join_29 : decode cX12_join 29 = .ok (.iload_n 1, 1) := by decide +kernel
theorem dX12_join_30 : decode cX12_join 30 = .ok (.iadd, 1) := by decide +kernel
theorem dX12_join_31 : decode cX12_join 31 = .ok (.iaload, 1) := by decide +kernel
theorem dX12_join_32 : decode cX12_join 32 = .ok (.aload_n 0, 1) := by decide +kernel
theorem dX12_join_33 : decode cX12_join 33 = .ok (.getfield 13, 3) := by decide +kernel
theorem dX12_join_36 : decode cX12_join 36 = .ok (.bipush 6, 2) := by decide +kernel
theorem dX12_join_38 : decode cX12_join 38 = .ok (.iload_n 2, 1) := by decide +kernel
theorem dX12_join_39 : decode cX12_join 39 = .ok (.iadd, 1) := by decide +kernel
theorem dX12_join_40 : decode cX12_join 40 = .ok (.iaload, 1) := by decide +kernel
theorem dX12_join_41 : decode cX12_join 41 = .ok (.if_icmp .eq 5, 3) := by decide +kernel
theorem dX12_join_44 : decode cX12_join 44 = .ok (.iconst 5, 1) := by decide +kernel
theorem dX12_join_45 : decode cX12_join 45 = .ok (.ireturn, 1) := by decide +kernel
theorem dX12_join_46 : decode cX12_join 46 = .ok (.aload_n 0, 1) := by decide +kernel
theorem dX12_join_47 : decode cX12_join 47 = .ok (.getfield 13, 3) := by decide +kernel
theorem dX12_join_50 : decode cX12_join 50 = .ok (.iload_n 1, 1) := by decide +kernel
theorem dX12_join_51 : decode cX12_join 51 = .ok (.aload_n 0, 1) := by decide +kernel
theorem dX12_join_52 : decode cX12_join 52 = .ok (.getfield 13, 3) := by decide +kernel
theorem dX12_join_55 : decode cX12_join 55 = .ok (.iload_n 1, 1) := by decide +kernel
theorem dX12_join_56 : decode cX12_join 56 = .ok (.iaload, 1) := by decide +kernel
theorem dX12_join_57 : decode cX12_join 57 = .ok (.aload_n 0, 1) := by decide +kernel
theorem dX12_join_58 : decode cX12_join 58 = .ok (.getfield 13, 3) := by decide +kernel
theorem dX12_join_61 : decode cX12_join 61 = .ok (.iload_n 2, 1) := by decide +kernel
theorem dX12_join_62 : decode cX12_join 62 = .ok (.iaload, 1) := by decide +kernel
theorem dX12_join_63 : decode cX12_join 63 = .ok (.iadd, 1) := by decide +kernel
theorem dX12_join_64 : decode cX12_join 64 = .ok (.bipush 99, 2) := by decide +kernel
theorem dX12_join_66 : decode cX12_join 66 = .ok (.if_icmp .le 8, 3) := by decide +kernel
theorem dX12_join_69 : decode cX12_join 69 = .ok (.bipush 99, 2) := by decide +kernel
theorem dX12_join_71 : decode cX12_join 71 = .ok (.goto 16, 3) := by decide +kernel
theorem dX12_join_74 : decode cX12_join 74 = .ok (.aload_n 0, 1) := by decide +kernel
theorem dX12_join_75 : decode cX12_join 75 = .ok (.getfield 13, 3) := by decide +kernel
theorem dX12_join_78 : decode cX12_join 78 = .ok (.iload_n 1, 1) := by decide +kernel
theorem dX12_join_79 : decode cX12_join 79 = .ok (.iaload, 1) := by decide +kernel
theorem dX12_join_80 : decode cX12_join 80 = .ok (.aload_n 0, 1) := by decide +kernel
theorem dX12_join_81 : decode cX12_join 81 = .ok (.getfield 13, 3) := by decide +kernel
theorem dX12_join_84 : decode cX12_join 84 = .ok (.iload_n 2, 1) := by decide +kernel
theorem dX12_join_85 : decode cX12_join 85 = .ok (.iaload, 1) := by decide +kernel
theorem dX12_join_86 : decode cX12_join 86 = .ok (.iadd, 1) := by decide +kernel
theorem dX12_join_87 : decode cX12_join 87 = .ok (.iastore, 1) := by decide +kernel
theorem dX12_join_88 : decode cX12_join 88 = .ok (.aload_n 0, 1) := by decide +kernel
theorem dX12_join_89 : decode cX12_join 89 = .ok (.getfield 13, 3) := by decide +kernel
theorem dX12_join_92 : decode cX12_join 92 = .ok (.bipush 18, 2) := by decide +kernel
theorem dX12_join_94 : decode cX12_join 94 = .ok (.dup2, 1) := by decide +kernel
theorem dX12_join_95 : decode cX12_join 95 = .ok (.iaload, 1) := by decide +kernel
theorem dX12_join_96 : decode cX12_join 96 = .ok (.iconst 1, 1) := by decide +kernel
theorem dX12_join_97 : decode cX12_join 97 = .ok (.iload_n 2, 1) := by decide +kernel
theorem dX12_join_98 : decode cX12_join 98 = .ok (.ishl, 1) := by decide +kernel
theorem dX12_join_99 : decode cX12_join 99 = .ok (.iconst (-1), 1) := by decide +kernel
theorem dX12_join_100 : decode cX12_join 100 = .ok (.ixor, 1) := by decide +kernel
theorem dX12_join_101 : decode cX12_join 101 = .ok (.iand, 1) := by decide +kernel
theorem dX12_join_102 : decode cX12_join 102 = .ok (.iastore, 1) := by decide +kernel
theorem dX12_join_103 : decode cX12_join 103 = .ok (.iconst 0, 1) := by decide +kernel
theorem dX12_join_104 : decode cX12_join 104 = .ok (.ireturn, 1) := by decide +kernel
set_option maxRecDepth 20000 in
theorem ggX12_endMonth_X12_stands : GoodIn wsX12_endMonth wsX12_stands := goodIn_r _ [7, 1, 8, 9, 6, 10, 11, 12, 13, 18, 19, 20, 21, 22, 23, 24, 25, 26, 27, 28, 29, 30, 31, 32, 33, 34, 35, 36, 37, 38, 39] (by decide +kernel) (by decide +kernel)
set_option maxRecDepth 20000 in
theorem gX12_endMonth_X12_stands : GoodIn wsX12_endMonth (wsV RX12 83 RX12 yX12_stands wsX12_stands) := goodIn_app (goodIn_of _ (by decide +kernel)) ggX12_endMonth_X12_stands
set_option maxRecDepth 20000 in
theorem ggX12_endMonth_X12_cheer : GoodIn wsX12_endMonth wsX12_cheer := goodIn_r _ [17, 1, 18, 19, 20, 21, 22, 23, 24, 25, 26, 27, 28, 29, 30, 31, 32, 33, 34, 35, 36, 37, 38, 39] (by decide +kernel) (by decide +kernel)
set_option maxRecDepth 20000 in
theorem gX12_endMonth_X12_cheer : GoodIn wsX12_endMonth (wsV RX12 92 RX12 yX12_cheer wsX12_cheer) := goodIn_app (goodIn_of _ (by decide +kernel)) ggX12_endMonth_X12_cheer
theorem dX12_endMonth_0 : decode cX12_endMonth 0 = .ok (.aload_n 0, 1) := by decide +kernel
theorem dX12_endMonth_1 : decode cX12_endMonth 1 = .ok (.getfield 13, 3) := by decide +kernel
theorem dX12_endMonth_4 : decode cX12_endMonth 4 = .ok (.bipush 20, 2) := by decide +kernel
theorem dX12_endMonth_6 : decode cX12_endMonth 6 = .ok (.iaload, 1) := by decide +kernel
theorem dX12_endMonth_7 : decode cX12_endMonth 7 = .ok (.sipush 999, 3) := by decide +kernel
theorem dX12_endMonth_10 : decode cX12_endMonth 10 = .ok (.if_icmp .ne 6, 3) := by decide +kernel
theorem dX12_endMonth_13 : decode cX12_endMonth 13 = .ok (.bipush 6, 2) := by decide +kernel
theorem dX12_endMonth_15 : decode cX12_endMonth 15 = .ok (.ireturn, 1) := by decide +kernel
theorem dX12_endMonth_16 : decode cX12_endMonth 16 = .ok (.iconst 0, 1) := by decide +kernel
theorem dX12_endMonth_17 : decode cX12_endMonth 17 = .ok (.istore_n 1, 1) := by decide +kernel
theorem dX12_endMonth_18 : decode cX12_endMonth 18 = .ok (.iload_n 1, 1) := by decide +kernel
theorem dX12_endMonth_19 : decode cX12_endMonth 19 = .ok (.bipush 6, 2) := by decide +kernel
theorem dX12_endMonth_21 : decode cX12_endMonth 21 = .ok (.if_icmp .ge 77, 3) := by decide +kernel
theorem dX12_endMonth_24 : decode cX12_endMonth 24 = .ok (.aload_n 0, 1) := by decide +kernel
theorem dX12_endMonth_25 : decode cX12_endMonth 25 = .ok (.iload_n 1, 1) := by decide +kernel
theorem dX12_endMonth_26 : decode cX12_endMonth 26 = .ok (.invokevirtual 83, 3) := by decide +kernel
theorem dX12_endMonth_29 : decode cX12_endMonth 29 = .ok (.ifCond .eq 63, 3) := by decide +kernel
theorem dX12_endMonth_32 : decode cX12_endMonth 32 = .ok (.aload_n 0, 1) := by decide +kernel
theorem dX12_endMonth_33 : decode cX12_endMonth 33 = .ok (.iload_n 1, 1) := by decide +kernel
theorem dX12_endMonth_34 : decode cX12_endMonth 34 = .ok (.iconst 2, 1) := by decide +kernel
theorem dX12_endMonth_35 : decode cX12_endMonth 35 = .ok (.invokevirtual 92, 3) := by decide +kernel
theorem dX12_endMonth_38 : decode cX12_endMonth 38 = .ok (.aload_n 0, 1) := by decide +kernel
theorem dX12_endMonth_39 : decode cX12_endMonth 39 = .ok (.getfield 13, 3) := by decide +kernel
theorem dX12_endMonth_42 : decode cX12_endMonth 42 = .ok (.iload_n 1, 1) := by decide +kernel
theorem dX12_endMonth_43 : decode cX12_endMonth 43 = .ok (.dup2, 1) := by decide +kernel
theorem dX12_endMonth_44 : decode cX12_endMonth 44 = .ok (.iaload, 1) := by decide +kernel
theorem dX12_endMonth_45 : decode cX12_endMonth 45 = .ok (.aload_n 0, 1) := by decide +kernel
theorem dX12_endMonth_46 : decode cX12_endMonth 46 = .ok (.getfield 13, 3) := by decide +kernel
theorem dX12_endMonth_49 : decode cX12_endMonth 49 = .ok (.iload_n 1, 1) := by decide +kernel
theorem dX12_endMonth_50 : decode cX12_endMonth 50 = .ok (.iaload, 1) := by decide +kernel
theorem dX12_endMonth_51 : decode cX12_endMonth 51 = .ok (.iconst 1, 1) := by decide +kernel
theorem dX12_endMonth_52 : decode cX12_endMonth 52 = .ok (.if_icmp .le 37, 3) := by decide +kernel
theorem dX12_endMonth_55 : decode cX12_endMonth 55 = .ok (.aload_n 0, 1) := by decide +kernel
theorem dX12_endMonth_56 : decode cX12_endMonth 56 = .ok (.getfield 13, 3) := by decide +kernel
theorem dX12_endMonth_59 : decode cX12_endMonth 59 = .ok (.iload_n 1, 1) := by decide +kernel
theorem dX12_endMonth_60 : decode cX12_endMonth 60 = .ok (.iaload, 1) := by decide +kernel
theorem dX12_endMonth_61 : decode cX12_endMonth 61 = .ok (.bipush 99, 2) := by decide +kernel
theorem dX12_endMonth_63 : decode cX12_endMonth 63 = .ok (.if_icmp .ge 26, 3) := by decide +kernel
theorem dX12_endMonth_66 : decode cX12_endMonth 66 = .ok (.aload_n 0, 1) := by decide +kernel
theorem dX12_endMonth_67 : decode cX12_endMonth 67 = .ok (.getfield 13, 3) := by decide +kernel
theorem dX12_endMonth_70 : decode cX12_endMonth 70 = .ok (.bipush 20, 2) := by decide +kernel
theorem dX12_endMonth_72 : decode cX12_endMonth 72 = .ok (.iaload, 1) := by decide +kernel
theorem dX12_endMonth_73 : decode cX12_endMonth 73 = .ok (.bipush 12, 2) := by decide +kernel
theorem dX12_endMonth_75 : decode cX12_endMonth 75 = .ok (.irem, 1) := by decide +kernel
theorem dX12_endMonth_76 : decode cX12_endMonth 76 = .ok (.aload_n 0, 1) := by decide +kernel
theorem dX12_endMonth_77 : decode cX12_endMonth 77 = .ok (.getfield 16, 3) := by decide +kernel
theorem dX12_endMonth_80 : decode cX12_endMonth 80 = .ok (.iload_n 1, 1) := by decide +kernel
theorem dX12_endMonth_81 : decode cX12_endMonth 81 = .ok (.iaload, 1) := by decide +kernel
theorem dX12_endMonth_82 : decode cX12_endMonth 82 = .ok (.if_icmp .eq 7, 3) := by decide +kernel
theorem dX12_endMonth_85 : decode cX12_endMonth 85 = .ok (.iconst 1, 1) := by decide +kernel
theorem dX12_endMonth_86 : decode cX12_endMonth 86 = .ok (.goto 4, 3) := by decide +kernel
theorem dX12_endMonth_89 : decode cX12_endMonth 89 = .ok (.iconst 0, 1) := by decide +kernel
theorem dX12_endMonth_90 : decode cX12_endMonth 90 = .ok (.iadd, 1) := by decide +kernel
theorem dX12_endMonth_91 : decode cX12_endMonth 91 = .ok (.iastore, 1) := by decide +kernel
theorem dX12_endMonth_92 : decode cX12_endMonth 92 = .ok (.iinc 1 1, 3) := by decide +kernel
theorem dX12_endMonth_95 : decode cX12_endMonth 95 = .ok (.goto (-77), 3) := by decide +kernel
theorem dX12_endMonth_98 : decode cX12_endMonth 98 = .ok (.aload_n 0, 1) := by decide +kernel
theorem dX12_endMonth_99 : decode cX12_endMonth 99 = .ok (.getfield 13, 3) := by decide +kernel
theorem dX12_endMonth_102 : decode cX12_endMonth 102 = .ok (.bipush 20, 2) := by decide +kernel
theorem dX12_endMonth_104 : decode cX12_endMonth 104 = .ok (.dup2, 1) := by decide +kernel
theorem dX12_endMonth_105 : decode cX12_endMonth 105 = .ok (.iaload, 1) := by decide +kernel
theorem dX12_endMonth_106 : decode cX12_endMonth 106 = .ok (.iconst 1, 1) := by decide +kernel
theorem dX12_endMonth_107 : decode cX12_endMonth 107 = .ok (.iadd, 1) := by decide +kernel
theorem dX12_endMonth_108 : decode cX12_endMonth 108 = .ok (.iastore, 1) := by decide +kernel
theorem dX12_endMonth_109 : decode cX12_endMonth 109 = .ok (.iconst 0, 1) := by decide +kernel
theorem dX12_endMonth_110 : decode cX12_endMonth 110 = .ok (.ireturn, 1) := by decide +kernel
set_option maxRecDepth 20000 in
theorem ggX12_herdAct_X12_whistle : GoodIn wsX12_herdAct wsX12_whistle := goodIn_r _ [5, 6, 7, 8, 9, 4, 10, 11, 12, 13, 14, 15, 16, 17, 18, 19, 20, 29, 30, 31, 32, 33, 34, 35, 36, 37, 38, 39, 40, 41, 42, 43, 44, 45, 46, 47, 48, 49, 50] (by decide +kernel) (by decide +kernel)
set_option maxRecDepth 20000 in
theorem gX12_herdAct_X12_whistle : GoodIn wsX12_herdAct (wsV RX12 96 RX12 yX12_whistle wsX12_whistle) := goodIn_app (goodIn_of _ (by decide +kernel)) ggX12_herdAct_X12_whistle
set_option maxRecDepth 20000 in
theorem ggX12_herdAct_X12_net : GoodIn wsX12_herdAct wsX12_net := goodIn_r _ [24, 6, 7, 8, 9, 4, 10, 11, 12, 13, 14, 15, 16, 29, 30, 31, 32, 33, 34, 35, 36, 37, 38, 39, 40, 41, 42, 43, 44, 45, 46, 47, 48, 49, 50] (by decide +kernel) (by decide +kernel)
set_option maxRecDepth 20000 in
theorem gX12_herdAct_X12_net : GoodIn wsX12_herdAct (wsV RX12 99 RX12 yX12_net wsX12_net) := goodIn_app (goodIn_of _ (by decide +kernel)) ggX12_herdAct_X12_net
set_option maxRecDepth 20000 in
theorem ggX12_herdAct_X12_join : GoodIn wsX12_herdAct wsX12_join := goodIn_r _ [28, 6, 7, 8, 9, 4, 10, 11, 12, 13, 14, 15, 16, 29, 30, 31, 32, 33, 34, 35, 36, 37, 38, 39, 40, 41, 42, 43, 44, 45, 46, 47, 48, 49, 50] (by decide +kernel) (by decide +kernel)
set_option maxRecDepth 20000 in
theorem gX12_herdAct_X12_join : GoodIn wsX12_herdAct (wsV RX12 102 RX12 yX12_join wsX12_join) := goodIn_app (goodIn_of _ (by decide +kernel)) ggX12_herdAct_X12_join
theorem dX12_herdAct_0 : decode cX12_herdAct 0 = .ok (.iload_n 2, 1) := by decide +kernel
theorem dX12_herdAct_1 : decode cX12_herdAct 1 = .ok (.bipush 63, 2) := by decide +kernel
theorem dX12_herdAct_3 : decode cX12_herdAct 3 = .ok (.if_icmp .ne 11, 3) := by decide +kernel
theorem dX12_herdAct_6 : decode cX12_herdAct 6 = .ok (.aload_n 0, 1) := by decide +kernel
theorem dX12_herdAct_7 : decode cX12_herdAct 7 = .ok (.iload_n 1, 1) := by decide +kernel
theorem dX12_herdAct_8 : decode cX12_herdAct 8 = .ok (.invokevirtual 96, 3) := by decide +kernel
theorem dX12_herdAct_11 : decode cX12_herdAct 11 = .ok (.goto 23, 3) := by decide +kernel
theorem dX12_herdAct_14 : decode cX12_herdAct 14 = .ok (.iload_n 2, 1) := by decide +kernel
theorem dX12_herdAct_15 : decode cX12_herdAct 15 = .ok (.bipush 33, 2) := by decide +kernel
theorem dX12_herdAct_17 : decode cX12_herdAct 17 = .ok (.if_icmp .ne 11, 3) := by decide +kernel
theorem dX12_herdAct_20 : decode cX12_herdAct 20 = .ok (.aload_n 0, 1) := by decide +kernel
theorem dX12_herdAct_21 : decode cX12_herdAct 21 = .ok (.iload_n 1, 1) := by decide +kernel
theorem dX12_herdAct_22 : decode cX12_herdAct 22 = .ok (.invokevirtual 99, 3) := by decide +kernel
theorem dX12_herdAct_25 : decode cX12_herdAct 25 = .ok (.goto 9, 3) := by decide +kernel
theorem dX12_herdAct_28 : decode cX12_herdAct 28 = .ok (.aload_n 0, 1) := by decide +kernel
theorem dX12_herdAct_29 : decode cX12_herdAct 29 = .ok (.iload_n 1, 1) := by decide +kernel
theorem dX12_herdAct_30 : decode cX12_herdAct 30 = .ok (.iload_n 3, 1) := by decide +kernel
theorem dX12_herdAct_31 : decode cX12_herdAct 31 = .ok (.invokevirtual 102, 3) := by decide +kernel
theorem dX12_herdAct_34 : decode cX12_herdAct 34 = .ok (.ireturn, 1) := by decide +kernel
set_option maxRecDepth 20000 in
theorem ggX12_goSeasons_X12_asNow : GoodIn wsX12_goSeasons wsX12_asNow := goodIn_r _ [9, 10, 11, 12, 13, 62, 63, 64, 65, 66, 67, 68, 69, 70, 71, 72, 73, 74, 75, 76, 77, 78, 79, 80, 81, 82, 83] (by decide +kernel) (by decide +kernel)
set_option maxRecDepth 20000 in
theorem gX12_goSeasons_X12_asNow : GoodIn wsX12_goSeasons (wsV RX12 106 RX12 yX12_asNow wsX12_asNow) := goodIn_app (goodIn_of _ (by decide +kernel)) ggX12_goSeasons_X12_asNow
set_option maxRecDepth 20000 in
theorem ggX12_goSeasons_X12_in : GoodIn wsX12_goSeasons wsX12_in := goodIn_r _ [16] (by decide +kernel) (by decide +kernel)
set_option maxRecDepth 20000 in
theorem gX12_goSeasons_X12_in : GoodIn wsX12_goSeasons (va_wsS RX12 53 yX12_in wsX12_in) := goodIn_app (goodIn_of _ (by decide +kernel)) ggX12_goSeasons_X12_in
set_option maxRecDepth 20000 in
theorem ggX12_goSeasons_X12_herdAct : GoodIn wsX12_goSeasons wsX12_herdAct := goodIn_r _ [20, 21, 22, 23, 8, 24, 10, 25, 26, 27, 28, 14, 15, 16, 29, 30, 31, 32, 33, 34, 35, 36, 37, 38, 39, 40, 41, 42, 43, 62, 63, 64, 65, 66, 67, 68, 69, 70, 71, 72, 73, 74, 75, 76, 77, 78, 79, 80, 81, 82, 83] (by decide +kernel) (by decide +kernel)
set_option maxRecDepth 20000 in
theorem gX12_goSeasons_X12_herdAct : GoodIn wsX12_goSeasons (wsV RX12 112 RX12 yX12_herdAct wsX12_herdAct) := goodIn_app (goodIn_of _ (by decide +kernel)) ggX12_goSeasons_X12_herdAct
set_option maxRecDepth 20000 in
theorem ggX12_goSeasons_X12_endMonth : GoodIn wsX12_goSeasons wsX12_endMonth := goodIn_r _ [47, 10, 48, 25, 26, 27, 8, 28, 14, 15, 16, 29, 30, 31, 32, 33, 34, 35, 62, 63, 64, 65, 66, 67, 68, 69, 70, 71, 72, 73, 74, 75, 76, 77, 78, 79, 80, 81, 82, 83] (by decide +kernel) (by decide +kernel)
set_option maxRecDepth 20000 in
theorem gX12_goSeasons_X12_endMonth : GoodIn wsX12_goSeasons (wsV RX12 119 RX12 yX12_endMonth wsX12_endMonth) := goodIn_app (goodIn_of _ (by decide +kernel)) ggX12_goSeasons_X12_endMonth
set_option maxRecDepth 20000 in
theorem ggX12_goSeasons_X12_read : GoodIn wsX12_goSeasons wsX12_read := goodIn_r _ [52, 10, 53, 12, 13, 54, 55, 56, 8, 57, 58, 59, 60, 61, 48, 25, 26, 27, 28, 14, 15, 16, 29, 30, 31, 32, 33, 34, 35, 62, 63, 64, 65, 66, 67, 68, 69, 70, 71, 72, 73, 74, 75, 76, 77, 78, 79, 80, 81, 82, 83] (by decide +kernel) (by decide +kernel)
set_option maxRecDepth 20000 in
theorem gX12_goSeasons_X12_read : GoodIn wsX12_goSeasons (wsV RX12 122 RX12 yX12_read wsX12_read) := goodIn_app (goodIn_of _ (by decide +kernel)) ggX12_goSeasons_X12_read
theorem dX12_goSeasons_0 : decode cX12_goSeasons 0 = .ok (.aload_n 0, 1) := by decide +kernel
theorem dX12_goSeasons_1 : decode cX12_goSeasons 1 = .ok (.invokevirtual 106, 3) := by decide +kernel
theorem dX12_goSeasons_4 : decode cX12_goSeasons 4 = .ok (.aload_n 0, 1) := by decide +kernel
theorem dX12_goSeasons_5 : decode cX12_goSeasons 5 = .ok (.iconst 0, 1) := by decide +kernel
theorem dX12_goSeasons_6 : decode cX12_goSeasons 6 = .ok (.putfield 109, 3) := by decide +kernel
theorem dX12_goSeasons_9 : decode cX12_goSeasons 9 = .ok (.iconst 0, 1) := by decide +kernel
theorem dX12_goSeasons_10 : decode cX12_goSeasons 10 = .ok (.istore_n 1, 1) := by decide +kernel
theorem dX12_goSeasons_11 : decode cX12_goSeasons 11 = .ok (.iload_n 1, 1) := by decide +kernel
theorem dX12_goSeasons_12 : decode cX12_goSeasons 12 = .ok (.aload_n 0, 1) := by decide +kernel
theorem dX12_goSeasons_13 : decode cX12_goSeasons 13 = .ok (.getfield 69, 3) := by decide +kernel
theorem dX12_goSeasons_16 : decode cX12_goSeasons 16 = .ok (.if_icmp .ge 134, 3) := by decide +kernel
theorem dX12_goSeasons_19 : decode cX12_goSeasons 19 = .ok (.aload_n 0, 1) := by decide +kernel
theorem dX12_goSeasons_20 : decode cX12_goSeasons 20 = .ok (.getfield 31, 3) := by decide +kernel
theorem dX12_goSeasons_23 : decode cX12_goSeasons 23 = .ok (.iload_n 1, 1) := by decide +kernel
theorem dX12_goSeasons_24 : decode cX12_goSeasons 24 = .ok (.iaload, 1) := by decide +kernel
theorem dX12_goSeasons_25 : decode cX12_goSeasons 25 = .ok (.istore_n 2, 1) := by decide +kernel
theorem dX12_goSeasons_26 : decode cX12_goSeasons 26 = .ok (.iload_n 2, 1) := by decide +kernel
theorem dX12_goSeasons_27 : decode cX12_goSeasons 27 = .ok (.bipush 65, 2) := by decide +kernel
theorem dX12_goSeasons_29 : decode cX12_goSeasons 29 = .ok (.bipush 70, 2) := by decide +kernel
theorem dX12_goSeasons_31 : decode cX12_goSeasons 31 = .ok (.invokestatic 53, 3) := by decide +kernel
theorem dX12_goSeasons_34 : decode cX12_goSeasons 34 = .ok (.ifCond .eq 63, 3) := by decide +kernel
theorem dX12_goSeasons_37 : decode cX12_goSeasons 37 = .ok (.aload_n 0, 1) := by decide +kernel
theorem dX12_goSeasons_38 : decode cX12_goSeasons 38 = .ok (.getfield 31, 3) := by decide +kernel
theorem dX12_goSeasons_41 : decode cX12_goSeasons 41 = .ok (.iload_n 1, 1) := by decide +kernel
theorem dX12_goSeasons_42 : decode cX12_goSeasons 42 = .ok (.iconst 1, 1) := by decide +kernel
theorem dX12_goSeasons_43 : decode cX12_goSeasons 43 = .ok (.iadd, 1) := by decide +kernel
theorem dX12_goSeasons_44 : decode cX12_goSeasons 44 = .ok (.iaload, 1) := by decide +kernel
theorem dX12_goSeasons_45 : decode cX12_goSeasons 45 = .ok (.istore_n 3, 1) := by decide +kernel
theorem dX12_goSeasons_46 : decode cX12_goSeasons 46 = .ok (.aload_n 0, 1) := by decide +kernel
theorem dX12_goSeasons_47 : decode cX12_goSeasons 47 = .ok (.aload_n 0, 1) := by decide +kernel
theorem dX12_goSeasons_48 : decode cX12_goSeasons 48 = .ok (.iload_n 2, 1) := by decide +kernel
theorem dX12_goSeasons_49 : decode cX12_goSeasons 49 = .ok (.bipush 65, 2) := by decide +kernel
theorem dX12_goSeasons_51 : decode cX12_goSeasons 51 = .ok (.isub, 1) := by decide +kernel
theorem dX12_goSeasons_52 : decode cX12_goSeasons 52 = .ok (.iload_n 3, 1) := by decide +kernel
theorem dX12_goSeasons_53 : decode cX12_goSeasons 53 = .ok (.iload_n 3, 1) := by decide +kernel
theorem dX12_goSeasons_54 : decode cX12_goSeasons 54 = .ok (.bipush 38, 2) := by decide +kernel
theorem dX12_goSeasons_56 : decode cX12_goSeasons 56 = .ok (.if_icmp .ne 17, 3) := by decide +kernel
theorem dX12_goSeasons_59 : decode cX12_goSeasons 59 = .ok (.aload_n 0, 1) := by decide +kernel
theorem dX12_goSeasons_60 : decode cX12_goSeasons 60 = .ok (.getfield 31, 3) := by decide +kernel
theorem dX12_goSeasons_63 : decode cX12_goSeasons 63 = .ok (.iload_n 1, 1) := by decide +kernel
theorem dX12_goSeasons_64 : decode cX12_goSeasons 64 = .ok (.iconst 2, 1) := by decide +kernel
theorem dX12_goSeasons_65 : decode cX12_goSeasons 65 = .ok (.iadd, 1) := by decide +kernel
theorem dX12_goSeasons_66 : decode cX12_goSeasons 66 = .ok (.iaload, 1) := by decide +kernel
theorem dX12_goSeasons_67 : decode cX12_goSeasons 67 = .ok (.bipush 65, 2) := by decide +kernel
theorem dX12_goSeasons_69 : decode cX12_goSeasons 69 = .ok (.isub, 1) := by decide +kernel
theorem dX12_goSeasons_70 : decode cX12_goSeasons 70 = .ok (.goto 4, 3) := by decide +kernel
theorem dX12_goSeasons_73 : decode cX12_goSeasons 73 = .ok (.iconst 0, 1) := by decide +kernel
theorem dX12_goSeasons_74 : decode cX12_goSeasons 74 = .ok (.invokevirtual 112, 3) := by decide +kernel
theorem dX12_goSeasons_77 : decode cX12_goSeasons 77 = .ok (.putfield 116, 3) := by decide +kernel
theorem dX12_goSeasons_80 : decode cX12_goSeasons 80 = .ok (.iload_n 1, 1) := by decide +kernel
theorem dX12_goSeasons_81 : decode cX12_goSeasons 81 = .ok (.iload_n 3, 1) := by decide +kernel
theorem dX12_goSeasons_82 : decode cX12_goSeasons 82 = .ok (.bipush 38, 2) := by decide +kernel
theorem dX12_goSeasons_84 : decode cX12_goSeasons 84 = .ok (.if_icmp .ne 7, 3) := by decide +kernel
theorem dX12_goSeasons_87 : decode cX12_goSeasons 87 = .ok (.iconst 3, 1) := by decide +kernel
theorem dX12_goSeasons_88 : decode cX12_goSeasons 88 = .ok (.goto 4, 3) := by decide +kernel
theorem dX12_goSeasons_91 : decode cX12_goSeasons 91 = .ok (.iconst 2, 1) := by decide +kernel
theorem dX12_goSeasons_92 : decode cX12_goSeasons 92 = .ok (.iadd, 1) := by decide +kernel
theorem dX12_goSeasons_93 : decode cX12_goSeasons 93 = .ok (.istore_n 1, 1) := by decide +kernel
theorem dX12_goSeasons_94 : decode cX12_goSeasons 94 = .ok (.goto 31, 3) := by decide +kernel
theorem dX12_goSeasons_97 : decode cX12_goSeasons 97 = .ok (.aload_n 0, 1) := by decide +kernel
theorem dX12_goSeasons_98 : decode cX12_goSeasons 98 = .ok (.iload_n 2, 1) := by decide +kernel
theorem dX12_goSeasons_99 : decode cX12_goSeasons 99 = .ok (.bipush 46, 2) := by decide +kernel
theorem dX12_goSeasons_101 : decode cX12_goSeasons 101 = .ok (.if_icmp .ne 10, 3) := by decide +kernel
theorem dX12_goSeasons_104 : decode cX12_goSeasons 104 = .ok (.aload_n 0, 1) := by decide +kernel
theorem dX12_goSeasons_105 : decode cX12_goSeasons 105 = .ok (.invokevirtual 119, 3) := by decide +kernel
theorem dX12_goSeasons_108 : decode cX12_goSeasons 108 = .ok (.goto 11, 3) := by decide +kernel
theorem dX12_goSeasons_111 : decode cX12_goSeasons 111 = .ok (.aload_n 0, 1) := by decide +kernel
theorem dX12_goSeasons_112 : decode cX12_goSeasons 112 = .ok (.iload_n 2, 1) := by decide +kernel
theorem dX12_goSeasons_113 : decode cX12_goSeasons 113 = .ok (.bipush 97, 2) := by decide +kernel
theorem dX12_goSeasons_115 : decode cX12_goSeasons 115 = .ok (.isub, 1) := by decide +kernel
theorem dX12_goSeasons_116 : decode cX12_goSeasons 116 = .ok (.invokevirtual 122, 3) := by decide +kernel
theorem dX12_goSeasons_119 : decode cX12_goSeasons 119 = .ok (.putfield 116, 3) := by decide +kernel
theorem dX12_goSeasons_122 : decode cX12_goSeasons 122 = .ok (.iinc 1 1, 3) := by decide +kernel
theorem dX12_goSeasons_125 : decode cX12_goSeasons 125 = .ok (.aload_n 0, 1) := by decide +kernel
theorem dX12_goSeasons_126 : decode cX12_goSeasons 126 = .ok (.getfield 116, 3) := by decide +kernel
theorem dX12_goSeasons_129 : decode cX12_goSeasons 129 = .ok (.ifCond .le 8, 3) := by decide +kernel
theorem dX12_goSeasons_132 : decode cX12_goSeasons 132 = .ok (.aload_n 0, 1) := by decide +kernel
theorem dX12_goSeasons_133 : decode cX12_goSeasons 133 = .ok (.getfield 109, 3) := by decide +kernel
theorem dX12_goSeasons_136 : decode cX12_goSeasons 136 = .ok (.ireturn, 1) := by decide +kernel
theorem dX12_goSeasons_137 : decode cX12_goSeasons 137 = .ok (.aload_n 0, 1) := by decide +kernel
theorem dX12_goSeasons_138 : decode cX12_goSeasons 138 = .ok (.dup, 1) := by decide +kernel
theorem dX12_goSeasons_139 : decode cX12_goSeasons 139 = .ok (.getfield 109, 3) := by decide +kernel
theorem dX12_goSeasons_142 : decode cX12_goSeasons 142 = .ok (.iconst 1, 1) := by decide +kernel
theorem dX12_goSeasons_143 : decode cX12_goSeasons 143 = .ok (.iadd, 1) := by decide +kernel
theorem dX12_goSeasons_144 : decode cX12_goSeasons 144 = .ok (.putfield 109, 3) := by decide +kernel
theorem dX12_goSeasons_147 : decode cX12_goSeasons 147 = .ok (.goto (-136), 3) := by decide +kernel
theorem dX12_goSeasons_150 : decode cX12_goSeasons 150 = .ok (.bipush (-6), 2) := by decide +kernel
theorem dX12_goSeasons_152 : decode cX12_goSeasons 152 = .ok (.ireturn, 1) := by decide +kernel
set_option maxRecDepth 20000 in
theorem ggX12_judge_X12_in : GoodIn wsX12_judge wsX12_in := goodIn_r _ [5] (by decide +kernel) (by decide +kernel)
set_option maxRecDepth 20000 in
theorem gX12_judge_X12_in : GoodIn wsX12_judge (va_wsS RX12 53 yX12_in wsX12_in) := goodIn_app (goodIn_of _ (by decide +kernel)) ggX12_judge_X12_in
set_option maxRecDepth 20000 in
theorem ggX12_judge_X12_faultOf : GoodIn wsX12_judge wsX12_faultOf := goodIn_r _ [9, 10, 11, 2, 3, 4, 5, 70, 71, 72, 73, 74, 75, 76, 77, 78, 79, 80, 81, 82, 83, 84, 85, 86, 87, 88, 89, 90, 91] (by decide +kernel) (by decide +kernel)
set_option maxRecDepth 20000 in
theorem gX12_judge_X12_faultOf : GoodIn wsX12_judge (wsV RX12 73 RX12 yX12_faultOf wsX12_faultOf) := goodIn_app (goodIn_of _ (by decide +kernel)) ggX12_judge_X12_faultOf
set_option maxRecDepth 20000 in
theorem ggX12_judge_X12_goSeasons : GoodIn wsX12_judge wsX12_goSeasons := goodIn_r _ [15, 16, 10, 11, 1, 17, 18, 19, 4, 20, 21, 22, 23, 24, 2, 3, 5, 25, 26, 27, 28, 29, 30, 31, 32, 33, 34, 35, 36, 37, 38, 39, 40, 41, 42, 43, 44, 45, 46, 47, 48, 49, 50, 51, 52, 53, 54, 55, 56, 57, 58, 59, 60, 61, 62, 63, 64, 65, 66, 67, 68, 69, 70, 71, 72, 73, 74, 75, 76, 77, 78, 79, 80, 81, 82, 83, 84, 85, 86, 87, 88, 89, 90, 91] (by decide +kernel) (by decide +kernel)
set_option maxRecDepth 20000 in
theorem gX12_judge_X12_goSeasons : GoodIn wsX12_judge (wsV RX12 125 RX12 yX12_goSeasons wsX12_goSeasons) := goodIn_app (goodIn_of _ (by decide +kernel)) ggX12_judge_X12_goSeasons
theorem dX12_judge_0 : decode cX12_judge 0 = .ok (.iload_n 1, 1) := by decide +kernel
theorem dX12_judge_1 : decode cX12_judge 1 = .ok (.iconst 0, 1) := by decide +kernel
theorem dX12_judge_2 : decode cX12_judge 2 = .ok (.iconst 1, 1) := by decide +kernel
theorem dX12_judge_3 : decode cX12_judge 3 = .ok (.invokestatic 53, 3) := by decide +kernel
theorem dX12_judge_6 : decode cX12_judge 6 = .ok (.ifCond .ne 6, 3) := by decide +kernel
theorem dX12_judge_9 : decode cX12_judge 9 = .ok (.bipush (-2), 2) := by decide +kernel
theorem dX12_judge_11 : decode cX12_judge 11 = .ok (.ireturn, 1) := by decide +kernel
theorem dX12_judge_12 : decode cX12_judge 12 = .ok (.aload_n 0, 1) := by decide +kernel
theorem dX12_judge_13 : decode cX12_judge 13 = .ok (.invokevirtual 73, 3) := by decide +kernel
theorem dX12_judge_16 : decode cX12_judge 16 = .ok (.ifCond .lt 6, 3) := by decide +kernel
theorem dX12_judge_19 : decode cX12_judge 19 = .ok (.bipush (-5), 2) := by decide +kernel
theorem dX12_judge_21 : decode cX12_judge 21 = .ok (.ireturn, 1) := by decide +kernel
theorem dX12_judge_22 : decode cX12_judge 22 = .ok (.aload_n 0, 1) := by decide +kernel
theorem dX12_judge_23 : decode cX12_judge 23 = .ok (.invokevirtual 125, 3) := by decide +kernel
theorem dX12_judge_26 : decode cX12_judge 26 = .ok (.istore_n 2, 1) := by decide +kernel
theorem dX12_judge_27 : decode cX12_judge 27 = .ok (.iload_n 2, 1) := by decide +kernel
theorem dX12_judge_28 : decode cX12_judge 28 = .ok (.ifCond .lt 7, 3) := by decide +kernel
theorem dX12_judge_31 : decode cX12_judge 31 = .ok (.iload_n 1, 1) := by decide +kernel
theorem dX12_judge_32 : decode cX12_judge 32 = .ok (.ifCond .ne 7, 3) := by decide +kernel
theorem dX12_judge_35 : decode cX12_judge 35 = .ok (.iload_n 2, 1) := by decide +kernel
theorem dX12_judge_36 : decode cX12_judge 36 = .ok (.goto 7, 3) := by decide +kernel
theorem dX12_judge_39 : decode cX12_judge 39 = .ok (.aload_n 0, 1) := by decide +kernel
theorem dX12_judge_40 : decode cX12_judge 40 = .ok (.getfield 116, 3) := by decide +kernel
theorem dX12_judge_43 : decode cX12_judge 43 = .ok (.ireturn, 1) := by decide +kernel
set_option maxRecDepth 20000 in
theorem ggX12_barOfSeasons_X12_faultOf : GoodIn wsX12_barOfSeasons wsX12_faultOf := goodIn_r _ [5, 6, 7, 8, 9, 4, 10, 70, 71, 72, 73, 74, 75, 76, 77, 78, 79, 80, 81, 82, 83, 84, 85, 86, 87, 88, 89, 90, 91] (by decide +kernel) (by decide +kernel)
set_option maxRecDepth 20000 in
theorem gX12_barOfSeasons_X12_faultOf : GoodIn wsX12_barOfSeasons (wsV RX12 73 RX12 yX12_faultOf wsX12_faultOf) := goodIn_app (goodIn_of _ (by decide +kernel)) ggX12_barOfSeasons_X12_faultOf
set_option maxRecDepth 20000 in
theorem ggX12_barOfSeasons_X12_goSeasons : GoodIn wsX12_barOfSeasons wsX12_goSeasons := goodIn_r _ [14, 15, 6, 7, 16, 17, 18, 19, 4, 20, 21, 22, 23, 24, 8, 9, 10, 25, 26, 27, 28, 29, 30, 31, 32, 33, 34, 35, 36, 37, 38, 39, 40, 41, 42, 43, 44, 45, 46, 47, 48, 49, 50, 51, 52, 53, 54, 55, 56, 57, 58, 59, 60, 61, 62, 63, 64, 65, 66, 67, 68, 69, 70, 71, 72, 73, 74, 75, 76, 77, 78, 79, 80, 81, 82, 83, 84, 85, 86, 87, 88, 89, 90, 91] (by decide +kernel) (by decide +kernel)
set_option maxRecDepth 20000 in
theorem gX12_barOfSeasons_X12_goSeasons : GoodIn wsX12_barOfSeasons (wsV RX12 125 RX12 yX12_goSeasons wsX12_goSeasons) := goodIn_app (goodIn_of _ (by decide +kernel)) ggX12_barOfSeasons_X12_goSeasons
theorem dX12_barOfSeasons_0 : decode cX12_barOfSeasons 0 = .ok (.aload_n 0, 1) := by decide +kernel
theorem dX12_barOfSeasons_1 : decode cX12_barOfSeasons 1 = .ok (.invokevirtual 73, 3) := by decide +kernel
theorem dX12_barOfSeasons_4 : decode cX12_barOfSeasons 4 = .ok (.ifCond .ge 10, 3) := by decide +kernel
theorem dX12_barOfSeasons_7 : decode cX12_barOfSeasons 7 = .ok (.aload_n 0, 1) := by decide +kernel
theorem dX12_barOfSeasons_8 : decode cX12_barOfSeasons 8 = .ok (.invokevirtual 125, 3) := by decide +kernel
theorem dX12_barOfSeasons_11 : decode cX12_barOfSeasons 11 = .ok (.ifCond .lt 8, 3) := by decide +kernel
theorem dX12_barOfSeasons_14 : decode cX12_barOfSeasons 14 = .ok (.bipush (-5), 2) := by decide +kernel
theorem dX12_barOfSeasons_16 : decode cX12_barOfSeasons 16 = .ok (.goto 4, 3) := by decide +kernel
theorem dX12_barOfSeasons_19 : decode cX12_barOfSeasons 19 = .ok (.iconst 0, 1) := by decide +kernel
theorem dX12_barOfSeasons_20 : decode cX12_barOfSeasons 20 = .ok (.ireturn, 1) := by decide +kernel
set_option maxRecDepth 20000 in
theorem ggX12_done_X12_barOfSeasons : GoodIn wsX12_done wsX12_barOfSeasons := goodIn_r _ [9, 10, 11, 12, 8, 13, 3, 14, 15, 16, 17, 18, 19, 20, 21, 4, 22, 23, 24, 25, 26, 2, 1, 27, 28, 29, 30, 31, 32, 33, 34, 35, 36, 37, 38, 39, 40, 41, 42, 43, 44, 45, 46, 47, 48, 49, 50, 51, 52, 53, 54, 55, 56, 57, 58, 59, 60, 61, 62, 63, 64, 65, 66, 67, 68, 69, 70, 71, 72, 73, 74, 75, 76, 77, 78, 79, 80, 81, 82, 83, 84, 85, 86, 87, 88, 89, 90, 91, 92, 93, 94, 95] (by decide +kernel) (by decide +kernel)
set_option maxRecDepth 20000 in
theorem gX12_done_X12_barOfSeasons : GoodIn wsX12_done (wsV RX12 128 RX12 yX12_barOfSeasons wsX12_barOfSeasons) := goodIn_app (goodIn_of _ (by decide +kernel)) ggX12_done_X12_barOfSeasons
theorem dX12_done_0 : decode cX12_done 0 = .ok (.aload_n 0, 1) := by decide +kernel
theorem dX12_done_1 : decode cX12_done 1 = .ok (.invokevirtual 128, 3) := by decide +kernel
theorem dX12_done_4 : decode cX12_done 4 = .ok (.ifCond .ge 6, 3) := by decide +kernel
theorem dX12_done_7 : decode cX12_done 7 = .ok (.bipush (-5), 2) := by decide +kernel
theorem dX12_done_9 : decode cX12_done 9 = .ok (.ireturn, 1) := by decide +kernel
theorem dX12_done_10 : decode cX12_done 10 = .ok (.iconst 0, 1) := by decide +kernel
theorem dX12_done_11 : decode cX12_done 11 = .ok (.istore_n 1, 1) := by decide +kernel
theorem dX12_done_12 : decode cX12_done 12 = .ok (.iload_n 1, 1) := by decide +kernel
theorem dX12_done_13 : decode cX12_done 13 = .ok (.bipush 21, 2) := by decide +kernel
theorem dX12_done_15 : decode cX12_done 15 = .ok (.if_icmp .ge 21, 3) := by decide +kernel
theorem dX12_done_18 : decode cX12_done 18 = .ok (.aload_n 0, 1) := by decide +kernel
theorem dX12_done_19 : decode cX12_done 19 = .ok (.getfield 7, 3) := by decide +kernel
theorem dX12_done_22 : decode cX12_done 22 = .ok (.iload_n 1, 1) := by decide +kernel
theorem dX12_done_23 : decode cX12_done 23 = .ok (.aload_n 0, 1) := by decide +kernel
theorem dX12_done_24 : decode cX12_done 24 = .ok (.getfield 13, 3) := by decide +kernel
theorem dX12_done_27 : decode cX12_done 27 = .ok (.iload_n 1, 1) := by decide +kernel
theorem dX12_done_28 : decode cX12_done 28 = .ok (.iaload, 1) := by decide +kernel
theorem dX12_done_29 : decode cX12_done 29 = .ok (.iastore, 1) := by decide +kernel
theorem dX12_done_30 : decode cX12_done 30 = .ok (.iinc 1 1, 3) := by decide +kernel
theorem dX12_done_33 : decode cX12_done 33 = .ok (.goto (-21), 3) := by decide +kernel
theorem dX12_done_36 : decode cX12_done 36 = .ok (.aload_n 0, 1) := by decide +kernel
theorem dX12_done_37 : decode cX12_done 37 = .ok (.iconst 0, 1) := by decide +kernel
theorem dX12_done_38 : decode cX12_done 38 = .ok (.putfield 69, 3) := by decide +kernel
theorem dX12_done_41 : decode cX12_done 41 = .ok (.aload_n 0, 1) := by decide +kernel
theorem dX12_done_42 : decode cX12_done 42 = .ok (.getfield 109, 3) := by decide +kernel
theorem dX12_done_45 : decode cX12_done 45 = .ok (.ireturn, 1) := by decide +kernel
set_option maxRecDepth 20000 in
theorem ggX12_behind_X12_isThere : GoodIn wsX12_behind wsX12_isThere := goodIn_r _ [6, 7, 8, 9, 5, 10, 11, 12, 13, 78, 79, 80, 81, 82, 83, 84, 85, 86, 87, 88, 89, 90, 91, 92, 93, 94, 95, 96, 97, 98, 99] (by decide +kernel) (by decide +kernel)
set_option maxRecDepth 20000 in
theorem gX12_behind_X12_isThere : GoodIn wsX12_behind (wsV RX12 131 RX12 yX12_isThere wsX12_isThere) := goodIn_app (goodIn_of _ (by decide +kernel)) ggX12_behind_X12_isThere
set_option maxRecDepth 20000 in
theorem ggX12_behind_X12_in : GoodIn wsX12_behind wsX12_in := goodIn_r _ [10] (by decide +kernel) (by decide +kernel)
set_option maxRecDepth 20000 in
theorem gX12_behind_X12_in : GoodIn wsX12_behind (va_wsS RX12 53 yX12_in wsX12_in) := goodIn_app (goodIn_of _ (by decide +kernel)) ggX12_behind_X12_in
set_option maxRecDepth 20000 in
theorem ggX12_behind_X12_barOfSeasons : GoodIn wsX12_behind wsX12_barOfSeasons := goodIn_r _ [17, 18, 19, 20, 5, 21, 22, 23, 8, 9, 10, 24, 25, 26, 27, 28, 29, 30, 31, 32, 33, 1, 7, 34, 35, 36, 37, 38, 39, 40, 41, 42, 43, 44, 45, 46, 47, 11, 12, 13, 48, 49, 50, 51, 52, 53, 54, 55, 56, 57, 58, 59, 60, 61, 62, 63, 64, 65, 66, 67, 68, 69, 70, 71, 72, 73, 74, 75, 76, 77, 78, 79, 80, 81, 82, 83, 84, 85, 86, 87, 88, 89, 90, 91, 92, 93, 94, 95, 96, 97, 98, 99] (by decide +kernel) (by decide +kernel)
set_option maxRecDepth 20000 in
theorem gX12_behind_X12_barOfSeasons : GoodIn wsX12_behind (wsV RX12 128 RX12 yX12_barOfSeasons wsX12_barOfSeasons) := goodIn_app (goodIn_of _ (by decide +kernel)) ggX12_behind_X12_barOfSeasons
set_option maxRecDepth 20000 in
theorem ggX12_behind_X12_stands : GoodIn wsX12_behind wsX12_stands := goodIn_r _ [47, 1, 8, 9, 5, 10, 11, 12, 13, 78, 79, 80, 81, 82, 83, 84, 85, 86, 87, 88, 89, 90, 91, 92, 93, 94, 95, 96, 97, 98, 99] (by decide +kernel) (by decide +kernel)
set_option maxRecDepth 20000 in
theorem gX12_behind_X12_stands : GoodIn wsX12_behind (wsV RX12 83 RX12 yX12_stands wsX12_stands) := goodIn_app (goodIn_of _ (by decide +kernel)) ggX12_behind_X12_stands
theorem dX12_behind_0 : decode cX12_behind 0 = .ok (.aload_n 0, 1) := by decide +kernel
theorem dX12_behind_1 : decode cX12_behind 1 = .ok (.iload_n 1, 1) := by decide +kernel
theorem dX12_behind_2 : decode cX12_behind 2 = .ok (.invokevirtual 131, 3) := by decide +kernel
theorem dX12_behind_5 : decode cX12_behind 5 = .ok (.ifCond .ne 5, 3) := by decide +kernel
theorem dX12_behind_8 : decode cX12_behind 8 = .ok (.iconst (-1), 1) := by decide +kernel
theorem dX12_behind_9 : decode cX12_behind 9 = .ok (.ireturn, 1) := by decide +kernel
theorem dX12_behind_10 : decode cX12_behind 10 = .ok (.iload_n 2, 1) := by decide +kernel
theorem dX12_behind_11 : decode cX12_behind 11 = .ok (.iconst 0, 1) := by decide +kernel
theorem dX12_behind_12 : decode cX12_behind 12 = .ok (.iconst 2, 1) := by decide +kernel
theorem dX12_behind_13 : decode cX12_behind 13 = .ok (.invokestatic 53, 3) := by decide +kernel
theorem dX12_behind_16 : decode cX12_behind 16 = .ok (.ifCond .ne 6, 3) := by decide +kernel
theorem dX12_behind_19 : decode cX12_behind 19 = .ok (.bipush (-2), 2) := by decide +kernel
theorem dX12_behind_21 : decode cX12_behind 21 = .ok (.ireturn, 1) := by decide +kernel
theorem dX12_behind_22 : decode cX12_behind 22 = .ok (.aload_n 0, 1) := by decide +kernel
theorem dX12_behind_23 : decode cX12_behind 23 = .ok (.invokevirtual 128, 3) := by decide +kernel
theorem dX12_behind_26 : decode cX12_behind 26 = .ok (.ifCond .ge 6, 3) := by decide +kernel
theorem dX12_behind_29 : decode cX12_behind 29 = .ok (.bipush (-5), 2) := by decide +kernel
theorem dX12_behind_31 : decode cX12_behind 31 = .ok (.ireturn, 1) := by decide +kernel
theorem dX12_behind_32 : decode cX12_behind 32 = .ok (.aload_n 0, 1) := by decide +kernel
theorem dX12_behind_33 : decode cX12_behind 33 = .ok (.iload_n 1, 1) := by decide +kernel
theorem dX12_behind_34 : decode cX12_behind 34 = .ok (.invokevirtual 83, 3) := by decide +kernel
theorem dX12_behind_37 : decode cX12_behind 37 = .ok (.ifCond .eq 17, 3) := by decide +kernel
theorem dX12_behind_40 : decode cX12_behind 40 = .ok (.aload_n 0, 1) := by decide +kernel
theorem dX12_behind_41 : decode cX12_behind 41 = .ok (.getfield 13, 3) := by decide +kernel
theorem dX12_behind_44 : decode cX12_behind 44 = .ok (.bipush 6, 2) := by decide +kernel
theorem dX12_behind_46 : decode cX12_behind 46 = .ok (.iload_n 2, 1) := by decide +kernel
theorem dX12_behind_47 : decode cX12_behind 47 = .ok (.imul, 1) := by decide +kernel
theorem dX12_behind_48 : decode cX12_behind 48 = .ok (.iload_n 1, 1) := by decide +kernel
theorem dX12_behind_49 : decode cX12_behind 49 = .ok (.iadd, 1) := by decide +kernel
theorem dX12_behind_50 : decode cX12_behind 50 = .ok (.iaload, 1) := by decide +kernel
theorem dX12_behind_51 : decode cX12_behind 51 = .ok (.goto 5, 3) := by decide +kernel
theorem dX12_behind_54 : decode cX12_behind 54 = .ok (.bipush (-6), 2) := by decide +kernel
theorem dX12_behind_56 : decode cX12_behind 56 = .ok (.ireturn, 1) := by decide +kernel
set_option maxRecDepth 20000 in
theorem ggX12_headsBeyond_X12_stands : GoodIn wsX12_headsBeyond wsX12_stands := goodIn_r _ [6, 1, 7, 8, 5, 9, 10, 11, 12, 13, 14, 15, 16, 17, 18, 19, 20, 21, 22, 23, 24, 25, 26, 27, 28, 29, 30, 31, 32, 33, 34] (by decide +kernel) (by decide +kernel)
set_option maxRecDepth 20000 in
theorem gX12_headsBeyond_X12_stands : GoodIn wsX12_headsBeyond (wsV RX12 83 RX12 yX12_stands wsX12_stands) := goodIn_app (goodIn_of _ (by decide +kernel)) ggX12_headsBeyond_X12_stands
theorem dX12_headsBeyond_0 : decode cX12_headsBeyond 0 = .ok (.iconst 0, 1) := by decide +kernel
theorem dX12_headsBeyond_1 : decode cX12_headsBeyond 1 = .ok (.istore_n 1, 1) := by decide +kernel
theorem dX12_headsBeyond_2 : decode cX12_headsBeyond 2 = .ok (.iconst 0, 1) := by decide +kernel
theorem dX12_headsBeyond_3 : decode cX12_headsBeyond 3 = .ok (.istore_n 2, 1) := by decide +kernel
theorem dX12_headsBeyond_4 : decode cX12_headsBeyond 4 = .ok (.iload_n 2, 1) := by decide +kernel
theorem dX12_headsBeyond_5 : decode cX12_headsBeyond 5 = .ok (.bipush 6, 2) := by decide +kernel
theorem dX12_headsBeyond_7 : decode cX12_headsBeyond 7 = .ok (.if_icmp .ge 43, 3) := by decide +kernel
theorem dX12_headsBeyond_10 : decode cX12_headsBeyond 10 = .ok (.iload_n 1, 1) := by decide +kernel
theorem dX12_headsBeyond_11 : decode cX12_headsBeyond 11 = .ok (.aload_n 0, 1) := by decide +kernel
theorem dX12_headsBeyond_12 : decode cX12_headsBeyond 12 = .ok (.iload_n 2, 1) := by decide +kernel
theorem dX12_headsBeyond_13 : decode cX12_headsBeyond 13 = .ok (.invokevirtual 83, 3) := by decide +kernel
theorem dX12_headsBeyond_16 : decode cX12_headsBeyond 16 = .ok (.ifCond .eq 25, 3) := by decide +kernel
theorem dX12_headsBeyond_19 : decode cX12_headsBeyond 19 = .ok (.aload_n 0, 1) := by decide +kernel
theorem dX12_headsBeyond_20 : decode cX12_headsBeyond 20 = .ok (.getfield 13, 3) := by decide +kernel
theorem dX12_headsBeyond_23 : decode cX12_headsBeyond 23 = .ok (.bipush 6, 2) := by decide +kernel
theorem dX12_headsBeyond_25 : decode cX12_headsBeyond 25 = .ok (.iload_n 2, 1) := by decide +kernel
theorem dX12_headsBeyond_26 : decode cX12_headsBeyond 26 = .ok (.iadd, 1) := by decide +kernel
theorem dX12_headsBeyond_27 : decode cX12_headsBeyond 27 = .ok (.iaload, 1) := by decide +kernel
theorem dX12_headsBeyond_28 : decode cX12_headsBeyond 28 = .ok (.iconst 1, 1) := by decide +kernel
theorem dX12_headsBeyond_29 : decode cX12_headsBeyond 29 = .ok (.if_icmp .ne 12, 3) := by decide +kernel
theorem dX12_headsBeyond_32 : decode cX12_headsBeyond 32 = .ok (.aload_n 0, 1) := by decide +kernel
theorem dX12_headsBeyond_33 : decode cX12_headsBeyond 33 = .ok (.getfield 13, 3) := by decide +kernel
theorem dX12_headsBeyond_36 : decode cX12_headsBeyond 36 = .ok (.iload_n 2, 1) := by decide +kernel
theorem dX12_headsBeyond_37 : decode cX12_headsBeyond 37 = .ok (.iaload, 1) := by decide +kernel
theorem dX12_headsBeyond_38 : decode cX12_headsBeyond 38 = .ok (.goto 4, 3) := by decide +kernel
theorem dX12_headsBeyond_41 : decode cX12_headsBeyond 41 = .ok (.iconst 0, 1) := by decide +kernel
theorem dX12_headsBeyond_42 : decode cX12_headsBeyond 42 = .ok (.iadd, 1) := by decide +kernel
theorem dX12_headsBeyond_43 : decode cX12_headsBeyond 43 = .ok (.istore_n 1, 1) := by decide +kernel
theorem dX12_headsBeyond_44 : decode cX12_headsBeyond 44 = .ok (.iinc 2 1, 3) := by decide +kernel
theorem dX12_headsBeyond_47 : decode cX12_headsBeyond 47 = .ok (.goto (-43), 3) := by decide +kernel
theorem dX12_headsBeyond_50 : decode cX12_headsBeyond 50 = .ok (.iload_n 1, 1) := by decide +kernel
theorem dX12_headsBeyond_51 : decode cX12_headsBeyond 51 = .ok (.ireturn, 1) := by decide +kernel
set_option maxRecDepth 20000 in
theorem ggX12_then_X12_in : GoodIn wsX12_then wsX12_in := goodIn_r _ [8] (by decide +kernel) (by decide +kernel)
set_option maxRecDepth 20000 in
theorem gX12_then_X12_in : GoodIn wsX12_then (va_wsS RX12 53 yX12_in wsX12_in) := goodIn_app (goodIn_of _ (by decide +kernel)) ggX12_then_X12_in
set_option maxRecDepth 20000 in
theorem ggX12_then_X12_barOfSeasons : GoodIn wsX12_then wsX12_barOfSeasons := goodIn_r _ [12, 13, 14, 15, 7, 16, 17, 18, 5, 6, 8, 19, 20, 21, 22, 23, 24, 25, 26, 27, 28, 1, 4, 2, 3, 29, 30, 31, 32, 33, 34, 35, 36, 37, 38, 39, 40, 41, 42, 43, 44, 45, 46, 47, 48, 49, 50, 51, 52, 53, 54, 55, 56, 57, 58, 59, 60, 61, 62, 63, 64, 65, 66, 67, 68, 69, 70, 71, 72, 73, 78, 79, 80, 81, 82, 83, 84, 85, 86, 87, 88, 89, 90, 91, 92, 93, 94, 95, 96, 97, 98, 99] (by decide +kernel) (by decide +kernel)
set_option maxRecDepth 20000 in
theorem gX12_then_X12_barOfSeasons : GoodIn wsX12_then (wsV RX12 128 RX12 yX12_barOfSeasons wsX12_barOfSeasons) := goodIn_app (goodIn_of _ (by decide +kernel)) ggX12_then_X12_barOfSeasons
set_option maxRecDepth 20000 in
theorem ggX12_then_X12_headsBeyond : GoodIn wsX12_then wsX12_headsBeyond := goodIn_r _ [77, 1, 37, 38, 39, 7, 40, 5, 6, 8, 41, 42, 43, 78, 79, 80, 81, 82, 83, 84, 85, 86, 87, 88, 89, 90, 91, 92, 93, 94, 95, 96, 97, 98, 99] (by decide +kernel) (by decide +kernel)
set_option maxRecDepth 20000 in
theorem gX12_then_X12_headsBeyond : GoodIn wsX12_then (wsV RX12 134 RX12 yX12_headsBeyond wsX12_headsBeyond) := goodIn_app (goodIn_of _ (by decide +kernel)) ggX12_then_X12_headsBeyond
theorem dX12_then_0 : decode cX12_then 0 = .ok (.iload_n 1, 1) := by decide +kernel
theorem dX12_then_1 : decode cX12_then 1 = .ok (.iconst 0, 1) := by decide +kernel
theorem dX12_then_2 : decode cX12_then 2 = .ok (.iconst 4, 1) := by decide +kernel
theorem dX12_then_3 : decode cX12_then 3 = .ok (.invokestatic 53, 3) := by decide +kernel
theorem dX12_then_6 : decode cX12_then 6 = .ok (.ifCond .ne 6, 3) := by decide +kernel
theorem dX12_then_9 : decode cX12_then 9 = .ok (.bipush (-2), 2) := by decide +kernel
theorem dX12_then_11 : decode cX12_then 11 = .ok (.ireturn, 1) := by decide +kernel
theorem dX12_then_12 : decode cX12_then 12 = .ok (.aload_n 0, 1) := by decide +kernel
theorem dX12_then_13 : decode cX12_then 13 = .ok (.invokevirtual 128, 3) := by decide +kernel
theorem dX12_then_16 : decode cX12_then 16 = .ok (.ifCond .ge 6, 3) := by decide +kernel
theorem dX12_then_19 : decode cX12_then 19 = .ok (.bipush (-5), 2) := by decide +kernel
theorem dX12_then_21 : decode cX12_then 21 = .ok (.ireturn, 1) := by decide +kernel
theorem dX12_then_22 : decode cX12_then 22 = .ok (.iload_n 1, 1) := by decide +kernel
theorem dX12_then_23 : decode cX12_then 23 = .ok (.ifCond .ne 10, 3) := by decide +kernel
theorem dX12_then_26 : decode cX12_then 26 = .ok (.aload_n 0, 1) := by decide +kernel
theorem dX12_then_27 : decode cX12_then 27 = .ok (.invokevirtual 134, 3) := by decide +kernel
theorem dX12_then_30 : decode cX12_then 30 = .ok (.goto 44, 3) := by decide +kernel
theorem dX12_then_33 : decode cX12_then 33 = .ok (.iload_n 1, 1) := by decide +kernel
theorem dX12_then_34 : decode cX12_then 34 = .ok (.iconst 3, 1) := by decide +kernel
theorem dX12_then_35 : decode cX12_then 35 = .ok (.if_icmp .ge 15, 3) := by decide +kernel
theorem dX12_then_38 : decode cX12_then 38 = .ok (.aload_n 0, 1) := by decide +kernel
theorem dX12_then_39 : decode cX12_then 39 = .ok (.getfield 13, 3) := by decide +kernel
theorem dX12_then_42 : decode cX12_then 42 = .ok (.bipush 18, 2) := by decide +kernel
theorem dX12_then_44 : decode cX12_then 44 = .ok (.iload_n 1, 1) := by decide +kernel
theorem dX12_then_45 : decode cX12_then 45 = .ok (.iadd, 1) := by decide +kernel
theorem dX12_then_46 : decode cX12_then 46 = .ok (.iaload, 1) := by decide +kernel
theorem dX12_then_47 : decode cX12_then 47 = .ok (.goto 27, 3) := by decide +kernel
theorem dX12_then_50 : decode cX12_then 50 = .ok (.iload_n 1, 1) := by decide +kernel
theorem dX12_then_51 : decode cX12_then 51 = .ok (.iconst 3, 1) := by decide +kernel
theorem dX12_then_52 : decode cX12_then 52 = .ok (.if_icmp .ne 10, 3) := by decide +kernel
theorem dX12_then_55 : decode cX12_then 55 = .ok (.aload_n 0, 1) := by decide +kernel
theorem dX12_then_56 : decode cX12_then 56 = .ok (.getfield 77, 3) := by decide +kernel
theorem dX12_then_59 : decode cX12_then 59 = .ok (.goto 15, 3) := by decide +kernel
theorem dX12_then_62 : decode cX12_then 62 = .ok (.aload_n 0, 1) := by decide +kernel
theorem dX12_then_63 : decode cX12_then 63 = .ok (.getfield 80, 3) := by decide +kernel
theorem dX12_then_66 : decode cX12_then 66 = .ok (.aload_n 0, 1) := by decide +kernel
theorem dX12_then_67 : decode cX12_then 67 = .ok (.getfield 7, 3) := by decide +kernel
theorem dX12_then_70 : decode cX12_then 70 = .ok (.bipush 18, 2) := by decide +kernel
theorem dX12_then_72 : decode cX12_then 72 = .ok (.iaload, 1) := by decide +kernel
theorem dX12_then_73 : decode cX12_then 73 = .ok (.iand, 1) := by decide +kernel
theorem dX12_then_74 : decode cX12_then 74 = .ok (.ireturn, 1) := by decide +kernel
set_option maxRecDepth 20000 in
theorem ggX12_who_X12_asNow : GoodIn wsX12_who wsX12_asNow := goodIn_r _ [5, 6, 7, 8, 9, 33, 34, 35, 36, 37, 38, 39, 40, 41, 42, 43, 44, 45, 46, 47, 48, 49, 50, 51, 52, 53, 54] (by decide +kernel) (by decide +kernel)
set_option maxRecDepth 20000 in
theorem gX12_who_X12_asNow : GoodIn wsX12_who (wsV RX12 106 RX12 yX12_asNow wsX12_asNow) := goodIn_app (goodIn_of _ (by decide +kernel)) ggX12_who_X12_asNow
set_option maxRecDepth 20000 in
theorem ggX12_who_X12_isClause : GoodIn wsX12_who wsX12_isClause := goodIn_r _ [12, 13, 14, 4, 15] (by decide +kernel) (by decide +kernel)
set_option maxRecDepth 20000 in
theorem gX12_who_X12_isClause : GoodIn wsX12_who (va_wsS RX12 65 yX12_isClause wsX12_isClause) := goodIn_app (goodIn_of _ (by decide +kernel)) ggX12_who_X12_isClause
set_option maxRecDepth 20000 in
theorem ggX12_who_X12_signers : GoodIn wsX12_who wsX12_signers := goodIn_r _ [19, 20, 21, 22, 4, 23, 6, 24, 25, 26, 27, 28, 29, 13, 14, 15, 30, 31, 32, 33, 34, 35, 36, 37, 38, 39, 40, 41, 42, 43, 44, 45, 46, 47, 48, 49, 50, 51, 52, 53, 54] (by decide +kernel) (by decide +kernel)
set_option maxRecDepth 20000 in
theorem gX12_who_X12_signers : GoodIn wsX12_who (wsV RX12 89 RX12 yX12_signers wsX12_signers) := goodIn_app (goodIn_of _ (by decide +kernel)) ggX12_who_X12_signers
theorem dX12_who_0 : decode cX12_who 0 = .ok (.aload_n 0, 1) := by decide +kernel
theorem dX12_who_1 : decode cX12_who 1 = .ok (.invokevirtual 106, 3) := by decide +kernel
theorem dX12_who_4 : decode cX12_who 4 = .ok (.iload_n 1, 1) := by decide +kernel
theorem dX12_who_5 : decode cX12_who 5 = .ok (.invokestatic 65, 3) := by decide +kernel
theorem dX12_who_8 : decode cX12_who 8 = .ok (.ifCond .eq 11, 3) := by decide +kernel
theorem dX12_who_11 : decode cX12_who 11 = .ok (.aload_n 0, 1) := by decide +kernel
theorem dX12_who_12 : decode cX12_who 12 = .ok (.iload_n 1, 1) := by decide +kernel
theorem dX12_who_13 : decode cX12_who 13 = .ok (.invokevirtual 89, 3) := by decide +kernel
theorem dX12_who_16 : decode cX12_who 16 = .ok (.goto 4, 3) := by decide +kernel
theorem dX12_who_19 : decode cX12_who 19 = .ok (.iconst (-1), 1) := by decide +kernel
theorem dX12_who_20 : decode cX12_who 20 = .ok (.ireturn, 1) := by decide +kernel
theorem dX12_heard_0 : decode cX12_heard 0 = .ok (.iload_n 2, 1) := by decide +kernel
theorem dX12_heard_1 : decode cX12_heard 1 = .ok (.bipush 10, 2) := by decide +kernel
theorem dX12_heard_3 : decode cX12_heard 3 = .ok (.irem, 1) := by decide +kernel
theorem dX12_heard_4 : decode cX12_heard 4 = .ok (.istore 4, 2) := by decide +kernel
theorem dX12_heard_6 : decode cX12_heard 6 = .ok (.aload_n 0, 1) := by decide +kernel
theorem dX12_heard_7 : decode cX12_heard 7 = .ok (.getfield 13, 3) := by decide +kernel
theorem dX12_heard_10 : decode cX12_heard 10 = .ok (.bipush 20, 2) := by decide +kernel
theorem dX12_heard_12 : decode cX12_heard 12 = .ok (.iaload, 1) := by decide +kernel
theorem dX12_heard_13 : decode cX12_heard 13 = .ok (.bipush 12, 2) := by decide +kernel
theorem dX12_heard_15 : decode cX12_heard 15 = .ok (.irem, 1) := by decide +kernel
theorem dX12_heard_16 : decode cX12_heard 16 = .ok (.aload_n 0, 1) := by decide +kernel
theorem dX12_heard_17 : decode cX12_heard 17 = .ok (.getfield 16, 3) := by decide +kernel
theorem dX12_heard_20 : decode cX12_heard 20 = .ok (.iload_n 1, 1) := by decide +kernel
theorem dX12_heard_21 : decode cX12_heard 21 = .ok (.iaload, 1) := by decide +kernel
theorem dX12_heard_22 : decode cX12_heard 22 = .ok (.if_icmp .eq 27, 3) := by decide +kernel
theorem dX12_heard_25 : decode cX12_heard 25 = .ok (.aload_n 0, 1) := by decide +kernel
theorem dX12_heard_26 : decode cX12_heard 26 = .ok (.getfield 13, 3) := by decide +kernel
theorem dX12_heard_29 : decode cX12_heard 29 = .ok (.iload_n 1, 1) := by decide +kernel
theorem dX12_heard_30 : decode cX12_heard 30 = .ok (.iaload, 1) := by decide +kernel
theorem dX12_heard_31 : decode cX12_heard 31 = .ok (.ifCond .le 18, 3) := by decide +kernel
theorem dX12_heard_34 : decode cX12_heard 34 = .ok (.iload 4, 2) := by decide +kernel
theorem dX12_heard_36 : decode cX12_heard 36 = .ok (.aload_n 0, 1) := by decide +kernel
theorem dX12_heard_37 : decode cX12_heard 37 = .ok (.getfield 19, 3) := by decide +kernel
theorem dX12_heard_40 : decode cX12_heard 40 = .ok (.iload_n 3, 1) := by decide +kernel
theorem dX12_heard_41 : decode cX12_heard 41 = .ok (.iaload, 1) := by decide +kernel
theorem dX12_heard_42 : decode cX12_heard 42 = .ok (.if_icmp .lt 7, 3) := by decide +kernel
theorem dX12_heard_45 : decode cX12_heard 45 = .ok (.iconst 1, 1) := by decide +kernel
theorem dX12_heard_46 : decode cX12_heard 46 = .ok (.goto 4, 3) := by decide +kernel
theorem dX12_heard_49 : decode cX12_heard 49 = .ok (.iconst 0, 1) := by decide +kernel
theorem dX12_heard_50 : decode cX12_heard 50 = .ok (.istore 5, 2) := by decide +kernel
theorem dX12_heard_52 : decode cX12_heard 52 = .ok (.iload 5, 2) := by decide +kernel
theorem dX12_heard_54 : decode cX12_heard 54 = .ok (.ifCond .eq 26, 3) := by decide +kernel
theorem dX12_heard_57 : decode cX12_heard 57 = .ok (.bipush 10, 2) := by decide +kernel
theorem dX12_heard_59 : decode cX12_heard 59 = .ok (.iload_n 2, 1) := by decide +kernel
theorem dX12_heard_60 : decode cX12_heard 60 = .ok (.bipush 10, 2) := by decide +kernel
theorem dX12_heard_62 : decode cX12_heard 62 = .ok (.idiv, 1) := by decide +kernel
theorem dX12_heard_63 : decode cX12_heard 63 = .ok (.bipush 10, 2) := by decide +kernel
theorem dX12_heard_65 : decode cX12_heard 65 = .ok (.imul, 1) := by decide +kernel
theorem dX12_heard_66 : decode cX12_heard 66 = .ok (.isub, 1) := by decide +kernel
theorem dX12_heard_67 : decode cX12_heard 67 = .ok (.iload 4, 2) := by decide +kernel
theorem dX12_heard_69 : decode cX12_heard 69 = .ok (.iadd, 1) := by decide +kernel
theorem dX12_heard_70 : decode cX12_heard 70 = .ok (.aload_n 0, 1) := by decide +kernel
theorem dX12_heard_71 : decode cX12_heard 71 = .ok (.getfield 19, 3) := by decide +kernel
theorem dX12_heard_74 : decode cX12_heard 74 = .ok (.iload_n 3, 1) := by decide +kernel
theorem dX12_heard_75 : decode cX12_heard 75 = .ok (.iaload, 1) := by decide +kernel
theorem dX12_heard_76 : decode cX12_heard 76 = .ok (.isub, 1) := by decide +kernel
theorem dX12_heard_77 : decode cX12_heard 77 = .ok (.goto 17, 3) := by decide +kernel
theorem dX12_heard_80 : decode cX12_heard 80 = .ok (.iload 4, 2) := by decide +kernel
theorem dX12_heard_82 : decode cX12_heard 82 = .ok (.bipush 9, 2) := by decide +kernel
theorem dX12_heard_84 : decode cX12_heard 84 = .ok (.if_icmp .ge 9, 3) := by decide +kernel
theorem dX12_heard_87 : decode cX12_heard 87 = .ok (.iload_n 2, 1) := by decide +kernel
theorem dX12_heard_88 : decode cX12_heard 88 = .ok (.iconst 1, 1) := by decide +kernel
theorem dX12_heard_89 : decode cX12_heard 89 = .ok (.iadd, 1) := by decide +kernel
theorem dX12_heard_90 : decode cX12_heard 90 = .ok (.goto 4, 3) := by decide +kernel
theorem dX12_heard_93 : decode cX12_heard 93 = .ok (.iload_n 2, 1) := by decide +kernel
theorem dX12_heard_94 : decode cX12_heard 94 = .ok (.ireturn, 1) := by decide +kernel
set_option maxRecDepth 20000 in
theorem ggX12_bring_X12_isThere : GoodIn wsX12_bring wsX12_isThere := goodIn_r _ [8, 9, 10, 11, 7, 12, 13, 14, 15, 28, 29, 30, 31, 32, 33, 34, 35, 36, 37, 38, 39, 40, 41, 42, 43, 44, 45, 46, 47, 48, 49] (by decide +kernel) (by decide +kernel)
set_option maxRecDepth 20000 in
theorem gX12_bring_X12_isThere : GoodIn wsX12_bring (wsV RX12 131 RX12 yX12_isThere wsX12_isThere) := goodIn_app (goodIn_of _ (by decide +kernel)) ggX12_bring_X12_isThere
set_option maxRecDepth 20000 in
theorem ggX12_bring_X12_in : GoodIn wsX12_bring wsX12_in := goodIn_r _ [12] (by decide +kernel) (by decide +kernel)
set_option maxRecDepth 20000 in
theorem gX12_bring_X12_in : GoodIn wsX12_bring (va_wsS RX12 53 yX12_in wsX12_in) := goodIn_app (goodIn_of _ (by decide +kernel)) ggX12_bring_X12_in
set_option maxRecDepth 20000 in
theorem ggX12_bring_X12_asNow : GoodIn wsX12_bring wsX12_asNow := goodIn_r _ [19, 2, 9, 20, 21, 28, 29, 30, 31, 32, 33, 34, 35, 36, 37, 38, 39, 40, 41, 42, 43, 44, 45, 46, 47, 48, 49] (by decide +kernel) (by decide +kernel)
set_option maxRecDepth 20000 in
theorem gX12_bring_X12_asNow : GoodIn wsX12_bring (wsV RX12 106 RX12 yX12_asNow wsX12_asNow) := goodIn_app (goodIn_of _ (by decide +kernel)) ggX12_bring_X12_asNow
set_option maxRecDepth 20000 in
theorem ggX12_bring_X12_heard : GoodIn wsX12_bring wsX12_heard := goodIn_r _ [25, 2, 26, 27, 28, 29, 30, 31, 32, 33, 34, 35, 36, 37, 38, 39, 40, 41, 42, 43, 44, 45, 46, 47, 48, 49] (by decide +kernel) (by decide +kernel)
set_option maxRecDepth 20000 in
theorem gX12_bring_X12_heard : GoodIn wsX12_bring (wsV RX12 137 RX12 yX12_heard wsX12_heard) := goodIn_app (goodIn_of _ (by decide +kernel)) ggX12_bring_X12_heard
theorem dX12_bring_0 : decode cX12_bring 0 = .ok (.aload_n 0, 1) := by decide +kernel
theorem dX12_bring_1 : decode cX12_bring 1 = .ok (.iload_n 1, 1) := by decide +kernel
theorem dX12_bring_2 : decode cX12_bring 2 = .ok (.invokevirtual 131, 3) := by decide +kernel
theorem dX12_bring_5 : decode cX12_bring 5 = .ok (.ifCond .eq 16, 3) := by decide +kernel
theorem dX12_bring_8 : decode cX12_bring 8 = .ok (.aload_n 0, 1) := by decide +kernel
theorem dX12_bring_9 : decode cX12_bring 9 = .ok (.iload_n 3, 1) := by decide +kernel
theorem dX12_bring_10 : decode cX12_bring 10 = .ok (.invokevirtual 131, 3) := by decide +kernel
theorem dX12_bring_13 : decode cX12_bring 13 = .ok (.ifCond .eq 8, 3) := by decide +kernel
theorem dX12_bring_16 : decode cX12_bring 16 = .ok (.iload_n 1, 1) := by decide +kernel
theorem dX12_bring_17 : decode cX12_bring 17 = .ok (.iload_n 3, 1) := by decide +kernel
theorem dX12_bring_18 : decode cX12_bring 18 = .ok (.if_icmp .ne 5, 3) := by decide +kernel
theorem dX12_bring_21 : decode cX12_bring 21 = .ok (.iconst (-1), 1) := by decide +kernel
theorem dX12_bring_22 : decode cX12_bring 22 = .ok (.ireturn, 1) := by decide +kernel
theorem dX12_bring_23 : decode cX12_bring 23 = .ok (.iload_n 2, 1) := by decide +kernel
theorem dX12_bring_24 : decode cX12_bring 24 = .ok (.iconst 0, 1) := by decide +kernel
theorem dX12_bring_25 : decode cX12_bring 25 = .ok (.iconst 1, 1) := by decide +kernel
theorem dX12_bring_26 : decode cX12_bring 26 = .ok (.invokestatic 53, 3) := by decide +kernel
theorem dX12_bring_29 : decode cX12_bring 29 = .ok (.ifCond .eq 23, 3) := by decide +kernel
theorem dX12_bring_32 : decode cX12_bring 32 = .ok (.iload 4, 2) := by decide +kernel
theorem dX12_bring_34 : decode cX12_bring 34 = .ok (.iconst 0, 1) := by decide +kernel
theorem dX12_bring_35 : decode cX12_bring 35 = .ok (.iconst 1, 1) := by decide +kernel
theorem dX12_bring_36 : decode cX12_bring 36 = .ok (.invokestatic 53, 3) := by decide +kernel
theorem dX12_bring_39 : decode cX12_bring 39 = .ok (.ifCond .eq 13, 3) := by decide +kernel
theorem dX12_bring_42 : decode cX12_bring 42 = .ok (.iload 5, 2) := by decide +kernel
theorem dX12_bring_44 : decode cX12_bring 44 = .ok (.iconst 0, 1) := by decide +kernel
theorem dX12_bring_45 : decode cX12_bring 45 = .ok (.iconst 1, 1) := by decide +kernel
theorem dX12_bring_46 : decode cX12_bring 46 = .ok (.invokestatic 53, 3) := by decide +kernel
theorem dX12_bring_49 : decode cX12_bring 49 = .ok (.ifCond .ne 6, 3) := by decide +kernel
theorem dX12_bring_52 : decode cX12_bring 52 = .ok (.bipush (-2), 2) := by decide +kernel
theorem dX12_bring_54 : decode cX12_bring 54 = .ok (.ireturn, 1) := by decide +kernel
theorem dX12_bring_55 : decode cX12_bring 55 = .ok (.aload_n 0, 1) := by decide +kernel
theorem dX12_bring_56 : decode cX12_bring 56 = .ok (.invokevirtual 106, 3) := by decide +kernel
theorem dX12_bring_59 : decode cX12_bring 59 = .ok (.iconst 0, 1) := by decide +kernel
theorem dX12_bring_60 : decode cX12_bring 60 = .ok (.istore 6, 2) := by decide +kernel
theorem dX12_bring_62 : decode cX12_bring 62 = .ok (.iload 6, 2) := by decide +kernel
theorem dX12_bring_64 : decode cX12_bring 64 = .ok (.sipush 400, 3) := by decide +kernel
theorem dX12_bring_67 : decode cX12_bring 67 = .ok (.if_icmp .ge 17, 3) := by decide +kernel
theorem dX12_bring_70 : decode cX12_bring 70 = .ok (.aload_n 0, 1) := by decide +kernel
theorem dX12_bring_71 : decode cX12_bring 71 = .ok (.getfield 34, 3) := by decide +kernel
theorem dX12_bring_74 : decode cX12_bring 74 = .ok (.iload 6, 2) := by decide +kernel
theorem dX12_bring_76 : decode cX12_bring 76 = .ok (.iconst (-1), 1) := by decide +kernel
theorem dX12_bring_77 : decode cX12_bring 77 = .ok (.iastore, 1) := by decide +kernel
theorem dX12_bring_78 : decode cX12_bring 78 = .ok (.iinc 6 1, 3) := by decide +kernel
theorem dX12_bring_81 : decode cX12_bring 81 = .ok (.goto (-19), 3) := by decide +kernel
theorem dX12_bring_84 : decode cX12_bring 84 = .ok (.bipush 20, 2) := by decide +kernel
theorem dX12_bring_86 : decode cX12_bring 86 = .ok (.bipush 10, 2) := by decide +kernel
theorem dX12_bring_88 : decode cX12_bring 88 = .ok (.aload_n 0, 1) := by decide +kernel
theorem dX12_bring_89 : decode cX12_bring 89 = .ok (.getfield 13, 3) := by decide +kernel
theorem dX12_bring_92 : decode cX12_bring 92 = .ok (.bipush 6, 2) := by decide +kernel
theorem dX12_bring_94 : decode cX12_bring 94 = .ok (.iload_n 1, 1) := by decide +kernel
theorem dX12_bring_95 : decode cX12_bring 95 = .ok (.iadd, 1) := by decide +kernel
theorem dX12_bring_96 : decode cX12_bring 96 = .ok (.iaload, 1) := by decide +kernel
theorem dX12_bring_97 : decode cX12_bring 97 = .ok (.imul, 1) := by decide +kernel
theorem dX12_bring_98 : decode cX12_bring 98 = .ok (.aload_n 0, 1) := by decide +kernel
theorem dX12_bring_99 : decode cX12_bring 99 = .ok (.getfield 13, 3) := by decide +kernel
theorem dX12_bring_102 : decode cX12_bring 102 = .ok (.bipush 12, 2) := by decide +kernel
theorem dX12_bring_104 : decode cX12_bring 104 = .ok (.iload_n 1, 1) := by decide +kernel
theorem dX12_bring_105 : decode cX12_bring 105 = .ok (.iadd, 1) := by decide +kernel
theorem dX12_bring_106 : decode cX12_bring 106 = .ok (.iaload, 1) := by decide +kernel
theorem dX12_bring_107 : decode cX12_bring 107 = .ok (.iadd, 1) := by decide +kernel
theorem dX12_bring_108 : decode cX12_bring 108 = .ok (.imul, 1) := by decide +kernel
theorem dX12_bring_109 : decode cX12_bring 109 = .ok (.bipush 10, 2) := by decide +kernel
theorem dX12_bring_111 : decode cX12_bring 111 = .ok (.aload_n 0, 1) := by decide +kernel
theorem dX12_bring_112 : decode cX12_bring 112 = .ok (.getfield 13, 3) := by decide +kernel
theorem dX12_bring_115 : decode cX12_bring 115 = .ok (.bipush 6, 2) := by decide +kernel
theorem dX12_bring_117 : decode cX12_bring 117 = .ok (.iload_n 3, 1) := by decide +kernel
theorem dX12_bring_118 : decode cX12_bring 118 = .ok (.iadd, 1) := by decide +kernel
theorem dX12_bring_119 : decode cX12_bring 119 = .ok (.iaload, 1) := by decide +kernel
theorem dX12_bring_120 : decode cX12_bring 120 = .ok (.imul, 1) := by decide +kernel
theorem dX12_bring_121 : decode cX12_bring 121 = .ok (.iadd, 1) := by decide +kernel
theorem dX12_bring_122 : decode cX12_bring 122 = .ok (.aload_n 0, 1) := by decide +kernel
theorem dX12_bring_123 : decode cX12_bring 123 = .ok (.getfield 13, 3) := by decide +kernel
theorem dX12_bring_126 : decode cX12_bring 126 = .ok (.bipush 12, 2) := by decide +kernel
theorem dX12_bring_128 : decode cX12_bring 128 = .ok (.iload_n 3, 1) := by decide +kernel
theorem dX12_bring_129 : decode cX12_bring 129 = .ok (.iadd, 1) := by decide +kernel
theorem dX12_bring_130 : decode cX12_bring 130 = .ok (.iaload, 1) := by decide +kernel
theorem dX12_bring_131 : decode cX12_bring 131 = .ok (.iadd, 1) := by decide +kernel
theorem dX12_bring_132 : decode cX12_bring 132 = .ok (.istore 6, 2) := by decide +kernel
theorem dX12_bring_134 : decode cX12_bring 134 = .ok (.aload_n 0, 1) := by decide +kernel
theorem dX12_bring_135 : decode cX12_bring 135 = .ok (.getfield 34, 3) := by decide +kernel
theorem dX12_bring_138 : decode cX12_bring 138 = .ok (.iload 6, 2) := by decide +kernel
theorem dX12_bring_140 : decode cX12_bring 140 = .ok (.iconst 0, 1) := by decide +kernel
theorem dX12_bring_141 : decode cX12_bring 141 = .ok (.iastore, 1) := by decide +kernel
theorem dX12_bring_142 : decode cX12_bring 142 = .ok (.aload_n 0, 1) := by decide +kernel
theorem dX12_bring_143 : decode cX12_bring 143 = .ok (.getfield 37, 3) := by decide +kernel
theorem dX12_bring_146 : decode cX12_bring 146 = .ok (.iconst 0, 1) := by decide +kernel
theorem dX12_bring_147 : decode cX12_bring 147 = .ok (.iload 6, 2) := by decide +kernel
theorem dX12_bring_149 : decode cX12_bring 149 = .ok (.iastore, 1) := by decide +kernel
theorem dX12_bring_150 : decode cX12_bring 150 = .ok (.iconst 1, 1) := by decide +kernel
theorem dX12_bring_151 : decode cX12_bring 151 = .ok (.istore 7, 2) := by decide +kernel
theorem dX12_bring_153 : decode cX12_bring 153 = .ok (.iconst 0, 1) := by decide +kernel
theorem dX12_bring_154 : decode cX12_bring 154 = .ok (.istore 8, 2) := by decide +kernel
theorem dX12_bring_156 : decode cX12_bring 156 = .ok (.iload 8, 2) := by decide +kernel
theorem dX12_bring_158 : decode cX12_bring 158 = .ok (.iload 7, 2) := by decide +kernel
theorem dX12_bring_160 : decode cX12_bring 160 = .ok (.if_icmp .ge 184, 3) := by decide +kernel
theorem dX12_bring_163 : decode cX12_bring 163 = .ok (.aload_n 0, 1) := by decide +kernel
theorem dX12_bring_164 : decode cX12_bring 164 = .ok (.getfield 37, 3) := by decide +kernel
theorem dX12_bring_167 : decode cX12_bring 167 = .ok (.iload 8, 2) := by decide +kernel
theorem dX12_bring_169 : decode cX12_bring 169 = .ok (.iaload, 1) := by decide +kernel
theorem dX12_bring_170 : decode cX12_bring 170 = .ok (.istore 9, 2) := by decide +kernel
theorem dX12_bring_172 : decode cX12_bring 172 = .ok (.aload_n 0, 1) := by decide +kernel
theorem dX12_bring_173 : decode cX12_bring 173 = .ok (.getfield 34, 3) := by decide +kernel
theorem dX12_bring_176 : decode cX12_bring 176 = .ok (.iload 9, 2) := by decide +kernel
theorem dX12_bring_178 : decode cX12_bring 178 = .ok (.iaload, 1) := by decide +kernel
theorem dX12_bring_179 : decode cX12_bring 179 = .ok (.istore 10, 2) := by decide +kernel
theorem dX12_bring_181 : decode cX12_bring 181 = .ok (.iload 9, 2) := by decide +kernel
theorem dX12_bring_183 : decode cX12_bring 183 = .ok (.sipush 200, 3) := by decide +kernel
theorem dX12_bring_186 : decode cX12_bring 186 = .ok (.idiv, 1) := by decide +kernel
theorem dX12_bring_187 : decode cX12_bring 187 = .ok (.iload_n 2, 1) := by decide +kernel
theorem dX12_bring_188 : decode cX12_bring 188 = .ok (.if_icmp .ne 47, 3) := by decide +kernel
theorem dX12_bring_191 : decode cX12_bring 191 = .ok (.iload 9, 2) := by decide +kernel
theorem dX12_bring_193 : decode cX12_bring 193 = .ok (.bipush 20, 2) := by decide +kernel
theorem dX12_bring_195 : decode cX12_bring 195 = .ok (.irem, 1) := by decide +kernel
theorem dX12_bring_196 : decode cX12_bring 196 = .ok (.bipush 10, 2) := by decide +kernel
theorem dX12_bring_198 : decode cX12_bring 198 = .ok (.idiv, 1) := by decide +kernel
theorem dX12_bring_199 : decode cX12_bring 199 = .ok (.iload 4, 2) := by decide +kernel
theorem dX12_bring_201 : decode cX12_bring 201 = .ok (.if_icmp .ne 34, 3) := by decide +kernel
theorem dX12_bring_204 : decode cX12_bring 204 = .ok (.iload 5, 2) := by decide +kernel
theorem dX12_bring_206 : decode cX12_bring 206 = .ok (.ifCond .ne 11, 3) := by decide +kernel
theorem dX12_bring_209 : decode cX12_bring 209 = .ok (.iload 10, 2) := by decide +kernel
theorem dX12_bring_211 : decode cX12_bring 211 = .ok (.bipush 10, 2) := by decide +kernel
theorem dX12_bring_213 : decode cX12_bring 213 = .ok (.idiv, 1) := by decide +kernel
theorem dX12_bring_214 : decode cX12_bring 214 = .ok (.goto 20, 3) := by decide +kernel
theorem dX12_bring_217 : decode cX12_bring 217 = .ok (.iload 10, 2) := by decide +kernel
theorem dX12_bring_219 : decode cX12_bring 219 = .ok (.bipush 10, 2) := by decide +kernel
theorem dX12_bring_221 : decode cX12_bring 221 = .ok (.if_icmp .ge 8, 3) := by decide +kernel
theorem dX12_bring_224 : decode cX12_bring 224 = .ok (.bipush (-6), 2) := by decide +kernel
theorem dX12_bring_226 : decode cX12_bring 226 = .ok (.goto 8, 3) := by decide +kernel
theorem dX12_bring_229 : decode cX12_bring 229 = .ok (.iload 10, 2) := by decide +kernel
theorem dX12_bring_231 : decode cX12_bring 231 = .ok (.bipush 10, 2) := by decide +kernel
theorem dX12_bring_233 : decode cX12_bring 233 = .ok (.irem, 1) := by decide +kernel
theorem dX12_bring_234 : decode cX12_bring 234 = .ok (.ireturn, 1) := by decide +kernel
theorem dX12_bring_235 : decode cX12_bring 235 = .ok (.iconst 0, 1) := by decide +kernel
theorem dX12_bring_236 : decode cX12_bring 236 = .ok (.istore 11, 2) := by decide +kernel
theorem dX12_bring_238 : decode cX12_bring 238 = .ok (.iload 11, 2) := by decide +kernel
theorem dX12_bring_240 : decode cX12_bring 240 = .ok (.bipush 10, 2) := by decide +kernel
theorem dX12_bring_242 : decode cX12_bring 242 = .ok (.if_icmp .ge 96, 3) := by decide +kernel
theorem dX12_bring_245 : decode cX12_bring 245 = .ok (.bipush 20, 2) := by decide +kernel
theorem dX12_bring_247 : decode cX12_bring 247 = .ok (.aload_n 0, 1) := by decide +kernel
theorem dX12_bring_248 : decode cX12_bring 248 = .ok (.iload_n 1, 1) := by decide +kernel
theorem dX12_bring_249 : decode cX12_bring 249 = .ok (.iload 9, 2) := by decide +kernel
theorem dX12_bring_251 : decode cX12_bring 251 = .ok (.bipush 20, 2) := by decide +kernel
theorem dX12_bring_253 : decode cX12_bring 253 = .ok (.idiv, 1) := by decide +kernel
theorem dX12_bring_254 : decode cX12_bring 254 = .ok (.iload 11, 2) := by decide +kernel
theorem dX12_bring_256 : decode cX12_bring 256 = .ok (.invokevirtual 137, 3) := by decide +kernel
theorem dX12_bring_259 : decode cX12_bring 259 = .ok (.imul, 1) := by decide +kernel
theorem dX12_bring_260 : decode cX12_bring 260 = .ok (.aload_n 0, 1) := by decide +kernel
theorem dX12_bring_261 : decode cX12_bring 261 = .ok (.iload_n 3, 1) := by decide +kernel
theorem dX12_bring_262 : decode cX12_bring 262 = .ok (.iload 9, 2) := by decide +kernel
theorem dX12_bring_264 : decode cX12_bring 264 = .ok (.bipush 20, 2) := by decide +kernel
theorem dX12_bring_266 : decode cX12_bring 266 = .ok (.irem, 1) := by decide +kernel
theorem dX12_bring_267 : decode cX12_bring 267 = .ok (.iload 11, 2) := by decide +kernel
theorem dX12_bring_269 : decode cX12_bring 269 = .ok (.invokevirtual 137, 3) := by decide +kernel
theorem dX12_bring_272 : decode cX12_bring 272 = .ok (.iadd, 1) := by decide +kernel
theorem dX12_bring_273 : decode cX12_bring 273 = .ok (.istore 12, 2) := by decide +kernel
theorem dX12_bring_275 : decode cX12_bring 275 = .ok (.aload_n 0, 1) := by decide +kernel
theorem dX12_bring_276 : decode cX12_bring 276 = .ok (.getfield 34, 3) := by decide +kernel
theorem dX12_bring_279 : decode cX12_bring 279 = .ok (.iload 12, 2) := by decide +kernel
theorem dX12_bring_281 : decode cX12_bring 281 = .ok (.iaload, 1) := by decide +kernel
theorem dX12_bring_282 : decode cX12_bring 282 = .ok (.ifCond .ge 50, 3) := by decide +kernel
theorem dX12_bring_285 : decode cX12_bring 285 = .ok (.aload_n 0, 1) := by decide +kernel
theorem dX12_bring_286 : decode cX12_bring 286 = .ok (.getfield 34, 3) := by decide +kernel
theorem dX12_bring_289 : decode cX12_bring 289 = .ok (.iload 12, 2) := by decide +kernel
theorem dX12_bring_291 : decode cX12_bring 291 = .ok (.bipush 10, 2) := by decide +kernel
theorem dX12_bring_293 : decode cX12_bring 293 = .ok (.iload 10, 2) := by decide +kernel
theorem dX12_bring_295 : decode cX12_bring 295 = .ok (.bipush 10, 2) := by decide +kernel
theorem dX12_bring_297 : decode cX12_bring 297 = .ok (.idiv, 1) := by decide +kernel
theorem dX12_bring_298 : decode cX12_bring 298 = .ok (.iconst 1, 1) := by decide +kernel
theorem dX12_bring_299 : decode cX12_bring 299 = .ok (.iadd, 1) := by decide +kernel
theorem dX12_bring_300 : decode cX12_bring 300 = .ok (.imul, 1) := by decide +kernel
theorem dX12_bring_301 : decode cX12_bring 301 = .ok (.iload 10, 2) := by decide +kernel
theorem dX12_bring_303 : decode cX12_bring 303 = .ok (.bipush 10, 2) := by decide +kernel
theorem dX12_bring_305 : decode cX12_bring 305 = .ok (.if_icmp .ge 8, 3) := by decide +kernel
theorem dX12_bring_308 : decode cX12_bring 308 = .ok (.iload 11, 2) := by decide +kernel
theorem dX12_bring_310 : decode cX12_bring 310 = .ok (.goto 8, 3) := by decide +kernel
theorem dX12_bring_313 : decode cX12_bring 313 = .ok (.iload 10, 2) := by decide +kernel
theorem dX12_bring_315 : decode cX12_bring 315 = .ok (.bipush 10, 2) := by decide +kernel
theorem dX12_bring_317 : decode cX12_bring 317 = .ok (.irem, 1) := by decide +kernel
theorem dX12_bring_318 : decode cX12_bring 318 = .ok (.iadd, 1) := by decide +kernel
theorem dX12_bring_319 : decode cX12_bring 319 = .ok (.iastore, 1) := by decide +kernel
theorem dX12_bring_320 : decode cX12_bring 320 = .ok (.aload_n 0, 1) := by decide +kernel
theorem dX12_bring_321 : decode cX12_bring 321 = .ok (.getfield 37, 3) := by decide +kernel
theorem dX12_bring_324 : decode cX12_bring 324 = .ok (.iload 7, 2) := by decide +kernel
theorem dX12_bring_326 : decode cX12_bring 326 = .ok (.iload 12, 2) := by decide +kernel
theorem dX12_bring_328 : decode cX12_bring 328 = .ok (.iastore, 1) := by decide +kernel
theorem dX12_bring_329 : decode cX12_bring 329 = .ok (.iinc 7 1, 3) := by decide +kernel
theorem dX12_bring_332 : decode cX12_bring 332 = .ok (.iinc 11 1, 3) := by decide +kernel
theorem dX12_bring_335 : decode cX12_bring 335 = .ok (.goto (-97), 3) := by decide +kernel
theorem dX12_bring_338 : decode cX12_bring 338 = .ok (.iinc 8 1, 3) := by decide +kernel
theorem dX12_bring_341 : decode cX12_bring 341 = .ok (.goto (-185), 3) := by decide +kernel
theorem dX12_bring_344 : decode cX12_bring 344 = .ok (.bipush (-6), 2) := by decide +kernel
theorem dX12_bring_346 : decode cX12_bring 346 = .ok (.ireturn, 1) := by decide +kernel
set_option maxRecDepth 20000 in
theorem ggX12_drop_X12_in : GoodIn wsX12_drop wsX12_in := goodIn_r _ [5] (by decide +kernel) (by decide +kernel)
set_option maxRecDepth 20000 in
theorem gX12_drop_X12_in : GoodIn wsX12_drop (va_wsS RX12 53 yX12_in wsX12_in) := goodIn_app (goodIn_of _ (by decide +kernel)) ggX12_drop_X12_in
set_option maxRecDepth 20000 in
theorem ggX12_drop_X12_bits : GoodIn wsX12_drop wsX12_bits := goodIn_r _ [8] (by decide +kernel) (by decide +kernel)
set_option maxRecDepth 20000 in
theorem gX12_drop_X12_bits : GoodIn wsX12_drop (va_wsS RX12 61 yX12_bits wsX12_bits) := goodIn_app (goodIn_of _ (by decide +kernel)) ggX12_drop_X12_bits
set_option maxRecDepth 20000 in
theorem ggX12_drop_X12_has : GoodIn wsX12_drop wsX12_has := goodIn_r _ [11] (by decide +kernel) (by decide +kernel)
set_option maxRecDepth 20000 in
theorem gX12_drop_X12_has : GoodIn wsX12_drop (va_wsS RX12 57 yX12_has wsX12_has) := goodIn_app (goodIn_of _ (by decide +kernel)) ggX12_drop_X12_has
theorem dX12_drop_0 : decode cX12_drop 0 = .ok (.iload_n 1, 1) := by decide +kernel
theorem dX12_drop_1 : decode cX12_drop 1 = .ok (.iconst 0, 1) := by decide +kernel
theorem dX12_drop_2 : decode cX12_drop 2 = .ok (.sipush 1023, 3) := by decide +kernel
theorem dX12_drop_5 : decode cX12_drop 5 = .ok (.invokestatic 53, 3) := by decide +kernel
theorem dX12_drop_8 : decode cX12_drop 8 = .ok (.ifCond .eq 12, 3) := by decide +kernel
theorem dX12_drop_11 : decode cX12_drop 11 = .ok (.iload_n 2, 1) := by decide +kernel
theorem dX12_drop_12 : decode cX12_drop 12 = .ok (.iconst 0, 1) := by decide +kernel
theorem dX12_drop_13 : decode cX12_drop 13 = .ok (.iconst 1, 1) := by decide +kernel
theorem dX12_drop_14 : decode cX12_drop 14 = .ok (.invokestatic 53, 3) := by decide +kernel
theorem dX12_drop_17 : decode cX12_drop 17 = .ok (.ifCond .ne 6, 3) := by decide +kernel
theorem dX12_drop_20 : decode cX12_drop 20 = .ok (.bipush (-2), 2) := by decide +kernel
theorem dX12_drop_22 : decode cX12_drop 22 = .ok (.ireturn, 1) := by decide +kernel
theorem dX12_drop_23 : decode cX12_drop 23 = .ok (.iload_n 1, 1) := by decide +kernel
theorem dX12_drop_24 : decode cX12_drop 24 = .ok (.istore_n 3, 1) := by decide +kernel
theorem dX12_drop_25 : decode cX12_drop 25 = .ok (.sipush 1023, 3) := by decide +kernel
theorem dX12_drop_28 : decode cX12_drop 28 = .ok (.istore 4, 2) := by decide +kernel
theorem dX12_drop_30 : decode cX12_drop 30 = .ok (.iload 4, 2) := by decide +kernel
theorem dX12_drop_32 : decode cX12_drop 32 = .ok (.ifCond .lt 108, 3) := by decide +kernel
theorem dX12_drop_35 : decode cX12_drop 35 = .ok (.iload 4, 2) := by decide +kernel
theorem dX12_drop_37 : decode cX12_drop 37 = .ok (.iload_n 1, 1) := by decide +kernel
theorem dX12_drop_38 : decode cX12_drop 38 = .ok (.iconst (-1), 1) := by decide +kernel
theorem dX12_drop_39 : decode cX12_drop 39 = .ok (.ixor, 1) := by decide +kernel
theorem dX12_drop_40 : decode cX12_drop 40 = .ok (.iand, 1) := by decide +kernel
theorem dX12_drop_41 : decode cX12_drop 41 = .ok (.ifCond .ne 19, 3) := by decide +kernel
theorem dX12_drop_44 : decode cX12_drop 44 = .ok (.iload 4, 2) := by decide +kernel
theorem dX12_drop_46 : decode cX12_drop 46 = .ok (.invokestatic 61, 3) := by decide +kernel
theorem dX12_drop_49 : decode cX12_drop 49 = .ok (.iload_n 3, 1) := by decide +kernel
theorem dX12_drop_50 : decode cX12_drop 50 = .ok (.invokestatic 61, 3) := by decide +kernel
theorem dX12_drop_53 : decode cX12_drop 53 = .ok (.if_icmp .gt 7, 3) := by decide +kernel
theorem dX12_drop_56 : decode cX12_drop 56 = .ok (.iconst 1, 1) := by decide +kernel
theorem dX12_drop_57 : decode cX12_drop 57 = .ok (.goto 4, 3) := by decide +kernel
theorem dX12_drop_60 : decode cX12_drop 60 = .ok (.iconst 0, 1) := by decide +kernel
theorem dX12_drop_61 : decode cX12_drop 61 = .ok (.istore 5, 2) := by decide +kernel
theorem dX12_drop_63 : decode cX12_drop 63 = .ok (.iconst 0, 1) := by decide +kernel
theorem dX12_drop_64 : decode cX12_drop 64 = .ok (.istore 6, 2) := by decide +kernel
theorem dX12_drop_66 : decode cX12_drop 66 = .ok (.iload 6, 2) := by decide +kernel
theorem dX12_drop_68 : decode cX12_drop 68 = .ok (.bipush 10, 2) := by decide +kernel
theorem dX12_drop_70 : decode cX12_drop 70 = .ok (.if_icmp .ge 52, 3) := by decide +kernel
theorem dX12_drop_73 : decode cX12_drop 73 = .ok (.iload 5, 2) := by decide +kernel
theorem dX12_drop_75 : decode cX12_drop 75 = .ok (.ifCond .eq 47, 3) := by decide +kernel
theorem dX12_drop_78 : decode cX12_drop 78 = .ok (.iload_n 1, 1) := by decide +kernel
theorem dX12_drop_79 : decode cX12_drop 79 = .ok (.iload 4, 2) := by decide +kernel
theorem dX12_drop_81 : decode cX12_drop 81 = .ok (.iconst (-1), 1) := by decide +kernel
theorem dX12_drop_82 : decode cX12_drop 82 = .ok (.ixor, 1) := by decide +kernel
theorem dX12_drop_83 : decode cX12_drop 83 = .ok (.iand, 1) := by decide +kernel
theorem dX12_drop_84 : decode cX12_drop 84 = .ok (.iload 6, 2) := by decide +kernel
theorem dX12_drop_86 : decode cX12_drop 86 = .ok (.invokestatic 57, 3) := by decide +kernel
theorem dX12_drop_89 : decode cX12_drop 89 = .ok (.ifCond .eq 20, 3) := by decide +kernel
theorem dX12_drop_92 : decode cX12_drop 92 = .ok (.aload_n 0, 1) := by decide +kernel
theorem dX12_drop_93 : decode cX12_drop 93 = .ok (.getfield 22, 3) := by decide +kernel
theorem dX12_drop_96 : decode cX12_drop 96 = .ok (.iload 6, 2) := by decide +kernel
theorem dX12_drop_98 : decode cX12_drop 98 = .ok (.iaload, 1) := by decide +kernel
theorem dX12_drop_99 : decode cX12_drop 99 = .ok (.iload_n 1, 1) := by decide +kernel
theorem dX12_drop_100 : decode cX12_drop 100 = .ok (.iand, 1) := by decide +kernel
theorem dX12_drop_101 : decode cX12_drop 101 = .ok (.iload 4, 2) := by decide +kernel
theorem dX12_drop_103 : decode cX12_drop 103 = .ok (.iconst (-1), 1) := by decide +kernel
theorem dX12_drop_104 : decode cX12_drop 104 = .ok (.ixor, 1) := by decide +kernel
theorem dX12_drop_105 : decode cX12_drop 105 = .ok (.iand, 1) := by decide +kernel
theorem dX12_drop_106 : decode cX12_drop 106 = .ok (.ifCond .ne 7, 3) := by decide +kernel
theorem dX12_drop_109 : decode cX12_drop 109 = .ok (.iconst 1, 1) := by decide +kernel
theorem dX12_drop_110 : decode cX12_drop 110 = .ok (.goto 4, 3) := by decide +kernel
theorem dX12_drop_113 : decode cX12_drop 113 = .ok (.iconst 0, 1) := by decide +kernel
theorem dX12_drop_114 : decode cX12_drop 114 = .ok (.istore 5, 2) := by decide +kernel
theorem dX12_drop_116 : decode cX12_drop 116 = .ok (.iinc 6 1, 3) := by decide +kernel
theorem dX12_drop_119 : decode cX12_drop 119 = .ok (.goto (-53), 3) := by decide +kernel
theorem dX12_drop_122 : decode cX12_drop 122 = .ok (.iload 5, 2) := by decide +kernel
theorem dX12_drop_124 : decode cX12_drop 124 = .ok (.ifCond .eq 8, 3) := by decide +kernel
theorem dX12_drop_127 : decode cX12_drop 127 = .ok (.iload 4, 2) := by decide +kernel
theorem dX12_drop_129 : decode cX12_drop 129 = .ok (.goto 4, 3) := by decide +kernel
theorem dX12_drop_132 : decode cX12_drop 132 = .ok (.iload_n 3, 1) := by decide +kernel
theorem dX12_drop_133 : decode cX12_drop 133 = .ok (.istore_n 3, 1) := by decide +kernel
theorem dX12_drop_134 : decode cX12_drop 134 = .ok (.iinc 4 (-1), 3) := by decide +kernel
theorem dX12_drop_137 : decode cX12_drop 137 = .ok (.goto (-107), 3) := by decide +kernel
theorem dX12_drop_140 : decode cX12_drop 140 = .ok (.iload_n 2, 1) := by decide +kernel
theorem dX12_drop_141 : decode cX12_drop 141 = .ok (.iconst 1, 1) := by decide +kernel
theorem dX12_drop_142 : decode cX12_drop 142 = .ok (.if_icmp .ne 7, 3) := by decide +kernel
theorem dX12_drop_145 : decode cX12_drop 145 = .ok (.iload_n 3, 1) := by decide +kernel
theorem dX12_drop_146 : decode cX12_drop 146 = .ok (.goto 7, 3) := by decide +kernel
theorem dX12_drop_149 : decode cX12_drop 149 = .ok (.iload_n 3, 1) := by decide +kernel
theorem dX12_drop_150 : decode cX12_drop 150 = .ok (.invokestatic 61, 3) := by decide +kernel
theorem dX12_drop_153 : decode cX12_drop 153 = .ok (.ireturn, 1) := by decide +kernel
set_option maxRecDepth 20000 in
theorem ggX12_share_X12_isThere : GoodIn wsX12_share wsX12_isThere := goodIn_r _ [7, 2, 8, 9, 6, 10, 11, 12, 13, 14, 15, 16, 17, 18, 19, 20, 21, 22, 23, 24, 25, 26, 27, 28, 29, 30, 31, 32, 33, 34, 35] (by decide +kernel) (by decide +kernel)
set_option maxRecDepth 20000 in
theorem gX12_share_X12_isThere : GoodIn wsX12_share (wsV RX12 131 RX12 yX12_isThere wsX12_isThere) := goodIn_app (goodIn_of _ (by decide +kernel)) ggX12_share_X12_isThere
set_option maxRecDepth 20000 in
theorem ggX12_share_X12_in : GoodIn wsX12_share wsX12_in := goodIn_r _ [10] (by decide +kernel) (by decide +kernel)
set_option maxRecDepth 20000 in
theorem gX12_share_X12_in : GoodIn wsX12_share (va_wsS RX12 53 yX12_in wsX12_in) := goodIn_app (goodIn_of _ (by decide +kernel)) ggX12_share_X12_in
theorem dX12_share_0 : decode cX12_share 0 = .ok (.aload_n 0, 1) := by decide +kernel
theorem dX12_share_1 : decode cX12_share 1 = .ok (.iload_n 1, 1) := by decide +kernel
theorem dX12_share_2 : decode cX12_share 2 = .ok (.invokevirtual 131, 3) := by decide +kernel
theorem dX12_share_5 : decode cX12_share 5 = .ok (.ifCond .ne 5, 3) := by decide +kernel
theorem dX12_share_8 : decode cX12_share 8 = .ok (.iconst (-1), 1) := by decide +kernel
theorem dX12_share_9 : decode cX12_share 9 = .ok (.ireturn, 1) := by decide +kernel
theorem dX12_share_10 : decode cX12_share 10 = .ok (.iload_n 2, 1) := by decide +kernel
theorem dX12_share_11 : decode cX12_share 11 = .ok (.iconst 0, 1) := by decide +kernel
theorem dX12_share_12 : decode cX12_share 12 = .ok (.bipush 99, 2) := by decide +kernel
theorem dX12_share_14 : decode cX12_share 14 = .ok (.invokestatic 53, 3) := by decide +kernel
theorem dX12_share_17 : decode cX12_share 17 = .ok (.ifCond .ne 6, 3) := by decide +kernel
theorem dX12_share_20 : decode cX12_share 20 = .ok (.bipush (-2), 2) := by decide +kernel
theorem dX12_share_22 : decode cX12_share 22 = .ok (.ireturn, 1) := by decide +kernel
theorem dX12_share_23 : decode cX12_share 23 = .ok (.iconst 0, 1) := by decide +kernel
theorem dX12_share_24 : decode cX12_share 24 = .ok (.istore_n 3, 1) := by decide +kernel
theorem dX12_share_25 : decode cX12_share 25 = .ok (.iconst 0, 1) := by decide +kernel
theorem dX12_share_26 : decode cX12_share 26 = .ok (.istore 4, 2) := by decide +kernel
theorem dX12_share_28 : decode cX12_share 28 = .ok (.iload 4, 2) := by decide +kernel
theorem dX12_share_30 : decode cX12_share 30 = .ok (.bipush 6, 2) := by decide +kernel
theorem dX12_share_32 : decode cX12_share 32 = .ok (.if_icmp .ge 40, 3) := by decide +kernel
theorem dX12_share_35 : decode cX12_share 35 = .ok (.aload_n 0, 1) := by decide +kernel
theorem dX12_share_36 : decode cX12_share 36 = .ok (.getfield 40, 3) := by decide +kernel
theorem dX12_share_39 : decode cX12_share 39 = .ok (.iload 4, 2) := by decide +kernel
theorem dX12_share_41 : decode cX12_share 41 = .ok (.iconst 0, 1) := by decide +kernel
theorem dX12_share_42 : decode cX12_share 42 = .ok (.iastore, 1) := by decide +kernel
theorem dX12_share_43 : decode cX12_share 43 = .ok (.iload_n 3, 1) := by decide +kernel
theorem dX12_share_44 : decode cX12_share 44 = .ok (.aload_n 0, 1) := by decide +kernel
theorem dX12_share_45 : decode cX12_share 45 = .ok (.iload 4, 2) := by decide +kernel
theorem dX12_share_47 : decode cX12_share 47 = .ok (.invokevirtual 131, 3) := by decide +kernel
theorem dX12_share_50 : decode cX12_share 50 = .ok (.ifCond .eq 13, 3) := by decide +kernel
theorem dX12_share_53 : decode cX12_share 53 = .ok (.aload_n 0, 1) := by decide +kernel
theorem dX12_share_54 : decode cX12_share 54 = .ok (.getfield 7, 3) := by decide +kernel
theorem dX12_share_57 : decode cX12_share 57 = .ok (.iload 4, 2) := by decide +kernel
theorem dX12_share_59 : decode cX12_share 59 = .ok (.iaload, 1) := by decide +kernel
theorem dX12_share_60 : decode cX12_share 60 = .ok (.goto 4, 3) := by decide +kernel
theorem dX12_share_63 : decode cX12_share 63 = .ok (.iconst 0, 1) := by decide +kernel
theorem dX12_share_64 : decode cX12_share 64 = .ok (.iadd, 1) := by decide +kernel
theorem dX12_share_65 : decode cX12_share 65 = .ok (.istore_n 3, 1) := by decide +kernel
theorem dX12_share_66 : decode cX12_share 66 = .ok (.iinc 4 1, 3) := by decide +kernel
theorem dX12_share_69 : decode cX12_share 69 = .ok (.goto (-41), 3) := by decide +kernel
theorem dX12_share_72 : decode cX12_share 72 = .ok (.iload_n 3, 1) := by decide +kernel
theorem dX12_share_73 : decode cX12_share 73 = .ok (.ifCond .ne 6, 3) := by decide +kernel
theorem dX12_share_76 : decode cX12_share 76 = .ok (.bipush (-6), 2) := by decide +kernel
theorem dX12_share_78 : decode cX12_share 78 = .ok (.ireturn, 1) := by decide +kernel
theorem dX12_share_79 : decode cX12_share 79 = .ok (.iconst 0, 1) := by decide +kernel
theorem dX12_share_80 : decode cX12_share 80 = .ok (.istore 4, 2) := by decide +kernel
theorem dX12_share_82 : decode cX12_share 82 = .ok (.iload 4, 2) := by decide +kernel
theorem dX12_share_84 : decode cX12_share 84 = .ok (.iload_n 2, 1) := by decide +kernel
theorem dX12_share_85 : decode cX12_share 85 = .ok (.if_icmp .ge 95, 3) := by decide +kernel
theorem dX12_share_88 : decode cX12_share 88 = .ok (.bipush (-6), 2) := by decide +kernel
theorem dX12_share_90 : decode cX12_share 90 = .ok (.istore 5, 2) := by decide +kernel
theorem dX12_share_92 : decode cX12_share 92 = .ok (.iconst 0, 1) := by decide +kernel
theorem dX12_share_93 : decode cX12_share 93 = .ok (.istore 6, 2) := by decide +kernel
theorem dX12_share_95 : decode cX12_share 95 = .ok (.iload 6, 2) := by decide +kernel
theorem dX12_share_97 : decode cX12_share 97 = .ok (.bipush 6, 2) := by decide +kernel
theorem dX12_share_99 : decode cX12_share 99 = .ok (.if_icmp .ge 64, 3) := by decide +kernel
theorem dX12_share_102 : decode cX12_share 102 = .ok (.aload_n 0, 1) := by decide +kernel
theorem dX12_share_103 : decode cX12_share 103 = .ok (.iload 6, 2) := by decide +kernel
theorem dX12_share_105 : decode cX12_share 105 = .ok (.invokevirtual 131, 3) := by decide +kernel
theorem dX12_share_108 : decode cX12_share 108 = .ok (.ifCond .eq 49, 3) := by decide +kernel
theorem dX12_share_111 : decode cX12_share 111 = .ok (.iload 5, 2) := by decide +kernel
theorem dX12_share_113 : decode cX12_share 113 = .ok (.ifCond .lt 40, 3) := by decide +kernel
theorem dX12_share_116 : decode cX12_share 116 = .ok (.aload_n 0, 1) := by decide +kernel
theorem dX12_share_117 : decode cX12_share 117 = .ok (.getfield 7, 3) := by decide +kernel
theorem dX12_share_120 : decode cX12_share 120 = .ok (.iload 6, 2) := by decide +kernel
theorem dX12_share_122 : decode cX12_share 122 = .ok (.iaload, 1) := by decide +kernel
theorem dX12_share_123 : decode cX12_share 123 = .ok (.aload_n 0, 1) := by decide +kernel
theorem dX12_share_124 : decode cX12_share 124 = .ok (.getfield 40, 3) := by decide +kernel
theorem dX12_share_127 : decode cX12_share 127 = .ok (.iload 5, 2) := by decide +kernel
theorem dX12_share_129 : decode cX12_share 129 = .ok (.iaload, 1) := by decide +kernel
theorem dX12_share_130 : decode cX12_share 130 = .ok (.iconst 1, 1) := by decide +kernel
theorem dX12_share_131 : decode cX12_share 131 = .ok (.iadd, 1) := by decide +kernel
theorem dX12_share_132 : decode cX12_share 132 = .ok (.imul, 1) := by decide +kernel
theorem dX12_share_133 : decode cX12_share 133 = .ok (.aload_n 0, 1) := by decide +kernel
theorem dX12_share_134 : decode cX12_share 134 = .ok (.getfield 7, 3) := by decide +kernel
theorem dX12_share_137 : decode cX12_share 137 = .ok (.iload 5, 2) := by decide +kernel
theorem dX12_share_139 : decode cX12_share 139 = .ok (.iaload, 1) := by decide +kernel
theorem dX12_share_140 : decode cX12_share 140 = .ok (.aload_n 0, 1) := by decide +kernel
theorem dX12_share_141 : decode cX12_share 141 = .ok (.getfield 40, 3) := by decide +kernel
theorem dX12_share_144 : decode cX12_share 144 = .ok (.iload 6, 2) := by decide +kernel
theorem dX12_share_146 : decode cX12_share 146 = .ok (.iaload, 1) := by decide +kernel
theorem dX12_share_147 : decode cX12_share 147 = .ok (.iconst 1, 1) := by decide +kernel
theorem dX12_share_148 : decode cX12_share 148 = .ok (.iadd, 1) := by decide +kernel
theorem dX12_share_149 : decode cX12_share 149 = .ok (.imul, 1) := by decide +kernel
theorem dX12_share_150 : decode cX12_share 150 = .ok (.if_icmp .le 7, 3) := by decide +kernel
theorem dX12_share_153 : decode cX12_share 153 = .ok (.iload 6, 2) := by decide +kernel
theorem dX12_share_155 : decode cX12_share 155 = .ok (.istore 5, 2) := by decide +kernel
theorem dX12_share_157 : decode cX12_share 157 = .ok (.iinc 6 1, 3) := by decide +kernel
theorem dX12_share_160 : decode cX12_share 160 = .ok (.goto (-65), 3) := by decide +kernel
theorem dX12_share_163 : decode cX12_share 163 = .ok (.aload_n 0, 1) := by decide +kernel
theorem dX12_share_164 : decode cX12_share 164 = .ok (.getfield 40, 3) := by decide +kernel
theorem dX12_share_167 : decode cX12_share 167 = .ok (.iload 5, 2) := by decide +kernel
theorem dX12_share_169 : decode cX12_share 169 = .ok (.dup2, 1) := by decide +kernel
theorem dX12_share_170 : decode cX12_share 170 = .ok (.iaload, 1) := by decide +kernel
theorem dX12_share_171 : decode cX12_share 171 = .ok (.iconst 1, 1) := by decide +kernel
theorem dX12_share_172 : decode cX12_share 172 = .ok (.iadd, 1) := by decide +kernel
theorem dX12_share_173 : decode cX12_share 173 = .ok (.iastore, 1) := by decide +kernel
theorem dX12_share_174 : decode cX12_share 174 = .ok (.iinc 4 1, 3) := by decide +kernel
theorem dX12_share_177 : decode cX12_share 177 = .ok (.goto (-95), 3) := by decide +kernel
theorem dX12_share_180 : decode cX12_share 180 = .ok (.aload_n 0, 1) := by decide +kernel
theorem dX12_share_181 : decode cX12_share 181 = .ok (.getfield 40, 3) := by decide +kernel
theorem dX12_share_184 : decode cX12_share 184 = .ok (.iload_n 1, 1) := by decide +kernel
theorem dX12_share_185 : decode cX12_share 185 = .ok (.iaload, 1) := by decide +kernel
theorem dX12_share_186 : decode cX12_share 186 = .ok (.ireturn, 1) := by decide +kernel
theorem dX12_lowest_0 : decode cX12_lowest 0 = .ok (.lload_n 0, 1) := by decide +kernel
theorem dX12_lowest_1 : decode cX12_lowest 1 = .ok (.lstore 5, 2) := by decide +kernel
theorem dX12_lowest_3 : decode cX12_lowest 3 = .ok (.lload_n 2, 1) := by decide +kernel
theorem dX12_lowest_4 : decode cX12_lowest 4 = .ok (.lstore 7, 2) := by decide +kernel
theorem dX12_lowest_6 : decode cX12_lowest 6 = .ok (.lload 7, 2) := by decide +kernel
theorem dX12_lowest_8 : decode cX12_lowest 8 = .ok (.lconst 0, 1) := by decide +kernel
theorem dX12_lowest_9 : decode cX12_lowest 9 = .ok (.lcmp, 1) := by decide +kernel
theorem dX12_lowest_10 : decode cX12_lowest 10 = .ok (.ifCond .eq 21, 3) := by decide +kernel
theorem dX12_lowest_13 : decode cX12_lowest 13 = .ok (.lload 5, 2) := by decide +kernel
theorem dX12_lowest_15 : decode cX12_lowest 15 = .ok (.lload 7, 2) := by decide +kernel
theorem dX12_lowest_17 : decode cX12_lowest 17 = .ok (.lrem, 1) := by decide +kernel
theorem dX12_lowest_18 : decode cX12_lowest 18 = .ok (.lstore 9, 2) := by decide +kernel
theorem dX12_lowest_20 : decode cX12_lowest 20 = .ok (.lload 7, 2) := by decide +kernel
theorem dX12_lowest_22 : decode cX12_lowest 22 = .ok (.lstore 5, 2) := by decide +kernel
theorem dX12_lowest_24 : decode cX12_lowest 24 = .ok (.lload 9, 2) := by decide +kernel
theorem dX12_lowest_26 : decode cX12_lowest 26 = .ok (.lstore 7, 2) := by decide +kernel
theorem dX12_lowest_28 : decode cX12_lowest 28 = .ok (.goto (-22), 3) := by decide +kernel
theorem dX12_lowest_31 : decode cX12_lowest 31 = .ok (.iload 4, 2) := by decide +kernel
theorem dX12_lowest_33 : decode cX12_lowest 33 = .ok (.ifCond .ne 10, 3) := by decide +kernel
theorem dX12_lowest_36 : decode cX12_lowest 36 = .ok (.lload_n 0, 1) := by decide +kernel
theorem dX12_lowest_37 : decode cX12_lowest 37 = .ok (.lload 5, 2) := by decide +kernel
theorem dX12_lowest_39 : decode cX12_lowest 39 = .ok (.ldiv, 1) := by decide +kernel
theorem dX12_lowest_40 : decode cX12_lowest 40 = .ok (.goto 7, 3) := by decide +kernel
theorem dX12_lowest_43 : decode cX12_lowest 43 = .ok (.lload_n 2, 1) := by decide +kernel
theorem dX12_lowest_44 : decode cX12_lowest 44 = .ok (.lload 5, 2) := by decide +kernel
theorem dX12_lowest_46 : decode cX12_lowest 46 = .ok (.ldiv, 1) := by decide +kernel
theorem dX12_lowest_47 : decode cX12_lowest 47 = .ok (.lreturn, 1) := by decide +kernel
theorem dX12_layWait_0 : decode cX12_layWait 0 = .ok (.aload_n 0, 1) := by decide +kernel
theorem dX12_layWait_1 : decode cX12_layWait 1 = .ok (.lconst 0, 1) := by decide +kernel
theorem dX12_layWait_2 : decode cX12_layWait 2 = .ok (.putfield 140, 3) := by decide +kernel
theorem dX12_layWait_5 : decode cX12_layWait 5 = .ok (.aload_n 0, 1) := by decide +kernel
theorem dX12_layWait_6 : decode cX12_layWait 6 = .ok (.lconst 1, 1) := by decide +kernel
theorem dX12_layWait_7 : decode cX12_layWait 7 = .ok (.putfield 144, 3) := by decide +kernel
theorem dX12_layWait_10 : decode cX12_layWait 10 = .ok (.iconst 0, 1) := by decide +kernel
theorem dX12_layWait_11 : decode cX12_layWait 11 = .ok (.istore_n 3, 1) := by decide +kernel
theorem dX12_layWait_12 : decode cX12_layWait 12 = .ok (.iload_n 3, 1) := by decide +kernel
theorem dX12_layWait_13 : decode cX12_layWait 13 = .ok (.iload_n 1, 1) := by decide +kernel
theorem dX12_layWait_14 : decode cX12_layWait 14 = .ok (.if_icmp .ge 82, 3) := by decide +kernel
theorem dX12_layWait_17 : decode cX12_layWait 17 = .ok (.lconst 0, 1) := by decide +kernel
theorem dX12_layWait_18 : decode cX12_layWait 18 = .ok (.lstore 4, 2) := by decide +kernel
theorem dX12_layWait_20 : decode cX12_layWait 20 = .ok (.iconst 0, 1) := by decide +kernel
theorem dX12_layWait_21 : decode cX12_layWait 21 = .ok (.istore 6, 2) := by decide +kernel
theorem dX12_layWait_23 : decode cX12_layWait 23 = .ok (.iload 6, 2) := by decide +kernel
theorem dX12_layWait_25 : decode cX12_layWait 25 = .ok (.iload_n 2, 1) := by decide +kernel
theorem dX12_layWait_26 : decode cX12_layWait 26 = .ok (.if_icmp .gt 45, 3) := by decide +kernel
theorem dX12_layWait_29 : decode cX12_layWait 29 = .ok (.lload 4, 2) := by decide +kernel
theorem dX12_layWait_31 : decode cX12_layWait 31 = .ok (.iload 6, 2) := by decide +kernel
theorem dX12_layWait_33 : decode cX12_layWait 33 = .ok (.i2l, 1) := by decide +kernel
theorem dX12_layWait_34 : decode cX12_layWait 34 = .ok (.aload_n 0, 1) := by decide +kernel
theorem dX12_layWait_35 : decode cX12_layWait 35 = .ok (.getfield 144, 3) := by decide +kernel
theorem dX12_layWait_38 : decode cX12_layWait 38 = .ok (.lmul, 1) := by decide +kernel
theorem dX12_layWait_39 : decode cX12_layWait 39 = .ok (.aload_n 0, 1) := by decide +kernel
theorem dX12_layWait_40 : decode cX12_layWait 40 = .ok (.getfield 140, 3) := by decide +kernel
theorem dX12_layWait_43 : decode cX12_layWait 43 = .ok (.lcmp, 1) := by decide +kernel
theorem dX12_layWait_44 : decode cX12_layWait 44 = .ok (.ifCond .le 14, 3) := by decide +kernel
theorem dX12_layWait_47 : decode cX12_layWait 47 = .ok (.iload 6, 2) := by decide +kernel
theorem dX12_layWait_49 : decode cX12_layWait 49 = .ok (.i2l, 1) := by decide +kernel
theorem dX12_layWait_50 : decode cX12_layWait 50 = .ok (.aload_n 0, 1) := by decide +kernel
theorem dX12_layWait_51 : decode cX12_layWait 51 = .ok (.getfield 144, 3) := by decide +kernel
theorem dX12_layWait_54 : decode cX12_layWait 54 = .ok (.lmul, 1) := by decide +kernel
theorem dX12_layWait_55 : decode cX12_layWait 55 = .ok (.goto 7, 3) := by decide +kernel
theorem dX12_layWait_58 : decode cX12_layWait 58 = .ok (.aload_n 0, 1) := by decide +kernel
theorem dX12_layWait_59 : decode cX12_layWait 59 = .ok (.getfield 140, 3) := by decide +kernel
theorem dX12_layWait_62 : decode cX12_layWait 62 = .ok (.ladd, 1) := by decide +kernel
theorem dX12_layWait_63 : decode cX12_layWait 63 = .ok (.lstore 4, 2) := by decide +kernel
theorem dX12_layWait_65 : decode cX12_layWait 65 = .ok (.iinc 6 1, 3) := by decide +kernel
theorem dX12_layWait_68 : decode cX12_layWait 68 = .ok (.goto (-45), 3) := by decide +kernel
theorem dX12_layWait_71 : decode cX12_layWait 71 = .ok (.aload_n 0, 1) := by decide +kernel
theorem dX12_layWait_72 : decode cX12_layWait 72 = .ok (.lload 4, 2) := by decide +kernel
theorem dX12_layWait_74 : decode cX12_layWait 74 = .ok (.putfield 140, 3) := by decide +kernel
theorem dX12_layWait_77 : decode cX12_layWait 77 = .ok (.aload_n 0, 1) := by decide +kernel
theorem dX12_layWait_78 : decode cX12_layWait 78 = .ok (.dup, 1) := by decide +kernel
theorem dX12_layWait_79 : decode cX12_layWait 79 = .ok (.getfield 144, 3) := by decide +kernel
theorem dX12_layWait_82 : decode cX12_layWait 82 = .ok (.iload_n 2, 1) := by decide +kernel
theorem dX12_layWait_83 : decode cX12_layWait 83 = .ok (.iconst 1, 1) := by decide +kernel
theorem dX12_layWait_84 : decode cX12_layWait 84 = .ok (.iadd, 1) := by decide +kernel
theorem dX12_layWait_85 : decode cX12_layWait 85 = .ok (.i2l, 1) := by decide +kernel
theorem dX12_layWait_86 : decode cX12_layWait 86 = .ok (.lmul, 1) := by decide +kernel
theorem dX12_layWait_87 : decode cX12_layWait 87 = .ok (.putfield 144, 3) := by decide +kernel
theorem dX12_layWait_90 : decode cX12_layWait 90 = .ok (.iinc 3 1, 3) := by decide +kernel
theorem dX12_layWait_93 : decode cX12_layWait 93 = .ok (.goto (-81), 3) := by decide +kernel
theorem dX12_layWait_96 : decode cX12_layWait 96 = .ok (.return_, 1) := by decide +kernel
set_option maxRecDepth 20000 in
theorem ggX12_waiting_X12_in : GoodIn wsX12_waiting wsX12_in := goodIn_r _ [7] (by decide +kernel) (by decide +kernel)
set_option maxRecDepth 20000 in
theorem gX12_waiting_X12_in : GoodIn wsX12_waiting (va_wsS RX12 53 yX12_in wsX12_in) := goodIn_app (goodIn_of _ (by decide +kernel)) ggX12_waiting_X12_in
set_option maxRecDepth 20000 in
theorem ggX12_waiting_X12_layWait : GoodIn wsX12_waiting wsX12_layWait := goodIn_r _ [11, 2, 3, 15, 16, 17, 18, 19, 20, 21, 22, 23, 24, 25, 26, 27, 28, 29, 30, 31, 32, 33, 34, 35, 36] (by decide +kernel) (by decide +kernel)
set_option maxRecDepth 20000 in
theorem gX12_waiting_X12_layWait : GoodIn wsX12_waiting (wsV RX12 149 RX12 yX12_layWait wsX12_layWait) := goodIn_app (goodIn_of _ (by decide +kernel)) ggX12_waiting_X12_layWait
set_option maxRecDepth 20000 in
theorem ggX12_waiting_X12_lowest : GoodIn wsX12_waiting wsX12_lowest := goodIn_r _ [14] (by decide +kernel) (by decide +kernel)
set_option maxRecDepth 20000 in
theorem gX12_waiting_X12_lowest : GoodIn wsX12_waiting (va_wsS RX12 152 yX12_lowest wsX12_lowest) := goodIn_app (goodIn_of _ (by decide +kernel)) ggX12_waiting_X12_lowest
theorem dX12_waiting_0 : decode cX12_waiting 0 = .ok (.iload_n 1, 1) := by decide +kernel
theorem dX12_waiting_1 : decode cX12_waiting 1 = .ok (.iconst 1, 1) := by decide +kernel
theorem dX12_waiting_2 : decode cX12_waiting 2 = .ok (.bipush 12, 2) := by decide +kernel
theorem dX12_waiting_4 : decode cX12_waiting 4 = .ok (.invokestatic 53, 3) := by decide +kernel
theorem dX12_waiting_7 : decode cX12_waiting 7 = .ok (.ifCond .eq 22, 3) := by decide +kernel
theorem dX12_waiting_10 : decode cX12_waiting 10 = .ok (.iload_n 2, 1) := by decide +kernel
theorem dX12_waiting_11 : decode cX12_waiting 11 = .ok (.iconst 1, 1) := by decide +kernel
theorem dX12_waiting_12 : decode cX12_waiting 12 = .ok (.bipush 9, 2) := by decide +kernel
theorem dX12_waiting_14 : decode cX12_waiting 14 = .ok (.invokestatic 53, 3) := by decide +kernel
theorem dX12_waiting_17 : decode cX12_waiting 17 = .ok (.ifCond .eq 12, 3) := by decide +kernel
theorem dX12_waiting_20 : decode cX12_waiting 20 = .ok (.iload_n 3, 1) := by decide +kernel
theorem dX12_waiting_21 : decode cX12_waiting 21 = .ok (.iconst 0, 1) := by decide +kernel
theorem dX12_waiting_22 : decode cX12_waiting 22 = .ok (.iconst 1, 1) := by decide +kernel
theorem dX12_waiting_23 : decode cX12_waiting 23 = .ok (.invokestatic 53, 3) := by decide +kernel
theorem dX12_waiting_26 : decode cX12_waiting 26 = .ok (.ifCond .ne 7, 3) := by decide +kernel
theorem dX12_waiting_29 : decode cX12_waiting 29 = .ok (.ldc2_w 147, 3) := by decide +kernel
theorem dX12_waiting_32 : decode cX12_waiting 32 = .ok (.lreturn, 1) := by decide +kernel
theorem dX12_waiting_33 : decode cX12_waiting 33 = .ok (.aload_n 0, 1) := by decide +kernel
theorem dX12_waiting_34 : decode cX12_waiting 34 = .ok (.iload_n 1, 1) := by decide +kernel
theorem dX12_waiting_35 : decode cX12_waiting 35 = .ok (.iload_n 2, 1) := by decide +kernel
theorem dX12_waiting_36 : decode cX12_waiting 36 = .ok (.invokevirtual 149, 3) := by decide +kernel
theorem dX12_waiting_39 : decode cX12_waiting 39 = .ok (.aload_n 0, 1) := by decide +kernel
theorem dX12_waiting_40 : decode cX12_waiting 40 = .ok (.getfield 140, 3) := by decide +kernel
theorem dX12_waiting_43 : decode cX12_waiting 43 = .ok (.aload_n 0, 1) := by decide +kernel
theorem dX12_waiting_44 : decode cX12_waiting 44 = .ok (.getfield 144, 3) := by decide +kernel
theorem dX12_waiting_47 : decode cX12_waiting 47 = .ok (.iload_n 3, 1) := by decide +kernel
theorem dX12_waiting_48 : decode cX12_waiting 48 = .ok (.invokestatic 152, 3) := by decide +kernel
theorem dX12_waiting_51 : decode cX12_waiting 51 = .ok (.lreturn, 1) := by decide +kernel
set_option maxRecDepth 20000 in
theorem ggX12_reads_X12_in : GoodIn wsX12_reads wsX12_in := goodIn_r _ [6] (by decide +kernel) (by decide +kernel)
set_option maxRecDepth 20000 in
theorem gX12_reads_X12_in : GoodIn wsX12_reads (va_wsS RX12 53 yX12_in wsX12_in) := goodIn_app (goodIn_of _ (by decide +kernel)) ggX12_reads_X12_in
set_option maxRecDepth 20000 in
theorem ggX12_reads_X12_layWait : GoodIn wsX12_reads wsX12_layWait := goodIn_r _ [10, 2, 1, 11, 12, 13, 14, 15, 16, 17, 18, 19, 20, 21, 22, 23, 24, 25, 26, 27, 28, 29, 30, 31, 32] (by decide +kernel) (by decide +kernel)
set_option maxRecDepth 20000 in
theorem gX12_reads_X12_layWait : GoodIn wsX12_reads (wsV RX12 149 RX12 yX12_layWait wsX12_layWait) := goodIn_app (goodIn_of _ (by decide +kernel)) ggX12_reads_X12_layWait
theorem dX12_reads_0 : decode cX12_reads 0 = .ok (.iload_n 1, 1) := by decide +kernel
theorem dX12_reads_1 : decode cX12_reads 1 = .ok (.iconst 1, 1) := by decide +kernel
theorem dX12_reads_2 : decode cX12_reads 2 = .ok (.bipush 12, 2) := by decide +kernel
theorem dX12_reads_4 : decode cX12_reads 4 = .ok (.invokestatic 53, 3) := by decide +kernel
theorem dX12_reads_7 : decode cX12_reads 7 = .ok (.ifCond .eq 13, 3) := by decide +kernel
theorem dX12_reads_10 : decode cX12_reads 10 = .ok (.iload_n 2, 1) := by decide +kernel
theorem dX12_reads_11 : decode cX12_reads 11 = .ok (.iconst 1, 1) := by decide +kernel
theorem dX12_reads_12 : decode cX12_reads 12 = .ok (.bipush 9, 2) := by decide +kernel
theorem dX12_reads_14 : decode cX12_reads 14 = .ok (.invokestatic 53, 3) := by decide +kernel
theorem dX12_reads_17 : decode cX12_reads 17 = .ok (.ifCond .ne 6, 3) := by decide +kernel
theorem dX12_reads_20 : decode cX12_reads 20 = .ok (.bipush (-2), 2) := by decide +kernel
theorem dX12_reads_22 : decode cX12_reads 22 = .ok (.ireturn, 1) := by decide +kernel
theorem dX12_reads_23 : decode cX12_reads 23 = .ok (.aload_n 0, 1) := by decide +kernel
theorem dX12_reads_24 : decode cX12_reads 24 = .ok (.iload_n 1, 1) := by decide +kernel
theorem dX12_reads_25 : decode cX12_reads 25 = .ok (.iconst 1, 1) := by decide +kernel
theorem dX12_reads_26 : decode cX12_reads 26 = .ok (.isub, 1) := by decide +kernel
theorem dX12_reads_27 : decode cX12_reads 27 = .ok (.iload_n 2, 1) := by decide +kernel
theorem dX12_reads_28 : decode cX12_reads 28 = .ok (.invokevirtual 149, 3) := by decide +kernel
theorem dX12_reads_31 : decode cX12_reads 31 = .ok (.iconst 0, 1) := by decide +kernel
theorem dX12_reads_32 : decode cX12_reads 32 = .ok (.istore_n 3, 1) := by decide +kernel
theorem dX12_reads_33 : decode cX12_reads 33 = .ok (.iload_n 3, 1) := by decide +kernel
theorem dX12_reads_34 : decode cX12_reads 34 = .ok (.i2l, 1) := by decide +kernel
theorem dX12_reads_35 : decode cX12_reads 35 = .ok (.aload_n 0, 1) := by decide +kernel
theorem dX12_reads_36 : decode cX12_reads 36 = .ok (.getfield 144, 3) := by decide +kernel
theorem dX12_reads_39 : decode cX12_reads 39 = .ok (.lmul, 1) := by decide +kernel
theorem dX12_reads_40 : decode cX12_reads 40 = .ok (.aload_n 0, 1) := by decide +kernel
theorem dX12_reads_41 : decode cX12_reads 41 = .ok (.getfield 140, 3) := by decide +kernel
theorem dX12_reads_44 : decode cX12_reads 44 = .ok (.lcmp, 1) := by decide +kernel
theorem dX12_reads_45 : decode cX12_reads 45 = .ok (.ifCond .ge 9, 3) := by decide +kernel
theorem dX12_reads_48 : decode cX12_reads 48 = .ok (.iinc 3 1, 3) := by decide +kernel
theorem dX12_reads_51 : decode cX12_reads 51 = .ok (.goto (-18), 3) := by decide +kernel
theorem dX12_reads_54 : decode cX12_reads 54 = .ok (.iload_n 3, 1) := by decide +kernel
theorem dX12_reads_55 : decode cX12_reads 55 = .ok (.ireturn, 1) := by decide +kernel
set_option maxRecDepth 20000 in
theorem ggX12_counted_X12_in : GoodIn wsX12_counted wsX12_in := goodIn_r _ [6] (by decide +kernel) (by decide +kernel)
set_option maxRecDepth 20000 in
theorem gX12_counted_X12_in : GoodIn wsX12_counted (va_wsS RX12 53 yX12_in wsX12_in) := goodIn_app (goodIn_of _ (by decide +kernel)) ggX12_counted_X12_in
theorem dX12_counted_0 : decode cX12_counted 0 = .ok (.iload_n 1, 1) := by decide +kernel
theorem dX12_counted_1 : decode cX12_counted 1 = .ok (.iconst 0, 1) := by decide +kernel
theorem dX12_counted_2 : decode cX12_counted 2 = .ok (.iconst 5, 1) := by decide +kernel
theorem dX12_counted_3 : decode cX12_counted 3 = .ok (.invokestatic 53, 3) := by decide +kernel
theorem dX12_counted_6 : decode cX12_counted 6 = .ok (.ifCond .ne 5, 3) := by decide +kernel
theorem dX12_counted_9 : decode cX12_counted 9 = .ok (.iconst (-1), 1) := by decide +kernel
theorem dX12_counted_10 : decode cX12_counted 10 = .ok (.ireturn, 1) := by decide +kernel
theorem dX12_counted_11 : decode cX12_counted 11 = .ok (.iload_n 2, 1) := by decide +kernel
theorem dX12_counted_12 : decode cX12_counted 12 = .ok (.iconst 0, 1) := by decide +kernel
theorem dX12_counted_13 : decode cX12_counted 13 = .ok (.sipush 999, 3) := by decide +kernel
theorem dX12_counted_16 : decode cX12_counted 16 = .ok (.invokestatic 53, 3) := by decide +kernel
theorem dX12_counted_19 : decode cX12_counted 19 = .ok (.ifCond .ne 6, 3) := by decide +kernel
theorem dX12_counted_22 : decode cX12_counted 22 = .ok (.bipush (-2), 2) := by decide +kernel
theorem dX12_counted_24 : decode cX12_counted 24 = .ok (.ireturn, 1) := by decide +kernel
theorem dX12_counted_25 : decode cX12_counted 25 = .ok (.aload_n 0, 1) := by decide +kernel
theorem dX12_counted_26 : decode cX12_counted 26 = .ok (.getfield 156, 3) := by decide +kernel
theorem dX12_counted_29 : decode cX12_counted 29 = .ok (.bipush 8, 2) := by decide +kernel
theorem dX12_counted_31 : decode cX12_counted 31 = .ok (.if_icmp .ne 6, 3) := by decide +kernel
theorem dX12_counted_34 : decode cX12_counted 34 = .ok (.bipush (-4), 2) := by decide +kernel
theorem dX12_counted_36 : decode cX12_counted 36 = .ok (.ireturn, 1) := by decide +kernel
theorem dX12_counted_37 : decode cX12_counted 37 = .ok (.aload_n 0, 1) := by decide +kernel
theorem dX12_counted_38 : decode cX12_counted 38 = .ok (.getfield 28, 3) := by decide +kernel
theorem dX12_counted_41 : decode cX12_counted 41 = .ok (.iconst 2, 1) := by decide +kernel
theorem dX12_counted_42 : decode cX12_counted 42 = .ok (.aload_n 0, 1) := by decide +kernel
theorem dX12_counted_43 : decode cX12_counted 43 = .ok (.getfield 156, 3) := by decide +kernel
theorem dX12_counted_46 : decode cX12_counted 46 = .ok (.imul, 1) := by decide +kernel
theorem dX12_counted_47 : decode cX12_counted 47 = .ok (.iload_n 1, 1) := by decide +kernel
theorem dX12_counted_48 : decode cX12_counted 48 = .ok (.iastore, 1) := by decide +kernel
theorem dX12_counted_49 : decode cX12_counted 49 = .ok (.aload_n 0, 1) := by decide +kernel
theorem dX12_counted_50 : decode cX12_counted 50 = .ok (.getfield 28, 3) := by decide +kernel
theorem dX12_counted_53 : decode cX12_counted 53 = .ok (.iconst 2, 1) := by decide +kernel
theorem dX12_counted_54 : decode cX12_counted 54 = .ok (.aload_n 0, 1) := by decide +kernel
theorem dX12_counted_55 : decode cX12_counted 55 = .ok (.getfield 156, 3) := by decide +kernel
theorem dX12_counted_58 : decode cX12_counted 58 = .ok (.imul, 1) := by decide +kernel
theorem dX12_counted_59 : decode cX12_counted 59 = .ok (.iconst 1, 1) := by decide +kernel
theorem dX12_counted_60 : decode cX12_counted 60 = .ok (.iadd, 1) := by decide +kernel
theorem dX12_counted_61 : decode cX12_counted 61 = .ok (.iload_n 2, 1) := by decide +kernel
theorem dX12_counted_62 : decode cX12_counted 62 = .ok (.iastore, 1) := by decide +kernel
theorem dX12_counted_63 : decode cX12_counted 63 = .ok (.aload_n 0, 1) := by decide +kernel
theorem dX12_counted_64 : decode cX12_counted 64 = .ok (.dup, 1) := by decide +kernel
theorem dX12_counted_65 : decode cX12_counted 65 = .ok (.getfield 156, 3) := by decide +kernel
theorem dX12_counted_68 : decode cX12_counted 68 = .ok (.iconst 1, 1) := by decide +kernel
theorem dX12_counted_69 : decode cX12_counted 69 = .ok (.iadd, 1) := by decide +kernel
theorem dX12_counted_70 : decode cX12_counted 70 = .ok (.putfield 156, 3) := by decide +kernel
theorem dX12_counted_73 : decode cX12_counted 73 = .ok (.aload_n 0, 1) := by decide +kernel
theorem dX12_counted_74 : decode cX12_counted 74 = .ok (.getfield 156, 3) := by decide +kernel
theorem dX12_counted_77 : decode cX12_counted 77 = .ok (.ireturn, 1) := by decide +kernel
theorem dX12_forget_0 : decode cX12_forget 0 = .ok (.aload_n 0, 1) := by decide +kernel
theorem dX12_forget_1 : decode cX12_forget 1 = .ok (.getfield 156, 3) := by decide +kernel
theorem dX12_forget_4 : decode cX12_forget 4 = .ok (.istore_n 1, 1) := by decide +kernel
theorem dX12_forget_5 : decode cX12_forget 5 = .ok (.aload_n 0, 1) := by decide +kernel
theorem dX12_forget_6 : decode cX12_forget 6 = .ok (.iconst 0, 1) := by decide +kernel
theorem dX12_forget_7 : decode cX12_forget 7 = .ok (.putfield 156, 3) := by decide +kernel
theorem dX12_forget_10 : decode cX12_forget 10 = .ok (.iload_n 1, 1) := by decide +kernel
theorem dX12_forget_11 : decode cX12_forget 11 = .ok (.ireturn, 1) := by decide +kernel
set_option maxRecDepth 20000 in
theorem ggX12_wantingOff_X12_has : GoodIn wsX12_wantingOff wsX12_has := goodIn_r _ [6] (by decide +kernel) (by decide +kernel)
set_option maxRecDepth 20000 in
theorem gX12_wantingOff_X12_has : GoodIn wsX12_wantingOff (va_wsS RX12 57 yX12_has wsX12_has) := goodIn_app (goodIn_of _ (by decide +kernel)) ggX12_wantingOff_X12_has
theorem dX12_wantingOff_0 : decode cX12_wantingOff 0 = .ok (.iconst 0, 1) := by decide +kernel
theorem dX12_wantingOff_1 : decode cX12_wantingOff 1 = .ok (.istore_n 3, 1) := by decide +kernel
theorem dX12_wantingOff_2 : decode cX12_wantingOff 2 = .ok (.iconst 0, 1) := by decide +kernel
theorem dX12_wantingOff_3 : decode cX12_wantingOff 3 = .ok (.istore 4, 2) := by decide +kernel
theorem dX12_wantingOff_5 : decode cX12_wantingOff 5 = .ok (.iload 4, 2) := by decide +kernel
theorem dX12_wantingOff_7 : decode cX12_wantingOff 7 = .ok (.bipush 6, 2) := by decide +kernel
theorem dX12_wantingOff_9 : decode cX12_wantingOff 9 = .ok (.if_icmp .ge 39, 3) := by decide +kernel
theorem dX12_wantingOff_12 : decode cX12_wantingOff 12 = .ok (.iload_n 3, 1) := by decide +kernel
theorem dX12_wantingOff_13 : decode cX12_wantingOff 13 = .ok (.iload_n 2, 1) := by decide +kernel
theorem dX12_wantingOff_14 : decode cX12_wantingOff 14 = .ok (.aload_n 0, 1) := by decide +kernel
theorem dX12_wantingOff_15 : decode cX12_wantingOff 15 = .ok (.getfield 25, 3) := by decide +kernel
theorem dX12_wantingOff_18 : decode cX12_wantingOff 18 = .ok (.iload_n 1, 1) := by decide +kernel
theorem dX12_wantingOff_19 : decode cX12_wantingOff 19 = .ok (.iaload, 1) := by decide +kernel
theorem dX12_wantingOff_20 : decode cX12_wantingOff 20 = .ok (.iand, 1) := by decide +kernel
theorem dX12_wantingOff_21 : decode cX12_wantingOff 21 = .ok (.iload 4, 2) := by decide +kernel
theorem dX12_wantingOff_23 : decode cX12_wantingOff 23 = .ok (.invokestatic 57, 3) := by decide +kernel
theorem dX12_wantingOff_26 : decode cX12_wantingOff 26 = .ok (.ifCond .eq 13, 3) := by decide +kernel
theorem dX12_wantingOff_29 : decode cX12_wantingOff 29 = .ok (.aload_n 0, 1) := by decide +kernel
theorem dX12_wantingOff_30 : decode cX12_wantingOff 30 = .ok (.getfield 7, 3) := by decide +kernel
theorem dX12_wantingOff_33 : decode cX12_wantingOff 33 = .ok (.iload 4, 2) := by decide +kernel
theorem dX12_wantingOff_35 : decode cX12_wantingOff 35 = .ok (.iaload, 1) := by decide +kernel
theorem dX12_wantingOff_36 : decode cX12_wantingOff 36 = .ok (.goto 4, 3) := by decide +kernel
theorem dX12_wantingOff_39 : decode cX12_wantingOff 39 = .ok (.iconst 0, 1) := by decide +kernel
theorem dX12_wantingOff_40 : decode cX12_wantingOff 40 = .ok (.iadd, 1) := by decide +kernel
theorem dX12_wantingOff_41 : decode cX12_wantingOff 41 = .ok (.istore_n 3, 1) := by decide +kernel
theorem dX12_wantingOff_42 : decode cX12_wantingOff 42 = .ok (.iinc 4 1, 3) := by decide +kernel
theorem dX12_wantingOff_45 : decode cX12_wantingOff 45 = .ok (.goto (-40), 3) := by decide +kernel
theorem dX12_wantingOff_48 : decode cX12_wantingOff 48 = .ok (.iload_n 3, 1) := by decide +kernel
theorem dX12_wantingOff_49 : decode cX12_wantingOff 49 = .ok (.ireturn, 1) := by decide +kernel
set_option maxRecDepth 20000 in
theorem ggX12_isFit_X12_wantingOff : GoodIn wsX12_isFit wsX12_wantingOff := goodIn_r _ [8, 9, 1, 10, 11, 7, 12, 13, 14, 15, 16, 17, 18, 19, 20, 21, 22, 23, 24, 25, 26, 27, 28, 29, 30, 31, 32, 33, 34] (by decide +kernel) (by decide +kernel)
set_option maxRecDepth 20000 in
theorem gX12_isFit_X12_wantingOff : GoodIn wsX12_isFit (wsV RX12 159 RX12 yX12_wantingOff wsX12_wantingOff) := goodIn_app (goodIn_of _ (by decide +kernel)) ggX12_isFit_X12_wantingOff
theorem dX12_isFit_0 : decode cX12_isFit 0 = .ok (.iload_n 1, 1) := by decide +kernel
theorem dX12_isFit_1 : decode cX12_isFit 1 = .ok (.aload_n 0, 1) := by decide +kernel
theorem dX12_isFit_2 : decode cX12_isFit 2 = .ok (.getfield 7, 3) := by decide +kernel
theorem dX12_isFit_5 : decode cX12_isFit 5 = .ok (.bipush 18, 2) := by decide +kernel
theorem dX12_isFit_7 : decode cX12_isFit 7 = .ok (.iaload, 1) := by decide +kernel
theorem dX12_isFit_8 : decode cX12_isFit 8 = .ok (.iconst (-1), 1) := by decide +kernel
theorem dX12_isFit_9 : decode cX12_isFit 9 = .ok (.ixor, 1) := by decide +kernel
theorem dX12_isFit_10 : decode cX12_isFit 10 = .ok (.iand, 1) := by decide +kernel
theorem dX12_isFit_11 : decode cX12_isFit 11 = .ok (.ifCond .ne 7, 3) := by decide +kernel
theorem dX12_isFit_14 : decode cX12_isFit 14 = .ok (.iconst 1, 1) := by decide +kernel
theorem dX12_isFit_15 : decode cX12_isFit 15 = .ok (.goto 4, 3) := by decide +kernel
theorem dX12_isFit_18 : decode cX12_isFit 18 = .ok (.iconst 0, 1) := by decide +kernel
theorem dX12_isFit_19 : decode cX12_isFit 19 = .ok (.istore_n 2, 1) := by decide +kernel
theorem dX12_isFit_20 : decode cX12_isFit 20 = .ok (.iconst 0, 1) := by decide +kernel
theorem dX12_isFit_21 : decode cX12_isFit 21 = .ok (.istore_n 3, 1) := by decide +kernel
theorem dX12_isFit_22 : decode cX12_isFit 22 = .ok (.iload_n 3, 1) := by decide +kernel
theorem dX12_isFit_23 : decode cX12_isFit 23 = .ok (.aload_n 0, 1) := by decide +kernel
theorem dX12_isFit_24 : decode cX12_isFit 24 = .ok (.getfield 156, 3) := by decide +kernel
theorem dX12_isFit_27 : decode cX12_isFit 27 = .ok (.if_icmp .ge 45, 3) := by decide +kernel
theorem dX12_isFit_30 : decode cX12_isFit 30 = .ok (.iload_n 2, 1) := by decide +kernel
theorem dX12_isFit_31 : decode cX12_isFit 31 = .ok (.ifCond .eq 41, 3) := by decide +kernel
theorem dX12_isFit_34 : decode cX12_isFit 34 = .ok (.aload_n 0, 1) := by decide +kernel
theorem dX12_isFit_35 : decode cX12_isFit 35 = .ok (.aload_n 0, 1) := by decide +kernel
theorem dX12_isFit_36 : decode cX12_isFit 36 = .ok (.getfield 28, 3) := by decide +kernel
theorem dX12_isFit_39 : decode cX12_isFit 39 = .ok (.iconst 2, 1) := by decide +kernel
theorem dX12_isFit_40 : decode cX12_isFit 40 = .ok (.iload_n 3, 1) := by decide +kernel
theorem dX12_isFit_41 : decode cX12_isFit 41 = .ok (.imul, 1) := by decide +kernel
theorem dX12_isFit_42 : decode cX12_isFit 42 = .ok (.iaload, 1) := by decide +kernel
theorem dX12_isFit_43 : decode cX12_isFit 43 = .ok (.iload_n 1, 1) := by decide +kernel
theorem dX12_isFit_44 : decode cX12_isFit 44 = .ok (.invokevirtual 159, 3) := by decide +kernel
theorem dX12_isFit_47 : decode cX12_isFit 47 = .ok (.aload_n 0, 1) := by decide +kernel
theorem dX12_isFit_48 : decode cX12_isFit 48 = .ok (.getfield 28, 3) := by decide +kernel
theorem dX12_isFit_51 : decode cX12_isFit 51 = .ok (.iconst 2, 1) := by decide +kernel
theorem dX12_isFit_52 : decode cX12_isFit 52 = .ok (.iload_n 3, 1) := by decide +kernel
theorem dX12_isFit_53 : decode cX12_isFit 53 = .ok (.imul, 1) := by decide +kernel
theorem dX12_isFit_54 : decode cX12_isFit 54 = .ok (.iconst 1, 1) := by decide +kernel
theorem dX12_isFit_55 : decode cX12_isFit 55 = .ok (.iadd, 1) := by decide +kernel
theorem dX12_isFit_56 : decode cX12_isFit 56 = .ok (.iaload, 1) := by decide +kernel
theorem dX12_isFit_57 : decode cX12_isFit 57 = .ok (.if_icmp .ne 7, 3) := by decide +kernel
theorem dX12_isFit_60 : decode cX12_isFit 60 = .ok (.iconst 1, 1) := by decide +kernel
theorem dX12_isFit_61 : decode cX12_isFit 61 = .ok (.goto 4, 3) := by decide +kernel
theorem dX12_isFit_64 : decode cX12_isFit 64 = .ok (.iconst 0, 1) := by decide +kernel
theorem dX12_isFit_65 : decode cX12_isFit 65 = .ok (.istore_n 2, 1) := by decide +kernel
theorem dX12_isFit_66 : decode cX12_isFit 66 = .ok (.iinc 3 1, 3) := by decide +kernel
theorem dX12_isFit_69 : decode cX12_isFit 69 = .ok (.goto (-47), 3) := by decide +kernel
theorem dX12_isFit_72 : decode cX12_isFit 72 = .ok (.iload_n 2, 1) := by decide +kernel
theorem dX12_isFit_73 : decode cX12_isFit 73 = .ok (.ireturn, 1) := by decide +kernel
set_option maxRecDepth 20000 in
theorem ggX12_went_X12_isFit : GoodIn wsX12_went wsX12_isFit := goodIn_r _ [5, 6, 7, 8, 9, 10, 11, 4, 12, 13, 14, 15, 16, 17, 18, 19, 20, 21, 22, 23, 24, 25, 26, 27, 28, 29, 30, 31, 32, 33, 34, 35, 36, 37, 38] (by decide +kernel) (by decide +kernel)
set_option maxRecDepth 20000 in
theorem gX12_went_X12_isFit : GoodIn wsX12_went (wsV RX12 162 RX12 yX12_isFit wsX12_isFit) := goodIn_app (goodIn_of _ (by decide +kernel)) ggX12_went_X12_isFit
theorem dX12_went_0 : decode cX12_went 0 = .ok (.iconst 0, 1) := by decide +kernel
theorem dX12_went_1 : decode cX12_went 1 = .ok (.istore_n 2, 1) := by decide +kernel
theorem dX12_went_2 : decode cX12_went 2 = .ok (.iconst 0, 1) := by decide +kernel
theorem dX12_went_3 : decode cX12_went 3 = .ok (.istore_n 3, 1) := by decide +kernel
theorem dX12_went_4 : decode cX12_went 4 = .ok (.iload_n 3, 1) := by decide +kernel
theorem dX12_went_5 : decode cX12_went 5 = .ok (.bipush 64, 2) := by decide +kernel
theorem dX12_went_7 : decode cX12_went 7 = .ok (.if_icmp .ge 27, 3) := by decide +kernel
theorem dX12_went_10 : decode cX12_went 10 = .ok (.aload_n 0, 1) := by decide +kernel
theorem dX12_went_11 : decode cX12_went 11 = .ok (.iload_n 3, 1) := by decide +kernel
theorem dX12_went_12 : decode cX12_went 12 = .ok (.invokevirtual 162, 3) := by decide +kernel
theorem dX12_went_15 : decode cX12_went 15 = .ok (.ifCond .eq 13, 3) := by decide +kernel
theorem dX12_went_18 : decode cX12_went 18 = .ok (.iload_n 2, 1) := by decide +kernel
theorem dX12_went_19 : decode cX12_went 19 = .ok (.iload_n 1, 1) := by decide +kernel
theorem dX12_went_20 : decode cX12_went 20 = .ok (.if_icmp .ne 5, 3) := by decide +kernel
theorem dX12_went_23 : decode cX12_went 23 = .ok (.iload_n 3, 1) := by decide +kernel
theorem dX12_went_24 : decode cX12_went 24 = .ok (.ireturn, 1) := by decide +kernel
theorem dX12_went_25 : decode cX12_went 25 = .ok (.iinc 2 1, 3) := by decide +kernel
theorem dX12_went_28 : decode cX12_went 28 = .ok (.iinc 3 1, 3) := by decide +kernel
theorem dX12_went_31 : decode cX12_went 31 = .ok (.goto (-27), 3) := by decide +kernel
theorem dX12_went_34 : decode cX12_went 34 = .ok (.iload_n 1, 1) := by decide +kernel
theorem dX12_went_35 : decode cX12_went 35 = .ok (.iconst (-1), 1) := by decide +kernel
theorem dX12_went_36 : decode cX12_went 36 = .ok (.if_icmp .ne 7, 3) := by decide +kernel
theorem dX12_went_39 : decode cX12_went 39 = .ok (.iload_n 2, 1) := by decide +kernel
theorem dX12_went_40 : decode cX12_went 40 = .ok (.goto 5, 3) := by decide +kernel
theorem dX12_went_43 : decode cX12_went 43 = .ok (.bipush (-6), 2) := by decide +kernel
theorem dX12_went_45 : decode cX12_went 45 = .ok (.ireturn, 1) := by decide +kernel
set_option maxRecDepth 20000 in
theorem ggX12_ask_X12_in : GoodIn wsX12_ask wsX12_in := goodIn_r _ [5] (by decide +kernel) (by decide +kernel)
set_option maxRecDepth 20000 in
theorem gX12_ask_X12_in : GoodIn wsX12_ask (va_wsS RX12 53 yX12_in wsX12_in) := goodIn_app (goodIn_of _ (by decide +kernel)) ggX12_ask_X12_in
set_option maxRecDepth 20000 in
theorem ggX12_ask_X12_isFit : GoodIn wsX12_ask wsX12_isFit := goodIn_r _ [9, 10, 11, 12, 13, 14, 15, 4, 16, 17, 18, 19, 20, 21, 22, 23, 24, 25, 26, 27, 28, 29, 30, 31, 32, 33, 34, 35, 36, 37, 38, 39, 40, 41, 42] (by decide +kernel) (by decide +kernel)
set_option maxRecDepth 20000 in
theorem gX12_ask_X12_isFit : GoodIn wsX12_ask (wsV RX12 162 RX12 yX12_isFit wsX12_isFit) := goodIn_app (goodIn_of _ (by decide +kernel)) ggX12_ask_X12_isFit
set_option maxRecDepth 20000 in
theorem ggX12_ask_X12_wantingOff : GoodIn wsX12_ask wsX12_wantingOff := goodIn_r _ [16, 17, 10, 18, 19, 4, 20, 21, 22, 23, 24, 25, 26, 27, 28, 29, 30, 31, 32, 33, 34, 35, 36, 37, 38, 39, 40, 41, 42] (by decide +kernel) (by decide +kernel)
set_option maxRecDepth 20000 in
theorem gX12_ask_X12_wantingOff : GoodIn wsX12_ask (wsV RX12 159 RX12 yX12_wantingOff wsX12_wantingOff) := goodIn_app (goodIn_of _ (by decide +kernel)) ggX12_ask_X12_wantingOff
theorem dX12_ask_0 : decode cX12_ask 0 = .ok (.iload_n 1, 1) := by decide +kernel
theorem dX12_ask_1 : decode cX12_ask 1 = .ok (.iconst 0, 1) := by decide +kernel
theorem dX12_ask_2 : decode cX12_ask 2 = .ok (.iconst 1, 1) := by decide +kernel
theorem dX12_ask_3 : decode cX12_ask 3 = .ok (.invokestatic 53, 3) := by decide +kernel
theorem dX12_ask_6 : decode cX12_ask 6 = .ok (.ifCond .ne 6, 3) := by decide +kernel
theorem dX12_ask_9 : decode cX12_ask 9 = .ok (.bipush (-2), 2) := by decide +kernel
theorem dX12_ask_11 : decode cX12_ask 11 = .ok (.ireturn, 1) := by decide +kernel
theorem dX12_ask_12 : decode cX12_ask 12 = .ok (.bipush (-6), 2) := by decide +kernel
theorem dX12_ask_14 : decode cX12_ask 14 = .ok (.istore_n 2, 1) := by decide +kernel
theorem dX12_ask_15 : decode cX12_ask 15 = .ok (.ldc 165, 2) := by decide +kernel
theorem dX12_ask_17 : decode cX12_ask 17 = .ok (.istore_n 3, 1) := by decide +kernel
theorem dX12_ask_18 : decode cX12_ask 18 = .ok (.iconst 0, 1) := by decide +kernel
theorem dX12_ask_19 : decode cX12_ask 19 = .ok (.istore 4, 2) := by decide +kernel
theorem dX12_ask_21 : decode cX12_ask 21 = .ok (.iload 4, 2) := by decide +kernel
theorem dX12_ask_23 : decode cX12_ask 23 = .ok (.bipush 6, 2) := by decide +kernel
theorem dX12_ask_25 : decode cX12_ask 25 = .ok (.if_icmp .ge 152, 3) := by decide +kernel
theorem dX12_ask_28 : decode cX12_ask 28 = .ok (.iconst 0, 1) := by decide +kernel
theorem dX12_ask_29 : decode cX12_ask 29 = .ok (.istore 5, 2) := by decide +kernel
theorem dX12_ask_31 : decode cX12_ask 31 = .ok (.iconst 0, 1) := by decide +kernel
theorem dX12_ask_32 : decode cX12_ask 32 = .ok (.istore 6, 2) := by decide +kernel
theorem dX12_ask_34 : decode cX12_ask 34 = .ok (.iload 6, 2) := by decide +kernel
theorem dX12_ask_36 : decode cX12_ask 36 = .ok (.bipush 64, 2) := by decide +kernel
theorem dX12_ask_38 : decode cX12_ask 38 = .ok (.if_icmp .ge 91, 3) := by decide +kernel
theorem dX12_ask_41 : decode cX12_ask 41 = .ok (.iconst 0, 1) := by decide +kernel
theorem dX12_ask_42 : decode cX12_ask 42 = .ok (.istore 7, 2) := by decide +kernel
theorem dX12_ask_44 : decode cX12_ask 44 = .ok (.iconst 0, 1) := by decide +kernel
theorem dX12_ask_45 : decode cX12_ask 45 = .ok (.istore 8, 2) := by decide +kernel
theorem dX12_ask_47 : decode cX12_ask 47 = .ok (.iload 8, 2) := by decide +kernel
theorem dX12_ask_49 : decode cX12_ask 49 = .ok (.bipush 64, 2) := by decide +kernel
theorem dX12_ask_51 : decode cX12_ask 51 = .ok (.if_icmp .ge 56, 3) := by decide +kernel
theorem dX12_ask_54 : decode cX12_ask 54 = .ok (.aload_n 0, 1) := by decide +kernel
theorem dX12_ask_55 : decode cX12_ask 55 = .ok (.iload 6, 2) := by decide +kernel
theorem dX12_ask_57 : decode cX12_ask 57 = .ok (.invokevirtual 162, 3) := by decide +kernel
theorem dX12_ask_60 : decode cX12_ask 60 = .ok (.ifCond .eq 47, 3) := by decide +kernel
theorem dX12_ask_63 : decode cX12_ask 63 = .ok (.iload 7, 2) := by decide +kernel
theorem dX12_ask_65 : decode cX12_ask 65 = .ok (.aload_n 0, 1) := by decide +kernel
theorem dX12_ask_66 : decode cX12_ask 66 = .ok (.iload 8, 2) := by decide +kernel
theorem dX12_ask_68 : decode cX12_ask 68 = .ok (.invokevirtual 162, 3) := by decide +kernel
theorem dX12_ask_71 : decode cX12_ask 71 = .ok (.ifCond .eq 26, 3) := by decide +kernel
theorem dX12_ask_74 : decode cX12_ask 74 = .ok (.aload_n 0, 1) := by decide +kernel
theorem dX12_ask_75 : decode cX12_ask 75 = .ok (.iload 4, 2) := by decide +kernel
theorem dX12_ask_77 : decode cX12_ask 77 = .ok (.iload 8, 2) := by decide +kernel
theorem dX12_ask_79 : decode cX12_ask 79 = .ok (.invokevirtual 159, 3) := by decide +kernel
theorem dX12_ask_82 : decode cX12_ask 82 = .ok (.aload_n 0, 1) := by decide +kernel
theorem dX12_ask_83 : decode cX12_ask 83 = .ok (.iload 4, 2) := by decide +kernel
theorem dX12_ask_85 : decode cX12_ask 85 = .ok (.iload 6, 2) := by decide +kernel
theorem dX12_ask_87 : decode cX12_ask 87 = .ok (.invokevirtual 159, 3) := by decide +kernel
theorem dX12_ask_90 : decode cX12_ask 90 = .ok (.if_icmp .ne 7, 3) := by decide +kernel
theorem dX12_ask_93 : decode cX12_ask 93 = .ok (.iconst 1, 1) := by decide +kernel
theorem dX12_ask_94 : decode cX12_ask 94 = .ok (.goto 4, 3) := by decide +kernel
theorem dX12_ask_97 : decode cX12_ask 97 = .ok (.iconst 0, 1) := by decide +kernel
theorem dX12_ask_98 : decode cX12_ask 98 = .ok (.iadd, 1) := by decide +kernel
theorem dX12_ask_99 : decode cX12_ask 99 = .ok (.istore 7, 2) := by decide +kernel
theorem dX12_ask_101 : decode cX12_ask 101 = .ok (.iinc 8 1, 3) := by decide +kernel
theorem dX12_ask_104 : decode cX12_ask 104 = .ok (.goto (-57), 3) := by decide +kernel
theorem dX12_ask_107 : decode cX12_ask 107 = .ok (.iload 7, 2) := by decide +kernel
theorem dX12_ask_109 : decode cX12_ask 109 = .ok (.iload 5, 2) := by decide +kernel
theorem dX12_ask_111 : decode cX12_ask 111 = .ok (.if_icmp .le 8, 3) := by decide +kernel
theorem dX12_ask_114 : decode cX12_ask 114 = .ok (.iload 7, 2) := by decide +kernel
theorem dX12_ask_116 : decode cX12_ask 116 = .ok (.goto 5, 3) := by decide +kernel
theorem dX12_ask_119 : decode cX12_ask 119 = .ok (.iload 5, 2) := by decide +kernel
theorem dX12_ask_121 : decode cX12_ask 121 = .ok (.istore 5, 2) := by decide +kernel
theorem dX12_ask_123 : decode cX12_ask 123 = .ok (.iinc 6 1, 3) := by decide +kernel
theorem dX12_ask_126 : decode cX12_ask 126 = .ok (.goto (-92), 3) := by decide +kernel
theorem dX12_ask_129 : decode cX12_ask 129 = .ok (.iload 5, 2) := by decide +kernel
theorem dX12_ask_131 : decode cX12_ask 131 = .ok (.ifCond .le 13, 3) := by decide +kernel
theorem dX12_ask_134 : decode cX12_ask 134 = .ok (.iload 5, 2) := by decide +kernel
theorem dX12_ask_136 : decode cX12_ask 136 = .ok (.iload_n 3, 1) := by decide +kernel
theorem dX12_ask_137 : decode cX12_ask 137 = .ok (.if_icmp .ge 7, 3) := by decide +kernel
theorem dX12_ask_140 : decode cX12_ask 140 = .ok (.iconst 1, 1) := by decide +kernel
theorem dX12_ask_141 : decode cX12_ask 141 = .ok (.goto 4, 3) := by decide +kernel
theorem dX12_ask_144 : decode cX12_ask 144 = .ok (.iconst 0, 1) := by decide +kernel
theorem dX12_ask_145 : decode cX12_ask 145 = .ok (.istore 6, 2) := by decide +kernel
theorem dX12_ask_147 : decode cX12_ask 147 = .ok (.iload 6, 2) := by decide +kernel
theorem dX12_ask_149 : decode cX12_ask 149 = .ok (.ifCond .eq 8, 3) := by decide +kernel
theorem dX12_ask_152 : decode cX12_ask 152 = .ok (.iload 4, 2) := by decide +kernel
theorem dX12_ask_154 : decode cX12_ask 154 = .ok (.goto 4, 3) := by decide +kernel
theorem dX12_ask_157 : decode cX12_ask 157 = .ok (.iload_n 2, 1) := by decide +kernel
theorem dX12_ask_158 : decode cX12_ask 158 = .ok (.istore_n 2, 1) := by decide +kernel
theorem dX12_ask_159 : decode cX12_ask 159 = .ok (.iload 6, 2) := by decide +kernel
theorem dX12_ask_161 : decode cX12_ask 161 = .ok (.ifCond .eq 8, 3) := by decide +kernel
theorem dX12_ask_164 : decode cX12_ask 164 = .ok (.iload 5, 2) := by decide +kernel
theorem dX12_ask_166 : decode cX12_ask 166 = .ok (.goto 4, 3) := by decide +kernel
theorem dX12_ask_169 : decode cX12_ask 169 = .ok (.iload_n 3, 1) := by decide +kernel
theorem dX12_ask_170 : decode cX12_ask 170 = .ok (.istore_n 3, 1) := by decide +kernel
theorem dX12_ask_171 : decode cX12_ask 171 = .ok (.iinc 4 1, 3) := by decide +kernel
theorem dX12_ask_174 : decode cX12_ask 174 = .ok (.goto (-153), 3) := by decide +kernel
theorem dX12_ask_177 : decode cX12_ask 177 = .ok (.iload_n 2, 1) := by decide +kernel
theorem dX12_ask_178 : decode cX12_ask 178 = .ok (.ifCond .lt 7, 3) := by decide +kernel
theorem dX12_ask_181 : decode cX12_ask 181 = .ok (.iload_n 1, 1) := by decide +kernel
theorem dX12_ask_182 : decode cX12_ask 182 = .ok (.ifCond .ne 7, 3) := by decide +kernel
theorem dX12_ask_185 : decode cX12_ask 185 = .ok (.iload_n 2, 1) := by decide +kernel
theorem dX12_ask_186 : decode cX12_ask 186 = .ok (.goto 4, 3) := by decide +kernel
theorem dX12_ask_189 : decode cX12_ask 189 = .ok (.iload_n 3, 1) := by decide +kernel
theorem dX12_ask_190 : decode cX12_ask 190 = .ok (.ireturn, 1) := by decide +kernel
set_option maxRecDepth 20000 in
theorem ggX12_turning_X12_in : GoodIn wsX12_turning wsX12_in := goodIn_r _ [6] (by decide +kernel) (by decide +kernel)
set_option maxRecDepth 20000 in
theorem gX12_turning_X12_in : GoodIn wsX12_turning (va_wsS RX12 53 yX12_in wsX12_in) := goodIn_app (goodIn_of _ (by decide +kernel)) ggX12_turning_X12_in
set_option maxRecDepth 20000 in
theorem ggX12_turning_X12_has : GoodIn wsX12_turning wsX12_has := goodIn_r _ [9] (by decide +kernel) (by decide +kernel)
set_option maxRecDepth 20000 in
theorem gX12_turning_X12_has : GoodIn wsX12_turning (va_wsS RX12 57 yX12_has wsX12_has) := goodIn_app (goodIn_of _ (by decide +kernel)) ggX12_turning_X12_has
theorem dX12_turning_0 : decode cX12_turning 0 = .ok (.iload_n 1, 1) := by decide +kernel
theorem dX12_turning_1 : decode cX12_turning 1 = .ok (.iconst 0, 1) := by decide +kernel
theorem dX12_turning_2 : decode cX12_turning 2 = .ok (.bipush 30, 2) := by decide +kernel
theorem dX12_turning_4 : decode cX12_turning 4 = .ok (.invokestatic 53, 3) := by decide +kernel
theorem dX12_turning_7 : decode cX12_turning 7 = .ok (.ifCond .eq 12, 3) := by decide +kernel
theorem dX12_turning_10 : decode cX12_turning 10 = .ok (.iload_n 2, 1) := by decide +kernel
theorem dX12_turning_11 : decode cX12_turning 11 = .ok (.iconst 0, 1) := by decide +kernel
theorem dX12_turning_12 : decode cX12_turning 12 = .ok (.iconst 1, 1) := by decide +kernel
theorem dX12_turning_13 : decode cX12_turning 13 = .ok (.invokestatic 53, 3) := by decide +kernel
theorem dX12_turning_16 : decode cX12_turning 16 = .ok (.ifCond .ne 6, 3) := by decide +kernel
theorem dX12_turning_19 : decode cX12_turning 19 = .ok (.bipush (-2), 2) := by decide +kernel
theorem dX12_turning_21 : decode cX12_turning 21 = .ok (.ireturn, 1) := by decide +kernel
theorem dX12_turning_22 : decode cX12_turning 22 = .ok (.bipush (-6), 2) := by decide +kernel
theorem dX12_turning_24 : decode cX12_turning 24 = .ok (.istore_n 3, 1) := by decide +kernel
theorem dX12_turning_25 : decode cX12_turning 25 = .ok (.sipush 1023, 3) := by decide +kernel
theorem dX12_turning_28 : decode cX12_turning 28 = .ok (.istore 4, 2) := by decide +kernel
theorem dX12_turning_30 : decode cX12_turning 30 = .ok (.iload 4, 2) := by decide +kernel
theorem dX12_turning_32 : decode cX12_turning 32 = .ok (.ifCond .lt 132, 3) := by decide +kernel
theorem dX12_turning_35 : decode cX12_turning 35 = .ok (.iload_n 1, 1) := by decide +kernel
theorem dX12_turning_36 : decode cX12_turning 36 = .ok (.istore 5, 2) := by decide +kernel
theorem dX12_turning_38 : decode cX12_turning 38 = .ok (.iconst 0, 1) := by decide +kernel
theorem dX12_turning_39 : decode cX12_turning 39 = .ok (.istore 6, 2) := by decide +kernel
theorem dX12_turning_41 : decode cX12_turning 41 = .ok (.iload 6, 2) := by decide +kernel
theorem dX12_turning_43 : decode cX12_turning 43 = .ok (.bipush 10, 2) := by decide +kernel
theorem dX12_turning_45 : decode cX12_turning 45 = .ok (.if_icmp .ge 35, 3) := by decide +kernel
theorem dX12_turning_48 : decode cX12_turning 48 = .ok (.iload 5, 2) := by decide +kernel
theorem dX12_turning_50 : decode cX12_turning 50 = .ok (.iload 4, 2) := by decide +kernel
theorem dX12_turning_52 : decode cX12_turning 52 = .ok (.iload 6, 2) := by decide +kernel
theorem dX12_turning_54 : decode cX12_turning 54 = .ok (.invokestatic 57, 3) := by decide +kernel
theorem dX12_turning_57 : decode cX12_turning 57 = .ok (.ifCond .eq 13, 3) := by decide +kernel
theorem dX12_turning_60 : decode cX12_turning 60 = .ok (.aload_n 0, 1) := by decide +kernel
theorem dX12_turning_61 : decode cX12_turning 61 = .ok (.getfield 19, 3) := by decide +kernel
theorem dX12_turning_64 : decode cX12_turning 64 = .ok (.iload 6, 2) := by decide +kernel
theorem dX12_turning_66 : decode cX12_turning 66 = .ok (.iaload, 1) := by decide +kernel
theorem dX12_turning_67 : decode cX12_turning 67 = .ok (.goto 4, 3) := by decide +kernel
theorem dX12_turning_70 : decode cX12_turning 70 = .ok (.iconst 0, 1) := by decide +kernel
theorem dX12_turning_71 : decode cX12_turning 71 = .ok (.isub, 1) := by decide +kernel
theorem dX12_turning_72 : decode cX12_turning 72 = .ok (.istore 5, 2) := by decide +kernel
theorem dX12_turning_74 : decode cX12_turning 74 = .ok (.iinc 6 1, 3) := by decide +kernel
theorem dX12_turning_77 : decode cX12_turning 77 = .ok (.goto (-36), 3) := by decide +kernel
theorem dX12_turning_80 : decode cX12_turning 80 = .ok (.bipush (-6), 2) := by decide +kernel
theorem dX12_turning_82 : decode cX12_turning 82 = .ok (.istore_n 3, 1) := by decide +kernel
theorem dX12_turning_83 : decode cX12_turning 83 = .ok (.bipush 9, 2) := by decide +kernel
theorem dX12_turning_85 : decode cX12_turning 85 = .ok (.istore 6, 2) := by decide +kernel
theorem dX12_turning_87 : decode cX12_turning 87 = .ok (.iload 6, 2) := by decide +kernel
theorem dX12_turning_89 : decode cX12_turning 89 = .ok (.ifCond .lt 53, 3) := by decide +kernel
theorem dX12_turning_92 : decode cX12_turning 92 = .ok (.iload 4, 2) := by decide +kernel
theorem dX12_turning_94 : decode cX12_turning 94 = .ok (.iload 6, 2) := by decide +kernel
theorem dX12_turning_96 : decode cX12_turning 96 = .ok (.invokestatic 57, 3) := by decide +kernel
theorem dX12_turning_99 : decode cX12_turning 99 = .ok (.ifCond .ne 35, 3) := by decide +kernel
theorem dX12_turning_102 : decode cX12_turning 102 = .ok (.aload_n 0, 1) := by decide +kernel
theorem dX12_turning_103 : decode cX12_turning 103 = .ok (.getfield 19, 3) := by decide +kernel
theorem dX12_turning_106 : decode cX12_turning 106 = .ok (.iload 6, 2) := by decide +kernel
theorem dX12_turning_108 : decode cX12_turning 108 = .ok (.iaload, 1) := by decide +kernel
theorem dX12_turning_109 : decode cX12_turning 109 = .ok (.iload 5, 2) := by decide +kernel
theorem dX12_turning_111 : decode cX12_turning 111 = .ok (.if_icmp .gt 23, 3) := by decide +kernel
theorem dX12_turning_114 : decode cX12_turning 114 = .ok (.aload_n 0, 1) := by decide +kernel
theorem dX12_turning_115 : decode cX12_turning 115 = .ok (.getfield 43, 3) := by decide +kernel
theorem dX12_turning_118 : decode cX12_turning 118 = .ok (.iload 4, 2) := by decide +kernel
theorem dX12_turning_120 : decode cX12_turning 120 = .ok (.iconst 1, 1) := by decide +kernel
theorem dX12_turning_121 : decode cX12_turning 121 = .ok (.iload 6, 2) := by decide +kernel
theorem dX12_turning_123 : decode cX12_turning 123 = .ok (.ishl, 1) := by decide +kernel
theorem dX12_turning_124 : decode cX12_turning 124 = .ok (.ior, 1) := by decide +kernel
theorem dX12_turning_125 : decode cX12_turning 125 = .ok (.iaload, 1) := by decide +kernel
theorem dX12_turning_126 : decode cX12_turning 126 = .ok (.ifCond .ne 8, 3) := by decide +kernel
theorem dX12_turning_129 : decode cX12_turning 129 = .ok (.iload 6, 2) := by decide +kernel
theorem dX12_turning_131 : decode cX12_turning 131 = .ok (.goto 4, 3) := by decide +kernel
theorem dX12_turning_134 : decode cX12_turning 134 = .ok (.iload_n 3, 1) := by decide +kernel
theorem dX12_turning_135 : decode cX12_turning 135 = .ok (.istore_n 3, 1) := by decide +kernel
theorem dX12_turning_136 : decode cX12_turning 136 = .ok (.iinc 6 (-1), 3) := by decide +kernel
theorem dX12_turning_139 : decode cX12_turning 139 = .ok (.goto (-52), 3) := by decide +kernel
theorem dX12_turning_142 : decode cX12_turning 142 = .ok (.aload_n 0, 1) := by decide +kernel
theorem dX12_turning_143 : decode cX12_turning 143 = .ok (.getfield 43, 3) := by decide +kernel
theorem dX12_turning_146 : decode cX12_turning 146 = .ok (.iload 4, 2) := by decide +kernel
theorem dX12_turning_148 : decode cX12_turning 148 = .ok (.iload_n 3, 1) := by decide +kernel
theorem dX12_turning_149 : decode cX12_turning 149 = .ok (.ifCond .ge 7, 3) := by decide +kernel
theorem dX12_turning_152 : decode cX12_turning 152 = .ok (.iconst 0, 1) := by decide +kernel
theorem dX12_turning_153 : decode cX12_turning 153 = .ok (.goto 4, 3) := by decide +kernel
theorem dX12_turning_156 : decode cX12_turning 156 = .ok (.iconst 1, 1) := by decide +kernel
theorem dX12_turning_157 : decode cX12_turning 157 = .ok (.iastore, 1) := by decide +kernel
theorem dX12_turning_158 : decode cX12_turning 158 = .ok (.iinc 4 (-1), 3) := by decide +kernel
theorem dX12_turning_161 : decode cX12_turning 161 = .ok (.goto (-131), 3) := by decide +kernel
theorem dX12_turning_164 : decode cX12_turning 164 = .ok (.iload_n 2, 1) := by decide +kernel
theorem dX12_turning_165 : decode cX12_turning 165 = .ok (.iconst 1, 1) := by decide +kernel
theorem dX12_turning_166 : decode cX12_turning 166 = .ok (.if_icmp .ne 7, 3) := by decide +kernel
theorem dX12_turning_169 : decode cX12_turning 169 = .ok (.iload_n 3, 1) := by decide +kernel
theorem dX12_turning_170 : decode cX12_turning 170 = .ok (.goto 9, 3) := by decide +kernel
theorem dX12_turning_173 : decode cX12_turning 173 = .ok (.aload_n 0, 1) := by decide +kernel
theorem dX12_turning_174 : decode cX12_turning 174 = .ok (.getfield 43, 3) := by decide +kernel
theorem dX12_turning_177 : decode cX12_turning 177 = .ok (.iconst 0, 1) := by decide +kernel
theorem dX12_turning_178 : decode cX12_turning 178 = .ok (.iaload, 1) := by decide +kernel
theorem dX12_turning_179 : decode cX12_turning 179 = .ok (.ireturn, 1) := by decide +kernel
set_option maxRecDepth 20000 in
theorem ggX12_drift_X12_in : GoodIn wsX12_drift wsX12_in := goodIn_r _ [6] (by decide +kernel) (by decide +kernel)
set_option maxRecDepth 20000 in
theorem gX12_drift_X12_in : GoodIn wsX12_drift (va_wsS RX12 53 yX12_in wsX12_in) := goodIn_app (goodIn_of _ (by decide +kernel)) ggX12_drift_X12_in
set_option maxRecDepth 20000 in
theorem ggX12_drift_X12_lowest : GoodIn wsX12_drift wsX12_lowest := goodIn_r _ [9] (by decide +kernel) (by decide +kernel)
set_option maxRecDepth 20000 in
theorem gX12_drift_X12_lowest : GoodIn wsX12_drift (va_wsS RX12 152 yX12_lowest wsX12_lowest) := goodIn_app (goodIn_of _ (by decide +kernel)) ggX12_drift_X12_lowest
theorem dX12_drift_0 : decode cX12_drift 0 = .ok (.iload_n 1, 1) := by decide +kernel
theorem dX12_drift_1 : decode cX12_drift 1 = .ok (.iconst 0, 1) := by decide +kernel
theorem dX12_drift_2 : decode cX12_drift 2 = .ok (.iconst 1, 1) := by decide +kernel
theorem dX12_drift_3 : decode cX12_drift 3 = .ok (.invokestatic 53, 3) := by decide +kernel
theorem dX12_drift_6 : decode cX12_drift 6 = .ok (.ifCond .eq 64, 3) := by decide +kernel
theorem dX12_drift_9 : decode cX12_drift 9 = .ok (.iload_n 2, 1) := by decide +kernel
theorem dX12_drift_10 : decode cX12_drift 10 = .ok (.iconst 0, 1) := by decide +kernel
theorem dX12_drift_11 : decode cX12_drift 11 = .ok (.bipush 10, 2) := by decide +kernel
theorem dX12_drift_13 : decode cX12_drift 13 = .ok (.invokestatic 53, 3) := by decide +kernel
theorem dX12_drift_16 : decode cX12_drift 16 = .ok (.ifCond .eq 54, 3) := by decide +kernel
theorem dX12_drift_19 : decode cX12_drift 19 = .ok (.iload_n 3, 1) := by decide +kernel
theorem dX12_drift_20 : decode cX12_drift 20 = .ok (.iconst 0, 1) := by decide +kernel
theorem dX12_drift_21 : decode cX12_drift 21 = .ok (.bipush 10, 2) := by decide +kernel
theorem dX12_drift_23 : decode cX12_drift 23 = .ok (.invokestatic 53, 3) := by decide +kernel
theorem dX12_drift_26 : decode cX12_drift 26 = .ok (.ifCond .eq 44, 3) := by decide +kernel
theorem dX12_drift_29 : decode cX12_drift 29 = .ok (.iload 5, 2) := by decide +kernel
theorem dX12_drift_31 : decode cX12_drift 31 = .ok (.iconst 0, 1) := by decide +kernel
theorem dX12_drift_32 : decode cX12_drift 32 = .ok (.iconst 1, 1) := by decide +kernel
theorem dX12_drift_33 : decode cX12_drift 33 = .ok (.invokestatic 53, 3) := by decide +kernel
theorem dX12_drift_36 : decode cX12_drift 36 = .ok (.ifCond .eq 34, 3) := by decide +kernel
theorem dX12_drift_39 : decode cX12_drift 39 = .ok (.iload 4, 2) := by decide +kernel
theorem dX12_drift_41 : decode cX12_drift 41 = .ok (.iconst 0, 1) := by decide +kernel
theorem dX12_drift_42 : decode cX12_drift 42 = .ok (.iload 5, 2) := by decide +kernel
theorem dX12_drift_44 : decode cX12_drift 44 = .ok (.ifCond .ne 8, 3) := by decide +kernel
theorem dX12_drift_47 : decode cX12_drift 47 = .ok (.bipush 17, 2) := by decide +kernel
theorem dX12_drift_49 : decode cX12_drift 49 = .ok (.goto 5, 3) := by decide +kernel
theorem dX12_drift_52 : decode cX12_drift 52 = .ok (.bipush 16, 2) := by decide +kernel
theorem dX12_drift_54 : decode cX12_drift 54 = .ok (.invokestatic 53, 3) := by decide +kernel
theorem dX12_drift_57 : decode cX12_drift 57 = .ok (.ifCond .eq 13, 3) := by decide +kernel
theorem dX12_drift_60 : decode cX12_drift 60 = .ok (.iload 6, 2) := by decide +kernel
theorem dX12_drift_62 : decode cX12_drift 62 = .ok (.iconst 0, 1) := by decide +kernel
theorem dX12_drift_63 : decode cX12_drift 63 = .ok (.iconst 1, 1) := by decide +kernel
theorem dX12_drift_64 : decode cX12_drift 64 = .ok (.invokestatic 53, 3) := by decide +kernel
theorem dX12_drift_67 : decode cX12_drift 67 = .ok (.ifCond .ne 7, 3) := by decide +kernel
theorem dX12_drift_70 : decode cX12_drift 70 = .ok (.ldc2_w 147, 3) := by decide +kernel
theorem dX12_drift_73 : decode cX12_drift 73 = .ok (.lreturn, 1) := by decide +kernel
theorem dX12_drift_74 : decode cX12_drift 74 = .ok (.lconst 1, 1) := by decide +kernel
theorem dX12_drift_75 : decode cX12_drift 75 = .ok (.lstore 7, 2) := by decide +kernel
theorem dX12_drift_77 : decode cX12_drift 77 = .ok (.iload_n 1, 1) := by decide +kernel
theorem dX12_drift_78 : decode cX12_drift 78 = .ok (.i2l, 1) := by decide +kernel
theorem dX12_drift_79 : decode cX12_drift 79 = .ok (.lstore 9, 2) := by decide +kernel
theorem dX12_drift_81 : decode cX12_drift 81 = .ok (.lconst 0, 1) := by decide +kernel
theorem dX12_drift_82 : decode cX12_drift 82 = .ok (.lstore 11, 2) := by decide +kernel
theorem dX12_drift_84 : decode cX12_drift 84 = .ok (.iconst 0, 1) := by decide +kernel
theorem dX12_drift_85 : decode cX12_drift 85 = .ok (.istore 13, 2) := by decide +kernel
theorem dX12_drift_87 : decode cX12_drift 87 = .ok (.iload 13, 2) := by decide +kernel
theorem dX12_drift_89 : decode cX12_drift 89 = .ok (.iload 4, 2) := by decide +kernel
theorem dX12_drift_91 : decode cX12_drift 91 = .ok (.if_icmp .ge 47, 3) := by decide +kernel
theorem dX12_drift_94 : decode cX12_drift 94 = .ok (.lload 7, 2) := by decide +kernel
theorem dX12_drift_96 : decode cX12_drift 96 = .ok (.lload 9, 2) := by decide +kernel
theorem dX12_drift_98 : decode cX12_drift 98 = .ok (.lsub, 1) := by decide +kernel
theorem dX12_drift_99 : decode cX12_drift 99 = .ok (.iload_n 2, 1) := by decide +kernel
theorem dX12_drift_100 : decode cX12_drift 100 = .ok (.i2l, 1) := by decide +kernel
theorem dX12_drift_101 : decode cX12_drift 101 = .ok (.lmul, 1) := by decide +kernel
theorem dX12_drift_102 : decode cX12_drift 102 = .ok (.lload 9, 2) := by decide +kernel
theorem dX12_drift_104 : decode cX12_drift 104 = .ok (.bipush 10, 2) := by decide +kernel
theorem dX12_drift_106 : decode cX12_drift 106 = .ok (.iload_n 3, 1) := by decide +kernel
theorem dX12_drift_107 : decode cX12_drift 107 = .ok (.isub, 1) := by decide +kernel
theorem dX12_drift_108 : decode cX12_drift 108 = .ok (.i2l, 1) := by decide +kernel
theorem dX12_drift_109 : decode cX12_drift 109 = .ok (.lmul, 1) := by decide +kernel
theorem dX12_drift_110 : decode cX12_drift 110 = .ok (.ladd, 1) := by decide +kernel
theorem dX12_drift_111 : decode cX12_drift 111 = .ok (.lstore 9, 2) := by decide +kernel
theorem dX12_drift_113 : decode cX12_drift 113 = .ok (.lload 7, 2) := by decide +kernel
theorem dX12_drift_115 : decode cX12_drift 115 = .ok (.ldc2_w 166, 3) := by decide +kernel
theorem dX12_drift_118 : decode cX12_drift 118 = .ok (.lmul, 1) := by decide +kernel
theorem dX12_drift_119 : decode cX12_drift 119 = .ok (.lstore 7, 2) := by decide +kernel
theorem dX12_drift_121 : decode cX12_drift 121 = .ok (.ldc2_w 166, 3) := by decide +kernel
theorem dX12_drift_124 : decode cX12_drift 124 = .ok (.lload 11, 2) := by decide +kernel
theorem dX12_drift_126 : decode cX12_drift 126 = .ok (.lmul, 1) := by decide +kernel
theorem dX12_drift_127 : decode cX12_drift 127 = .ok (.lload 9, 2) := by decide +kernel
theorem dX12_drift_129 : decode cX12_drift 129 = .ok (.ladd, 1) := by decide +kernel
theorem dX12_drift_130 : decode cX12_drift 130 = .ok (.lstore 11, 2) := by decide +kernel
theorem dX12_drift_132 : decode cX12_drift 132 = .ok (.iinc 13 1, 3) := by decide +kernel
theorem dX12_drift_135 : decode cX12_drift 135 = .ok (.goto (-48), 3) := by decide +kernel
theorem dX12_drift_138 : decode cX12_drift 138 = .ok (.iload 5, 2) := by decide +kernel
theorem dX12_drift_140 : decode cX12_drift 140 = .ok (.ifCond .ne 8, 3) := by decide +kernel
theorem dX12_drift_143 : decode cX12_drift 143 = .ok (.lload 9, 2) := by decide +kernel
theorem dX12_drift_145 : decode cX12_drift 145 = .ok (.goto 5, 3) := by decide +kernel
theorem dX12_drift_148 : decode cX12_drift 148 = .ok (.lload 11, 2) := by decide +kernel
theorem dX12_drift_150 : decode cX12_drift 150 = .ok (.lload 7, 2) := by decide +kernel
theorem dX12_drift_152 : decode cX12_drift 152 = .ok (.iload 6, 2) := by decide +kernel
theorem dX12_drift_154 : decode cX12_drift 154 = .ok (.invokestatic 152, 3) := by decide +kernel
theorem dX12_drift_157 : decode cX12_drift 157 = .ok (.lreturn, 1) := by decide +kernel
set_option maxRecDepth 20000 in
theorem ggX12_year_X12_in : GoodIn wsX12_year wsX12_in := goodIn_r _ [7] (by decide +kernel) (by decide +kernel)
set_option maxRecDepth 20000 in
theorem gX12_year_X12_in : GoodIn wsX12_year (va_wsS RX12 53 yX12_in wsX12_in) := goodIn_app (goodIn_of _ (by decide +kernel)) ggX12_year_X12_in
set_option maxRecDepth 20000 in
theorem ggX12_year_X12_asNow : GoodIn wsX12_year wsX12_asNow := goodIn_r _ [11, 3, 12, 13, 14, 60, 61, 62, 63, 64, 65, 66, 67, 68, 69, 70, 71, 72, 73, 74, 75, 76, 77, 78, 79, 80, 81] (by decide +kernel) (by decide +kernel)
set_option maxRecDepth 20000 in
theorem gX12_year_X12_asNow : GoodIn wsX12_year (wsV RX12 106 RX12 yX12_asNow wsX12_asNow) := goodIn_app (goodIn_of _ (by decide +kernel)) ggX12_year_X12_asNow
set_option maxRecDepth 20000 in
theorem ggX12_year_X12_read : GoodIn wsX12_year wsX12_read := goodIn_r _ [18, 3, 19, 13, 14, 20, 21, 22, 6, 23, 24, 25, 26, 27, 28, 29, 30, 31, 32, 4, 5, 7, 33, 34, 35, 36, 37, 38, 39, 60, 61, 62, 63, 64, 65, 66, 67, 68, 69, 70, 71, 72, 73, 74, 75, 76, 77, 78, 79, 80, 81] (by decide +kernel) (by decide +kernel)
set_option maxRecDepth 20000 in
theorem gX12_year_X12_read : GoodIn wsX12_year (wsV RX12 122 RX12 yX12_read wsX12_read) := goodIn_app (goodIn_of _ (by decide +kernel)) ggX12_year_X12_read
set_option maxRecDepth 20000 in
theorem ggX12_year_X12_whistle : GoodIn wsX12_year wsX12_whistle := goodIn_r _ [43, 3, 29, 30, 31, 6, 32, 4, 5, 7, 33, 34, 35, 36, 37, 38, 39, 60, 61, 62, 63, 64, 65, 66, 67, 68, 69, 70, 71, 72, 73, 74, 75, 76, 77, 78, 79, 80, 81] (by decide +kernel) (by decide +kernel)
set_option maxRecDepth 20000 in
theorem gX12_year_X12_whistle : GoodIn wsX12_year (wsV RX12 96 RX12 yX12_whistle wsX12_whistle) := goodIn_app (goodIn_of _ (by decide +kernel)) ggX12_year_X12_whistle
set_option maxRecDepth 20000 in
theorem ggX12_year_X12_net : GoodIn wsX12_year wsX12_net := goodIn_r _ [47, 3, 29, 30, 31, 6, 32, 4, 5, 7, 33, 34, 35, 60, 61, 62, 63, 64, 65, 66, 67, 68, 69, 70, 71, 72, 73, 74, 75, 76, 77, 78, 79, 80, 81] (by decide +kernel) (by decide +kernel)
set_option maxRecDepth 20000 in
theorem gX12_year_X12_net : GoodIn wsX12_year (wsV RX12 99 RX12 yX12_net wsX12_net) := goodIn_app (goodIn_of _ (by decide +kernel)) ggX12_year_X12_net
set_option maxRecDepth 20000 in
theorem ggX12_year_X12_join : GoodIn wsX12_year wsX12_join := goodIn_r _ [51, 3, 29, 30, 31, 6, 32, 4, 5, 7, 33, 34, 35, 60, 61, 62, 63, 64, 65, 66, 67, 68, 69, 70, 71, 72, 73, 74, 75, 76, 77, 78, 79, 80, 81] (by decide +kernel) (by decide +kernel)
set_option maxRecDepth 20000 in
theorem gX12_year_X12_join : GoodIn wsX12_year (wsV RX12 102 RX12 yX12_join wsX12_join) := goodIn_app (goodIn_of _ (by decide +kernel)) ggX12_year_X12_join
set_option maxRecDepth 20000 in
theorem ggX12_year_X12_endMonth : GoodIn wsX12_year wsX12_endMonth := goodIn_r _ [55, 3, 28, 29, 30, 31, 6, 32, 4, 5, 7, 33, 34, 35, 36, 37, 38, 39, 60, 61, 62, 63, 64, 65, 66, 67, 68, 69, 70, 71, 72, 73, 74, 75, 76, 77, 78, 79, 80, 81] (by decide +kernel) (by decide +kernel)
set_option maxRecDepth 20000 in
theorem gX12_year_X12_endMonth : GoodIn wsX12_year (wsV RX12 119 RX12 yX12_endMonth wsX12_endMonth) := goodIn_app (goodIn_of _ (by decide +kernel)) ggX12_year_X12_endMonth
set_option maxRecDepth 20000 in
theorem ggX12_year_X12_stands : GoodIn wsX12_year wsX12_stands := goodIn_r _ [32, 3, 4, 5, 6, 7, 33, 34, 35, 60, 61, 62, 63, 64, 65, 66, 67, 68, 69, 70, 71, 72, 73, 74, 75, 76, 77, 78, 79, 80, 81] (by decide +kernel) (by decide +kernel)
set_option maxRecDepth 20000 in
theorem gX12_year_X12_stands : GoodIn wsX12_year (wsV RX12 83 RX12 yX12_stands wsX12_stands) := goodIn_app (goodIn_of _ (by decide +kernel)) ggX12_year_X12_stands
set_option maxRecDepth 20000 in
theorem ggX12_year_X12_headsBeyond : GoodIn wsX12_year wsX12_headsBeyond := goodIn_r _ [59, 3, 29, 30, 31, 6, 32, 4, 5, 7, 33, 34, 35, 60, 61, 62, 63, 64, 65, 66, 67, 68, 69, 70, 71, 72, 73, 74, 75, 76, 77, 78, 79, 80, 81] (by decide +kernel) (by decide +kernel)
set_option maxRecDepth 20000 in
theorem gX12_year_X12_headsBeyond : GoodIn wsX12_year (wsV RX12 134 RX12 yX12_headsBeyond wsX12_headsBeyond) := goodIn_app (goodIn_of _ (by decide +kernel)) ggX12_year_X12_headsBeyond
theorem dX12_year_0 : decode cX12_year 0 = .ok (.iload_n 1, 1) := by decide +kernel
theorem dX12_year_1 : decode cX12_year 1 = .ok (.iconst 0, 1) := by decide +kernel
theorem dX12_year_2 : decode cX12_year 2 = .ok (.sipush 9999, 3) := by decide +kernel
theorem dX12_year_5 : decode cX12_year 5 = .ok (.invokestatic 53, 3) := by decide +kernel
theorem dX12_year_8 : decode cX12_year 8 = .ok (.ifCond .eq 22, 3) := by decide +kernel
theorem dX12_year_11 : decode cX12_year 11 = .ok (.iload_n 2, 1) := by decide +kernel
theorem dX12_year_12 : decode cX12_year 12 = .ok (.iconst 1, 1) := by decide +kernel
theorem dX12_year_13 : decode cX12_year 13 = .ok (.bipush 99, 2) := by decide +kernel
theorem dX12_year_15 : decode cX12_year 15 = .ok (.invokestatic 53, 3) := by decide +kernel
theorem dX12_year_18 : decode cX12_year 18 = .ok (.ifCond .eq 12, 3) := by decide +kernel
theorem dX12_year_21 : decode cX12_year 21 = .ok (.iload_n 3, 1) := by decide +kernel
theorem dX12_year_22 : decode cX12_year 22 = .ok (.iconst 0, 1) := by decide +kernel
theorem dX12_year_23 : decode cX12_year 23 = .ok (.iconst 2, 1) := by decide +kernel
theorem dX12_year_24 : decode cX12_year 24 = .ok (.invokestatic 53, 3) := by decide +kernel
theorem dX12_year_27 : decode cX12_year 27 = .ok (.ifCond .ne 6, 3) := by decide +kernel
theorem dX12_year_30 : decode cX12_year 30 = .ok (.bipush (-2), 2) := by decide +kernel
theorem dX12_year_32 : decode cX12_year 32 = .ok (.ireturn, 1) := by decide +kernel
theorem dX12_year_33 : decode cX12_year 33 = .ok (.aload_n 0, 1) := by decide +kernel
theorem dX12_year_34 : decode cX12_year 34 = .ok (.invokevirtual 106, 3) := by decide +kernel
theorem dX12_year_37 : decode cX12_year 37 = .ok (.iload_n 1, 1) := by decide +kernel
theorem dX12_year_38 : decode cX12_year 38 = .ok (.istore 4, 2) := by decide +kernel
theorem dX12_year_40 : decode cX12_year 40 = .ok (.iconst 0, 1) := by decide +kernel
theorem dX12_year_41 : decode cX12_year 41 = .ok (.istore 5, 2) := by decide +kernel
theorem dX12_year_43 : decode cX12_year 43 = .ok (.iload 5, 2) := by decide +kernel
theorem dX12_year_45 : decode cX12_year 45 = .ok (.iload_n 2, 1) := by decide +kernel
theorem dX12_year_46 : decode cX12_year 46 = .ok (.if_icmp .ge 141, 3) := by decide +kernel
theorem dX12_year_49 : decode cX12_year 49 = .ok (.bipush 75, 2) := by decide +kernel
theorem dX12_year_51 : decode cX12_year 51 = .ok (.iload 4, 2) := by decide +kernel
theorem dX12_year_53 : decode cX12_year 53 = .ok (.imul, 1) := by decide +kernel
theorem dX12_year_54 : decode cX12_year 54 = .ok (.bipush 74, 2) := by decide +kernel
theorem dX12_year_56 : decode cX12_year 56 = .ok (.iadd, 1) := by decide +kernel
theorem dX12_year_57 : decode cX12_year 57 = .ok (.ldc 168, 2) := by decide +kernel
theorem dX12_year_59 : decode cX12_year 59 = .ok (.irem, 1) := by decide +kernel
theorem dX12_year_60 : decode cX12_year 60 = .ok (.istore 4, 2) := by decide +kernel
theorem dX12_year_62 : decode cX12_year 62 = .ok (.iload 4, 2) := by decide +kernel
theorem dX12_year_64 : decode cX12_year 64 = .ok (.bipush 8, 2) := by decide +kernel
theorem dX12_year_66 : decode cX12_year 66 = .ok (.irem, 1) := by decide +kernel
theorem dX12_year_67 : decode cX12_year 67 = .ok (.istore 6, 2) := by decide +kernel
theorem dX12_year_69 : decode cX12_year 69 = .ok (.iload 4, 2) := by decide +kernel
theorem dX12_year_71 : decode cX12_year 71 = .ok (.bipush 8, 2) := by decide +kernel
theorem dX12_year_73 : decode cX12_year 73 = .ok (.idiv, 1) := by decide +kernel
theorem dX12_year_74 : decode cX12_year 74 = .ok (.istore 7, 2) := by decide +kernel
theorem dX12_year_76 : decode cX12_year 76 = .ok (.iload 6, 2) := by decide +kernel
theorem dX12_year_78 : decode cX12_year 78 = .ok (.iconst 4, 1) := by decide +kernel
theorem dX12_year_79 : decode cX12_year 79 = .ok (.if_icmp .ge 19, 3) := by decide +kernel
theorem dX12_year_82 : decode cX12_year 82 = .ok (.aload_n 0, 1) := by decide +kernel
theorem dX12_year_83 : decode cX12_year 83 = .ok (.aload_n 0, 1) := by decide +kernel
theorem dX12_year_84 : decode cX12_year 84 = .ok (.iload 7, 2) := by decide +kernel
theorem dX12_year_86 : decode cX12_year 86 = .ok (.bipush 10, 2) := by decide +kernel
theorem dX12_year_88 : decode cX12_year 88 = .ok (.irem, 1) := by decide +kernel
theorem dX12_year_89 : decode cX12_year 89 = .ok (.invokevirtual 122, 3) := by decide +kernel
theorem dX12_year_92 : decode cX12_year 92 = .ok (.putfield 116, 3) := by decide +kernel
theorem dX12_year_95 : decode cX12_year 95 = .ok (.goto 86, 3) := by decide +kernel
theorem dX12_year_98 : decode cX12_year 98 = .ok (.iload 6, 2) := by decide +kernel
theorem dX12_year_100 : decode cX12_year 100 = .ok (.iconst 4, 1) := by decide +kernel
theorem dX12_year_101 : decode cX12_year 101 = .ok (.if_icmp .ne 19, 3) := by decide +kernel
theorem dX12_year_104 : decode cX12_year 104 = .ok (.aload_n 0, 1) := by decide +kernel
theorem dX12_year_105 : decode cX12_year 105 = .ok (.aload_n 0, 1) := by decide +kernel
theorem dX12_year_106 : decode cX12_year 106 = .ok (.iload 7, 2) := by decide +kernel
theorem dX12_year_108 : decode cX12_year 108 = .ok (.bipush 6, 2) := by decide +kernel
theorem dX12_year_110 : decode cX12_year 110 = .ok (.irem, 1) := by decide +kernel
theorem dX12_year_111 : decode cX12_year 111 = .ok (.invokevirtual 96, 3) := by decide +kernel
theorem dX12_year_114 : decode cX12_year 114 = .ok (.putfield 116, 3) := by decide +kernel
theorem dX12_year_117 : decode cX12_year 117 = .ok (.goto 64, 3) := by decide +kernel
theorem dX12_year_120 : decode cX12_year 120 = .ok (.iload 6, 2) := by decide +kernel
theorem dX12_year_122 : decode cX12_year 122 = .ok (.iconst 5, 1) := by decide +kernel
theorem dX12_year_123 : decode cX12_year 123 = .ok (.if_icmp .ne 19, 3) := by decide +kernel
theorem dX12_year_126 : decode cX12_year 126 = .ok (.aload_n 0, 1) := by decide +kernel
theorem dX12_year_127 : decode cX12_year 127 = .ok (.aload_n 0, 1) := by decide +kernel
theorem dX12_year_128 : decode cX12_year 128 = .ok (.iload 7, 2) := by decide +kernel
theorem dX12_year_130 : decode cX12_year 130 = .ok (.bipush 6, 2) := by decide +kernel
theorem dX12_year_132 : decode cX12_year 132 = .ok (.irem, 1) := by decide +kernel
theorem dX12_year_133 : decode cX12_year 133 = .ok (.invokevirtual 99, 3) := by decide +kernel
theorem dX12_year_136 : decode cX12_year 136 = .ok (.putfield 116, 3) := by decide +kernel
theorem dX12_year_139 : decode cX12_year 139 = .ok (.goto 42, 3) := by decide +kernel
theorem dX12_year_142 : decode cX12_year 142 = .ok (.iload 6, 2) := by decide +kernel
theorem dX12_year_144 : decode cX12_year 144 = .ok (.bipush 6, 2) := by decide +kernel
theorem dX12_year_146 : decode cX12_year 146 = .ok (.if_icmp .ne 27, 3) := by decide +kernel
theorem dX12_year_149 : decode cX12_year 149 = .ok (.aload_n 0, 1) := by decide +kernel
theorem dX12_year_150 : decode cX12_year 150 = .ok (.aload_n 0, 1) := by decide +kernel
theorem dX12_year_151 : decode cX12_year 151 = .ok (.iload 7, 2) := by decide +kernel
theorem dX12_year_153 : decode cX12_year 153 = .ok (.bipush 6, 2) := by decide +kernel
theorem dX12_year_155 : decode cX12_year 155 = .ok (.irem, 1) := by decide +kernel
theorem dX12_year_156 : decode cX12_year 156 = .ok (.iload 7, 2) := by decide +kernel
theorem dX12_year_158 : decode cX12_year 158 = .ok (.bipush 6, 2) := by decide +kernel
theorem dX12_year_160 : decode cX12_year 160 = .ok (.idiv, 1) := by decide +kernel
theorem dX12_year_161 : decode cX12_year 161 = .ok (.bipush 6, 2) := by decide +kernel
theorem dX12_year_163 : decode cX12_year 163 = .ok (.irem, 1) := by decide +kernel
theorem dX12_year_164 : decode cX12_year 164 = .ok (.invokevirtual 102, 3) := by decide +kernel
theorem dX12_year_167 : decode cX12_year 167 = .ok (.putfield 116, 3) := by decide +kernel
theorem dX12_year_170 : decode cX12_year 170 = .ok (.goto 11, 3) := by decide +kernel
theorem dX12_year_173 : decode cX12_year 173 = .ok (.aload_n 0, 1) := by decide +kernel
theorem dX12_year_174 : decode cX12_year 174 = .ok (.aload_n 0, 1) := by decide +kernel
theorem dX12_year_175 : decode cX12_year 175 = .ok (.invokevirtual 119, 3) := by decide +kernel
theorem dX12_year_178 : decode cX12_year 178 = .ok (.putfield 116, 3) := by decide +kernel
theorem dX12_year_181 : decode cX12_year 181 = .ok (.iinc 5 1, 3) := by decide +kernel
theorem dX12_year_184 : decode cX12_year 184 = .ok (.goto (-141), 3) := by decide +kernel
theorem dX12_year_187 : decode cX12_year 187 = .ok (.iconst 0, 1) := by decide +kernel
theorem dX12_year_188 : decode cX12_year 188 = .ok (.istore 5, 2) := by decide +kernel
theorem dX12_year_190 : decode cX12_year 190 = .ok (.iconst 0, 1) := by decide +kernel
theorem dX12_year_191 : decode cX12_year 191 = .ok (.istore 6, 2) := by decide +kernel
theorem dX12_year_193 : decode cX12_year 193 = .ok (.iload 6, 2) := by decide +kernel
theorem dX12_year_195 : decode cX12_year 195 = .ok (.bipush 6, 2) := by decide +kernel
theorem dX12_year_197 : decode cX12_year 197 = .ok (.if_icmp .ge 37, 3) := by decide +kernel
theorem dX12_year_200 : decode cX12_year 200 = .ok (.iload 5, 2) := by decide +kernel
theorem dX12_year_202 : decode cX12_year 202 = .ok (.aload_n 0, 1) := by decide +kernel
theorem dX12_year_203 : decode cX12_year 203 = .ok (.iload 6, 2) := by decide +kernel
theorem dX12_year_205 : decode cX12_year 205 = .ok (.invokevirtual 83, 3) := by decide +kernel
theorem dX12_year_208 : decode cX12_year 208 = .ok (.ifCond .eq 16, 3) := by decide +kernel
theorem dX12_year_211 : decode cX12_year 211 = .ok (.aload_n 0, 1) := by decide +kernel
theorem dX12_year_212 : decode cX12_year 212 = .ok (.getfield 13, 3) := by decide +kernel
theorem dX12_year_215 : decode cX12_year 215 = .ok (.bipush 12, 2) := by decide +kernel
theorem dX12_year_217 : decode cX12_year 217 = .ok (.iload 6, 2) := by decide +kernel
theorem dX12_year_219 : decode cX12_year 219 = .ok (.iadd, 1) := by decide +kernel
theorem dX12_year_220 : decode cX12_year 220 = .ok (.iaload, 1) := by decide +kernel
theorem dX12_year_221 : decode cX12_year 221 = .ok (.goto 4, 3) := by decide +kernel
theorem dX12_year_224 : decode cX12_year 224 = .ok (.iconst 0, 1) := by decide +kernel
theorem dX12_year_225 : decode cX12_year 225 = .ok (.iadd, 1) := by decide +kernel
theorem dX12_year_226 : decode cX12_year 226 = .ok (.istore 5, 2) := by decide +kernel
theorem dX12_year_228 : decode cX12_year 228 = .ok (.iinc 6 1, 3) := by decide +kernel
theorem dX12_year_231 : decode cX12_year 231 = .ok (.goto (-38), 3) := by decide +kernel
theorem dX12_year_234 : decode cX12_year 234 = .ok (.iload_n 3, 1) := by decide +kernel
theorem dX12_year_235 : decode cX12_year 235 = .ok (.ifCond .ne 10, 3) := by decide +kernel
theorem dX12_year_238 : decode cX12_year 238 = .ok (.aload_n 0, 1) := by decide +kernel
theorem dX12_year_239 : decode cX12_year 239 = .ok (.invokevirtual 134, 3) := by decide +kernel
theorem dX12_year_242 : decode cX12_year 242 = .ok (.goto 20, 3) := by decide +kernel
theorem dX12_year_245 : decode cX12_year 245 = .ok (.iload_n 3, 1) := by decide +kernel
theorem dX12_year_246 : decode cX12_year 246 = .ok (.iconst 1, 1) := by decide +kernel
theorem dX12_year_247 : decode cX12_year 247 = .ok (.if_icmp .ne 13, 3) := by decide +kernel
theorem dX12_year_250 : decode cX12_year 250 = .ok (.aload_n 0, 1) := by decide +kernel
theorem dX12_year_251 : decode cX12_year 251 = .ok (.getfield 13, 3) := by decide +kernel
theorem dX12_year_254 : decode cX12_year 254 = .ok (.bipush 19, 2) := by decide +kernel
theorem dX12_year_256 : decode cX12_year 256 = .ok (.iaload, 1) := by decide +kernel
theorem dX12_year_257 : decode cX12_year 257 = .ok (.goto 5, 3) := by decide +kernel
theorem dX12_year_260 : decode cX12_year 260 = .ok (.iload 5, 2) := by decide +kernel
theorem dX12_year_262 : decode cX12_year 262 = .ok (.ireturn, 1) := by decide +kernel
set_option maxRecDepth 20000 in
theorem ggX12_image_X12_in : GoodIn wsX12_image wsX12_in := goodIn_r _ [13] (by decide +kernel) (by decide +kernel)
set_option maxRecDepth 20000 in
theorem gX12_image_X12_in : GoodIn wsX12_image (va_wsS RX12 53 yX12_in wsX12_in) := goodIn_app (goodIn_of _ (by decide +kernel)) ggX12_image_X12_in
theorem dX12_image_0 : decode cX12_image 0 = .ok (.iload_n 1, 1) := by decide +kernel
theorem dX12_image_1 : decode cX12_image 1 = .ok (.iconst 0, 1) := by decide +kernel
theorem dX12_image_2 : decode cX12_image 2 = .ok (.iconst 1, 1) := by decide +kernel
theorem dX12_image_3 : decode cX12_image 3 = .ok (.invokestatic 53, 3) := by decide +kernel
theorem dX12_image_6 : decode cX12_image 6 = .ok (.ifCond .ne 6, 3) := by decide +kernel
theorem dX12_image_9 : decode cX12_image 9 = .ok (.bipush (-2), 2) := by decide +kernel
theorem dX12_image_11 : decode cX12_image 11 = .ok (.ireturn, 1) := by decide +kernel
theorem dX12_image_12 : decode cX12_image 12 = .ok (.bipush 80, 2) := by decide +kernel
theorem dX12_image_14 : decode cX12_image 14 = .ok (.iload_n 1, 1) := by decide +kernel
theorem dX12_image_15 : decode cX12_image 15 = .ok (.imul, 1) := by decide +kernel
theorem dX12_image_16 : decode cX12_image 16 = .ok (.istore_n 2, 1) := by decide +kernel
theorem dX12_image_17 : decode cX12_image 17 = .ok (.iconst 0, 1) := by decide +kernel
theorem dX12_image_18 : decode cX12_image 18 = .ok (.istore_n 3, 1) := by decide +kernel
theorem dX12_image_19 : decode cX12_image 19 = .ok (.iload_n 3, 1) := by decide +kernel
theorem dX12_image_20 : decode cX12_image 20 = .ok (.bipush 21, 2) := by decide +kernel
theorem dX12_image_22 : decode cX12_image 22 = .ok (.if_icmp .ge 23, 3) := by decide +kernel
theorem dX12_image_25 : decode cX12_image 25 = .ok (.aload_n 0, 1) := by decide +kernel
theorem dX12_image_26 : decode cX12_image 26 = .ok (.getfield 46, 3) := by decide +kernel
theorem dX12_image_29 : decode cX12_image 29 = .ok (.iload_n 2, 1) := by decide +kernel
theorem dX12_image_30 : decode cX12_image 30 = .ok (.iload_n 3, 1) := by decide +kernel
theorem dX12_image_31 : decode cX12_image 31 = .ok (.iadd, 1) := by decide +kernel
theorem dX12_image_32 : decode cX12_image 32 = .ok (.aload_n 0, 1) := by decide +kernel
theorem dX12_image_33 : decode cX12_image 33 = .ok (.getfield 7, 3) := by decide +kernel
theorem dX12_image_36 : decode cX12_image 36 = .ok (.iload_n 3, 1) := by decide +kernel
theorem dX12_image_37 : decode cX12_image 37 = .ok (.iaload, 1) := by decide +kernel
theorem dX12_image_38 : decode cX12_image 38 = .ok (.iastore, 1) := by decide +kernel
theorem dX12_image_39 : decode cX12_image 39 = .ok (.iinc 3 1, 3) := by decide +kernel
theorem dX12_image_42 : decode cX12_image 42 = .ok (.goto (-23), 3) := by decide +kernel
theorem dX12_image_45 : decode cX12_image 45 = .ok (.iconst 0, 1) := by decide +kernel
theorem dX12_image_46 : decode cX12_image 46 = .ok (.istore_n 3, 1) := by decide +kernel
theorem dX12_image_47 : decode cX12_image 47 = .ok (.iload_n 3, 1) := by decide +kernel
theorem dX12_image_48 : decode cX12_image 48 = .ok (.bipush 6, 2) := by decide +kernel
theorem dX12_image_50 : decode cX12_image 50 = .ok (.if_icmp .ge 43, 3) := by decide +kernel
theorem dX12_image_53 : decode cX12_image 53 = .ok (.aload_n 0, 1) := by decide +kernel
theorem dX12_image_54 : decode cX12_image 54 = .ok (.getfield 46, 3) := by decide +kernel
theorem dX12_image_57 : decode cX12_image 57 = .ok (.iload_n 2, 1) := by decide +kernel
theorem dX12_image_58 : decode cX12_image 58 = .ok (.bipush 21, 2) := by decide +kernel
theorem dX12_image_60 : decode cX12_image 60 = .ok (.iadd, 1) := by decide +kernel
theorem dX12_image_61 : decode cX12_image 61 = .ok (.iload_n 3, 1) := by decide +kernel
theorem dX12_image_62 : decode cX12_image 62 = .ok (.iadd, 1) := by decide +kernel
theorem dX12_image_63 : decode cX12_image 63 = .ok (.aload_n 0, 1) := by decide +kernel
theorem dX12_image_64 : decode cX12_image 64 = .ok (.getfield 16, 3) := by decide +kernel
theorem dX12_image_67 : decode cX12_image 67 = .ok (.iload_n 3, 1) := by decide +kernel
theorem dX12_image_68 : decode cX12_image 68 = .ok (.iaload, 1) := by decide +kernel
theorem dX12_image_69 : decode cX12_image 69 = .ok (.iastore, 1) := by decide +kernel
theorem dX12_image_70 : decode cX12_image 70 = .ok (.aload_n 0, 1) := by decide +kernel
theorem dX12_image_71 : decode cX12_image 71 = .ok (.getfield 46, 3) := by decide +kernel
theorem dX12_image_74 : decode cX12_image 74 = .ok (.iload_n 2, 1) := by decide +kernel
theorem dX12_image_75 : decode cX12_image 75 = .ok (.bipush 27, 2) := by decide +kernel
theorem dX12_image_77 : decode cX12_image 77 = .ok (.iadd, 1) := by decide +kernel
theorem dX12_image_78 : decode cX12_image 78 = .ok (.iload_n 3, 1) := by decide +kernel
theorem dX12_image_79 : decode cX12_image 79 = .ok (.iadd, 1) := by decide +kernel
theorem dX12_image_80 : decode cX12_image 80 = .ok (.aload_n 0, 1) := by decide +kernel
theorem dX12_image_81 : decode cX12_image 81 = .ok (.getfield 25, 3) := by decide +kernel
theorem dX12_image_84 : decode cX12_image 84 = .ok (.iload_n 3, 1) := by decide +kernel
theorem dX12_image_85 : decode cX12_image 85 = .ok (.iaload, 1) := by decide +kernel
theorem dX12_image_86 : decode cX12_image 86 = .ok (.iastore, 1) := by decide +kernel
theorem dX12_image_87 : decode cX12_image 87 = .ok (.iinc 3 1, 3) := by decide +kernel
theorem dX12_image_90 : decode cX12_image 90 = .ok (.goto (-43), 3) := by decide +kernel
theorem dX12_image_93 : decode cX12_image 93 = .ok (.iconst 0, 1) := by decide +kernel
theorem dX12_image_94 : decode cX12_image 94 = .ok (.istore_n 3, 1) := by decide +kernel
theorem dX12_image_95 : decode cX12_image 95 = .ok (.iload_n 3, 1) := by decide +kernel
theorem dX12_image_96 : decode cX12_image 96 = .ok (.bipush 10, 2) := by decide +kernel
theorem dX12_image_98 : decode cX12_image 98 = .ok (.if_icmp .ge 43, 3) := by decide +kernel
theorem dX12_image_101 : decode cX12_image 101 = .ok (.aload_n 0, 1) := by decide +kernel
theorem dX12_image_102 : decode cX12_image 102 = .ok (.getfield 46, 3) := by decide +kernel
theorem dX12_image_105 : decode cX12_image 105 = .ok (.iload_n 2, 1) := by decide +kernel
theorem dX12_image_106 : decode cX12_image 106 = .ok (.bipush 33, 2) := by decide +kernel
theorem dX12_image_108 : decode cX12_image 108 = .ok (.iadd, 1) := by decide +kernel
theorem dX12_image_109 : decode cX12_image 109 = .ok (.iload_n 3, 1) := by decide +kernel
theorem dX12_image_110 : decode cX12_image 110 = .ok (.iadd, 1) := by decide +kernel
theorem dX12_image_111 : decode cX12_image 111 = .ok (.aload_n 0, 1) := by decide +kernel
theorem dX12_image_112 : decode cX12_image 112 = .ok (.getfield 19, 3) := by decide +kernel
theorem dX12_image_115 : decode cX12_image 115 = .ok (.iload_n 3, 1) := by decide +kernel
theorem dX12_image_116 : decode cX12_image 116 = .ok (.iaload, 1) := by decide +kernel
theorem dX12_image_117 : decode cX12_image 117 = .ok (.iastore, 1) := by decide +kernel
theorem dX12_image_118 : decode cX12_image 118 = .ok (.aload_n 0, 1) := by decide +kernel
theorem dX12_image_119 : decode cX12_image 119 = .ok (.getfield 46, 3) := by decide +kernel
theorem dX12_image_122 : decode cX12_image 122 = .ok (.iload_n 2, 1) := by decide +kernel
theorem dX12_image_123 : decode cX12_image 123 = .ok (.bipush 43, 2) := by decide +kernel
theorem dX12_image_125 : decode cX12_image 125 = .ok (.iadd, 1) := by decide +kernel
theorem dX12_image_126 : decode cX12_image 126 = .ok (.iload_n 3, 1) := by decide +kernel
theorem dX12_image_127 : decode cX12_image 127 = .ok (.iadd, 1) := by decide +kernel
theorem dX12_image_128 : decode cX12_image 128 = .ok (.aload_n 0, 1) := by decide +kernel
theorem dX12_image_129 : decode cX12_image 129 = .ok (.getfield 22, 3) := by decide +kernel
theorem dX12_image_132 : decode cX12_image 132 = .ok (.iload_n 3, 1) := by decide +kernel
theorem dX12_image_133 : decode cX12_image 133 = .ok (.iaload, 1) := by decide +kernel
theorem dX12_image_134 : decode cX12_image 134 = .ok (.iastore, 1) := by decide +kernel
theorem dX12_image_135 : decode cX12_image 135 = .ok (.iinc 3 1, 3) := by decide +kernel
theorem dX12_image_138 : decode cX12_image 138 = .ok (.goto (-43), 3) := by decide +kernel
theorem dX12_image_141 : decode cX12_image 141 = .ok (.iconst 0, 1) := by decide +kernel
theorem dX12_image_142 : decode cX12_image 142 = .ok (.istore_n 3, 1) := by decide +kernel
theorem dX12_image_143 : decode cX12_image 143 = .ok (.iload_n 3, 1) := by decide +kernel
theorem dX12_image_144 : decode cX12_image 144 = .ok (.bipush 16, 2) := by decide +kernel
theorem dX12_image_146 : decode cX12_image 146 = .ok (.if_icmp .ge 26, 3) := by decide +kernel
theorem dX12_image_149 : decode cX12_image 149 = .ok (.aload_n 0, 1) := by decide +kernel
theorem dX12_image_150 : decode cX12_image 150 = .ok (.getfield 46, 3) := by decide +kernel
theorem dX12_image_153 : decode cX12_image 153 = .ok (.iload_n 2, 1) := by decide +kernel
theorem dX12_image_154 : decode cX12_image 154 = .ok (.bipush 53, 2) := by decide +kernel
theorem dX12_image_156 : decode cX12_image 156 = .ok (.iadd, 1) := by decide +kernel
theorem dX12_image_157 : decode cX12_image 157 = .ok (.iload_n 3, 1) := by decide +kernel
theorem dX12_image_158 : decode cX12_image 158 = .ok (.iadd, 1) := by decide +kernel
theorem dX12_image_159 : decode cX12_image 159 = .ok (.aload_n 0, 1) := by decide +kernel
theorem dX12_image_160 : decode cX12_image 160 = .ok (.getfield 28, 3) := by decide +kernel
theorem dX12_image_163 : decode cX12_image 163 = .ok (.iload_n 3, 1) := by decide +kernel
theorem dX12_image_164 : decode cX12_image 164 = .ok (.iaload, 1) := by decide +kernel
theorem dX12_image_165 : decode cX12_image 165 = .ok (.iastore, 1) := by decide +kernel
theorem dX12_image_166 : decode cX12_image 166 = .ok (.iinc 3 1, 3) := by decide +kernel
theorem dX12_image_169 : decode cX12_image 169 = .ok (.goto (-26), 3) := by decide +kernel
theorem dX12_image_172 : decode cX12_image 172 = .ok (.aload_n 0, 1) := by decide +kernel
theorem dX12_image_173 : decode cX12_image 173 = .ok (.getfield 46, 3) := by decide +kernel
theorem dX12_image_176 : decode cX12_image 176 = .ok (.iload_n 2, 1) := by decide +kernel
theorem dX12_image_177 : decode cX12_image 177 = .ok (.bipush 70, 2) := by decide +kernel
theorem dX12_image_179 : decode cX12_image 179 = .ok (.iadd, 1) := by decide +kernel
theorem dX12_image_180 : decode cX12_image 180 = .ok (.aload_n 0, 1) := by decide +kernel
theorem dX12_image_181 : decode cX12_image 181 = .ok (.getfield 156, 3) := by decide +kernel
theorem dX12_image_184 : decode cX12_image 184 = .ok (.iastore, 1) := by decide +kernel
theorem dX12_image_185 : decode cX12_image 185 = .ok (.aload_n 0, 1) := by decide +kernel
theorem dX12_image_186 : decode cX12_image 186 = .ok (.getfield 49, 3) := by decide +kernel
theorem dX12_image_189 : decode cX12_image 189 = .ok (.iload_n 1, 1) := by decide +kernel
theorem dX12_image_190 : decode cX12_image 190 = .ok (.iconst 1, 1) := by decide +kernel
theorem dX12_image_191 : decode cX12_image 191 = .ok (.bastore, 1) := by decide +kernel
theorem dX12_image_192 : decode cX12_image 192 = .ok (.iconst 1, 1) := by decide +kernel
theorem dX12_image_193 : decode cX12_image 193 = .ok (.ireturn, 1) := by decide +kernel
set_option maxRecDepth 20000 in
theorem ggX12_restore_X12_in : GoodIn wsX12_restore wsX12_in := goodIn_r _ [13] (by decide +kernel) (by decide +kernel)
set_option maxRecDepth 20000 in
theorem gX12_restore_X12_in : GoodIn wsX12_restore (va_wsS RX12 53 yX12_in wsX12_in) := goodIn_app (goodIn_of _ (by decide +kernel)) ggX12_restore_X12_in
theorem dX12_restore_0 : decode cX12_restore 0 = .ok (.iload_n 1, 1) := by decide +kernel
theorem dX12_restore_1 : decode cX12_restore 1 = .ok (.iconst 0, 1) := by decide +kernel
theorem dX12_restore_2 : decode cX12_restore 2 = .ok (.iconst 1, 1) := by decide +kernel
theorem dX12_restore_3 : decode cX12_restore 3 = .ok (.invokestatic 53, 3) := by decide +kernel
theorem dX12_restore_6 : decode cX12_restore 6 = .ok (.ifCond .ne 6, 3) := by decide +kernel
theorem dX12_restore_9 : decode cX12_restore 9 = .ok (.bipush (-2), 2) := by decide +kernel
theorem dX12_restore_11 : decode cX12_restore 11 = .ok (.ireturn, 1) := by decide +kernel
theorem dX12_restore_12 : decode cX12_restore 12 = .ok (.aload_n 0, 1) := by decide +kernel
theorem dX12_restore_13 : decode cX12_restore 13 = .ok (.getfield 49, 3) := by decide +kernel
theorem dX12_restore_16 : decode cX12_restore 16 = .ok (.iload_n 1, 1) := by decide +kernel
theorem dX12_restore_17 : decode cX12_restore 17 = .ok (.baload, 1) := by decide +kernel
theorem dX12_restore_18 : decode cX12_restore 18 = .ok (.ifCond .ne 6, 3) := by decide +kernel
theorem dX12_restore_21 : decode cX12_restore 21 = .ok (.bipush (-3), 2) := by decide +kernel
theorem dX12_restore_23 : decode cX12_restore 23 = .ok (.ireturn, 1) := by decide +kernel
theorem dX12_restore_24 : decode cX12_restore 24 = .ok (.bipush 80, 2) := by decide +kernel
theorem dX12_restore_26 : decode cX12_restore 26 = .ok (.iload_n 1, 1) := by decide +kernel
theorem dX12_restore_27 : decode cX12_restore 27 = .ok (.imul, 1) := by decide +kernel
theorem dX12_restore_28 : decode cX12_restore 28 = .ok (.istore_n 2, 1) := by decide +kernel
theorem dX12_restore_29 : decode cX12_restore 29 = .ok (.iconst 0, 1) := by decide +kernel
theorem dX12_restore_30 : decode cX12_restore 30 = .ok (.istore_n 3, 1) := by decide +kernel
theorem dX12_restore_31 : decode cX12_restore 31 = .ok (.iload_n 3, 1) := by decide +kernel
theorem dX12_restore_32 : decode cX12_restore 32 = .ok (.bipush 21, 2) := by decide +kernel
theorem dX12_restore_34 : decode cX12_restore 34 = .ok (.if_icmp .ge 23, 3) := by decide +kernel
theorem dX12_restore_37 : decode cX12_restore 37 = .ok (.aload_n 0, 1) := by decide +kernel
theorem dX12_restore_38 : decode cX12_restore 38 = .ok (.getfield 7, 3) := by decide +kernel
theorem dX12_restore_41 : decode cX12_restore 41 = .ok (.iload_n 3, 1) := by decide +kernel
theorem dX12_restore_42 : decode cX12_restore 42 = .ok (.aload_n 0, 1) := by decide +kernel
theorem dX12_restore_43 : decode cX12_restore 43 = .ok (.getfield 46, 3) := by decide +kernel
theorem dX12_restore_46 : decode cX12_restore 46 = .ok (.iload_n 2, 1) := by decide +kernel
theorem dX12_restore_47 : decode cX12_restore 47 = .ok (.iload_n 3, 1) := by decide +kernel
theorem dX12_restore_48 : decode cX12_restore 48 = .ok (.iadd, 1) := by decide +kernel
theorem dX12_restore_49 : decode cX12_restore 49 = .ok (.iaload, 1) := by decide +kernel
theorem dX12_restore_50 : decode cX12_restore 50 = .ok (.iastore, 1) := by decide +kernel
theorem dX12_restore_51 : decode cX12_restore 51 = .ok (.iinc 3 1, 3) := by decide +kernel
theorem dX12_restore_54 : decode cX12_restore 54 = .ok (.goto (-23), 3) := by decide +kernel
theorem dX12_restore_57 : decode cX12_restore 57 = .ok (.iconst 0, 1) := by decide +kernel
theorem dX12_restore_58 : decode cX12_restore 58 = .ok (.istore_n 3, 1) := by decide +kernel
theorem dX12_restore_59 : decode cX12_restore 59 = .ok (.iload_n 3, 1) := by decide +kernel
theorem dX12_restore_60 : decode cX12_restore 60 = .ok (.bipush 6, 2) := by decide +kernel
theorem dX12_restore_62 : decode cX12_restore 62 = .ok (.if_icmp .ge 43, 3) := by decide +kernel
theorem dX12_restore_65 : decode cX12_restore 65 = .ok (.aload_n 0, 1) := by decide +kernel
theorem dX12_restore_66 : decode cX12_restore 66 = .ok (.getfield 16, 3) := by decide +kernel
theorem dX12_restore_69 : decode cX12_restore 69 = .ok (.iload_n 3, 1) := by decide +kernel
theorem dX12_restore_70 : decode cX12_restore 70 = .ok (.aload_n 0, 1) := by decide +kernel
theorem dX12_restore_71 : decode cX12_restore 71 = .ok (.getfield 46, 3) := by decide +kernel
theorem dX12_restore_74 : decode cX12_restore 74 = .ok (.iload_n 2, 1) := by decide +kernel
theorem dX12_restore_75 : decode cX12_restore 75 = .ok (.bipush 21, 2) := by decide +kernel
theorem dX12_restore_77 : decode cX12_restore 77 = .ok (.iadd, 1) := by decide +kernel
theorem dX12_restore_78 : decode cX12_restore 78 = .ok (.iload_n 3, 1) := by decide +kernel
theorem dX12_restore_79 : decode cX12_restore 79 = .ok (.iadd, 1) := by decide +kernel
theorem dX12_restore_80 : decode cX12_restore 80 = .ok (.iaload, 1) := by decide +kernel
theorem dX12_restore_81 : decode cX12_restore 81 = .ok (.iastore, 1) := by decide +kernel
theorem dX12_restore_82 : decode cX12_restore 82 = .ok (.aload_n 0, 1) := by decide +kernel
theorem dX12_restore_83 : decode cX12_restore 83 = .ok (.getfield 25, 3) := by decide +kernel
theorem dX12_restore_86 : decode cX12_restore 86 = .ok (.iload_n 3, 1) := by decide +kernel
theorem dX12_restore_87 : decode cX12_restore 87 = .ok (.aload_n 0, 1) := by decide +kernel
theorem dX12_restore_88 : decode cX12_restore 88 = .ok (.getfield 46, 3) := by decide +kernel
theorem dX12_restore_91 : decode cX12_restore 91 = .ok (.iload_n 2, 1) := by decide +kernel
theorem dX12_restore_92 : decode cX12_restore 92 = .ok (.bipush 27, 2) := by decide +kernel
theorem dX12_restore_94 : decode cX12_restore 94 = .ok (.iadd, 1) := by decide +kernel
theorem dX12_restore_95 : decode cX12_restore 95 = .ok (.iload_n 3, 1) := by decide +kernel
theorem dX12_restore_96 : decode cX12_restore 96 = .ok (.iadd, 1) := by decide +kernel
theorem dX12_restore_97 : decode cX12_restore 97 = .ok (.iaload, 1) := by decide +kernel
theorem dX12_restore_98 : decode cX12_restore 98 = .ok (.iastore, 1) := by decide +kernel
theorem dX12_restore_99 : decode cX12_restore 99 = .ok (.iinc 3 1, 3) := by decide +kernel
theorem dX12_restore_102 : decode cX12_restore 102 = .ok (.goto (-43), 3) := by decide +kernel
theorem dX12_restore_105 : decode cX12_restore 105 = .ok (.iconst 0, 1) := by decide +kernel
theorem dX12_restore_106 : decode cX12_restore 106 = .ok (.istore_n 3, 1) := by decide +kernel
theorem dX12_restore_107 : decode cX12_restore 107 = .ok (.iload_n 3, 1) := by decide +kernel
theorem dX12_restore_108 : decode cX12_restore 108 = .ok (.bipush 10, 2) := by decide +kernel
theorem dX12_restore_110 : decode cX12_restore 110 = .ok (.if_icmp .ge 43, 3) := by decide +kernel
theorem dX12_restore_113 : decode cX12_restore 113 = .ok (.aload_n 0, 1) := by decide +kernel
theorem dX12_restore_114 : decode cX12_restore 114 = .ok (.getfield 19, 3) := by decide +kernel
theorem dX12_restore_117 : decode cX12_restore 117 = .ok (.iload_n 3, 1) := by decide +kernel
theorem dX12_restore_118 : decode cX12_restore 118 = .ok (.aload_n 0, 1) := by decide +kernel
theorem dX12_restore_119 : decode cX12_restore 119 = .ok (.getfield 46, 3) := by decide +kernel
theorem dX12_restore_122 : decode cX12_restore 122 = .ok (.iload_n 2, 1) := by decide +kernel
theorem dX12_restore_123 : decode cX12_restore 123 = .ok (.bipush 33, 2) := by decide +kernel
theorem dX12_restore_125 : decode cX12_restore 125 = .ok (.iadd, 1) := by decide +kernel
theorem dX12_restore_126 : decode cX12_restore 126 = .ok (.iload_n 3, 1) := by decide +kernel
theorem dX12_restore_127 : decode cX12_restore 127 = .ok (.iadd, 1) := by decide +kernel
theorem dX12_restore_128 : decode cX12_restore 128 = .ok (.iaload, 1) := by decide +kernel
theorem dX12_restore_129 : decode cX12_restore 129 = .ok (.iastore, 1) := by decide +kernel
theorem dX12_restore_130 : decode cX12_restore 130 = .ok (.aload_n 0, 1) := by decide +kernel
theorem dX12_restore_131 : decode cX12_restore 131 = .ok (.getfield 22, 3) := by decide +kernel
theorem dX12_restore_134 : decode cX12_restore 134 = .ok (.iload_n 3, 1) := by decide +kernel
theorem dX12_restore_135 : decode cX12_restore 135 = .ok (.aload_n 0, 1) := by decide +kernel
theorem dX12_restore_136 : decode cX12_restore 136 = .ok (.getfield 46, 3) := by decide +kernel
theorem dX12_restore_139 : decode cX12_restore 139 = .ok (.iload_n 2, 1) := by decide +kernel
theorem dX12_restore_140 : decode cX12_restore 140 = .ok (.bipush 43, 2) := by decide +kernel
theorem dX12_restore_142 : decode cX12_restore 142 = .ok (.iadd, 1) := by decide +kernel
theorem dX12_restore_143 : decode cX12_restore 143 = .ok (.iload_n 3, 1) := by decide +kernel
theorem dX12_restore_144 : decode cX12_restore 144 = .ok (.iadd, 1) := by decide +kernel
theorem dX12_restore_145 : decode cX12_restore 145 = .ok (.iaload, 1) := by decide +kernel
theorem dX12_restore_146 : decode cX12_restore 146 = .ok (.iastore, 1) := by decide +kernel
theorem dX12_restore_147 : decode cX12_restore 147 = .ok (.iinc 3 1, 3) := by decide +kernel
theorem dX12_restore_150 : decode cX12_restore 150 = .ok (.goto (-43), 3) := by decide +kernel
theorem dX12_restore_153 : decode cX12_restore 153 = .ok (.iconst 0, 1) := by decide +kernel
theorem dX12_restore_154 : decode cX12_restore 154 = .ok (.istore_n 3, 1) := by decide +kernel
theorem dX12_restore_155 : decode cX12_restore 155 = .ok (.iload_n 3, 1) := by decide +kernel
theorem dX12_restore_156 : decode cX12_restore 156 = .ok (.bipush 16, 2) := by decide +kernel
theorem dX12_restore_158 : decode cX12_restore 158 = .ok (.if_icmp .ge 26, 3) := by decide +kernel
theorem dX12_restore_161 : decode cX12_restore 161 = .ok (.aload_n 0, 1) := by decide +kernel
theorem dX12_restore_162 : decode cX12_restore 162 = .ok (.getfield 28, 3) := by decide +kernel
theorem dX12_restore_165 : decode cX12_restore 165 = .ok (.iload_n 3, 1) := by decide +kernel
theorem dX12_restore_166 : decode cX12_restore 166 = .ok (.aload_n 0, 1) := by decide +kernel
theorem dX12_restore_167 : decode cX12_restore 167 = .ok (.getfield 46, 3) := by decide +kernel
theorem dX12_restore_170 : decode cX12_restore 170 = .ok (.iload_n 2, 1) := by decide +kernel
theorem dX12_restore_171 : decode cX12_restore 171 = .ok (.bipush 53, 2) := by decide +kernel
theorem dX12_restore_173 : decode cX12_restore 173 = .ok (.iadd, 1) := by decide +kernel
theorem dX12_restore_174 : decode cX12_restore 174 = .ok (.iload_n 3, 1) := by decide +kernel
theorem dX12_restore_175 : decode cX12_restore 175 = .ok (.iadd, 1) := by decide +kernel
theorem dX12_restore_176 : decode cX12_restore 176 = .ok (.iaload, 1) := by decide +kernel
theorem dX12_restore_177 : decode cX12_restore 177 = .ok (.iastore, 1) := by decide +kernel
theorem dX12_restore_178 : decode cX12_restore 178 = .ok (.iinc 3 1, 3) := by decide +kernel
theorem dX12_restore_181 : decode cX12_restore 181 = .ok (.goto (-26), 3) := by decide +kernel
theorem dX12_restore_184 : decode cX12_restore 184 = .ok (.aload_n 0, 1) := by decide +kernel
theorem dX12_restore_185 : decode cX12_restore 185 = .ok (.aload_n 0, 1) := by decide +kernel
theorem dX12_restore_186 : decode cX12_restore 186 = .ok (.getfield 46, 3) := by decide +kernel
theorem dX12_restore_189 : decode cX12_restore 189 = .ok (.iload_n 2, 1) := by decide +kernel
theorem dX12_restore_190 : decode cX12_restore 190 = .ok (.bipush 70, 2) := by decide +kernel
theorem dX12_restore_192 : decode cX12_restore 192 = .ok (.iadd, 1) := by decide +kernel
theorem dX12_restore_193 : decode cX12_restore 193 = .ok (.iaload, 1) := by decide +kernel
theorem dX12_restore_194 : decode cX12_restore 194 = .ok (.putfield 156, 3) := by decide +kernel
theorem dX12_restore_197 : decode cX12_restore 197 = .ok (.iconst 1, 1) := by decide +kernel
theorem dX12_restore_198 : decode cX12_restore 198 = .ok (.ireturn, 1) := by decide +kernel
set_option maxRecDepth 20000 in
theorem ggX12_told_X12_isThere : GoodIn wsX12_told wsX12_isThere := goodIn_r _ [12, 2, 13, 14, 11, 15, 16, 17, 18, 19, 20, 21, 22, 23, 24, 25, 26, 27, 28, 29, 30, 31, 32, 33, 34, 35, 36, 37, 38, 39, 40] (by decide +kernel) (by decide +kernel)
set_option maxRecDepth 20000 in
theorem gX12_told_X12_isThere : GoodIn wsX12_told (wsV RX12 131 RX12 yX12_isThere wsX12_isThere) := goodIn_app (goodIn_of _ (by decide +kernel)) ggX12_told_X12_isThere
set_option maxRecDepth 20000 in
theorem ggX12_told_X12_in : GoodIn wsX12_told wsX12_in := goodIn_r _ [15] (by decide +kernel) (by decide +kernel)
set_option maxRecDepth 20000 in
theorem gX12_told_X12_in : GoodIn wsX12_told (va_wsS RX12 53 yX12_in wsX12_in) := goodIn_app (goodIn_of _ (by decide +kernel)) ggX12_told_X12_in
theorem dX12_told_0 : decode cX12_told 0 = .ok (.iload_n 1, 1) := by decide +kernel
theorem dX12_told_1 : decode cX12_told 1 = .ok (.bipush 100, 2) := by decide +kernel
theorem dX12_told_3 : decode cX12_told 3 = .ok (.if_icmp .lt 60, 3) := by decide +kernel
theorem dX12_told_6 : decode cX12_told 6 = .ok (.iload_n 1, 1) := by decide +kernel
theorem dX12_told_7 : decode cX12_told 7 = .ok (.bipush 10, 2) := by decide +kernel
theorem dX12_told_9 : decode cX12_told 9 = .ok (.idiv, 1) := by decide +kernel
theorem dX12_told_10 : decode cX12_told 10 = .ok (.bipush 10, 2) := by decide +kernel
theorem dX12_told_12 : decode cX12_told 12 = .ok (.isub, 1) := by decide +kernel
theorem dX12_told_13 : decode cX12_told 13 = .ok (.istore_n 2, 1) := by decide +kernel
theorem dX12_told_14 : decode cX12_told 14 = .ok (.iload_n 1, 1) := by decide +kernel
theorem dX12_told_15 : decode cX12_told 15 = .ok (.bipush 10, 2) := by decide +kernel
theorem dX12_told_17 : decode cX12_told 17 = .ok (.irem, 1) := by decide +kernel
theorem dX12_told_18 : decode cX12_told 18 = .ok (.istore_n 3, 1) := by decide +kernel
theorem dX12_told_19 : decode cX12_told 19 = .ok (.aload_n 0, 1) := by decide +kernel
theorem dX12_told_20 : decode cX12_told 20 = .ok (.iload_n 2, 1) := by decide +kernel
theorem dX12_told_21 : decode cX12_told 21 = .ok (.invokevirtual 131, 3) := by decide +kernel
theorem dX12_told_24 : decode cX12_told 24 = .ok (.ifCond .eq 8, 3) := by decide +kernel
theorem dX12_told_27 : decode cX12_told 27 = .ok (.iload_n 3, 1) := by decide +kernel
theorem dX12_told_28 : decode cX12_told 28 = .ok (.iconst 3, 1) := by decide +kernel
theorem dX12_told_29 : decode cX12_told 29 = .ok (.if_icmp .le 8, 3) := by decide +kernel
theorem dX12_told_32 : decode cX12_told 32 = .ok (.bipush (-2), 2) := by decide +kernel
theorem dX12_told_34 : decode cX12_told 34 = .ok (.goto 28, 3) := by decide +kernel
theorem dX12_told_37 : decode cX12_told 37 = .ok (.iload_n 3, 1) := by decide +kernel
theorem dX12_told_38 : decode cX12_told 38 = .ok (.iconst 3, 1) := by decide +kernel
theorem dX12_told_39 : decode cX12_told 39 = .ok (.if_icmp .ne 12, 3) := by decide +kernel
theorem dX12_told_42 : decode cX12_told 42 = .ok (.aload_n 0, 1) := by decide +kernel
theorem dX12_told_43 : decode cX12_told 43 = .ok (.getfield 16, 3) := by decide +kernel
theorem dX12_told_46 : decode cX12_told 46 = .ok (.iload_n 2, 1) := by decide +kernel
theorem dX12_told_47 : decode cX12_told 47 = .ok (.iaload, 1) := by decide +kernel
theorem dX12_told_48 : decode cX12_told 48 = .ok (.goto 14, 3) := by decide +kernel
theorem dX12_told_51 : decode cX12_told 51 = .ok (.aload_n 0, 1) := by decide +kernel
theorem dX12_told_52 : decode cX12_told 52 = .ok (.getfield 7, 3) := by decide +kernel
theorem dX12_told_55 : decode cX12_told 55 = .ok (.bipush 6, 2) := by decide +kernel
theorem dX12_told_57 : decode cX12_told 57 = .ok (.iload_n 3, 1) := by decide +kernel
theorem dX12_told_58 : decode cX12_told 58 = .ok (.imul, 1) := by decide +kernel
theorem dX12_told_59 : decode cX12_told 59 = .ok (.iload_n 2, 1) := by decide +kernel
theorem dX12_told_60 : decode cX12_told 60 = .ok (.iadd, 1) := by decide +kernel
theorem dX12_told_61 : decode cX12_told 61 = .ok (.iaload, 1) := by decide +kernel
theorem dX12_told_62 : decode cX12_told 62 = .ok (.ireturn, 1) := by decide +kernel
theorem dX12_told_63 : decode cX12_told 63 = .ok (.iload_n 1, 1) := by decide +kernel
theorem dX12_told_64 : decode cX12_told 64 = .ok (.bipush 30, 2) := by decide +kernel
theorem dX12_told_66 : decode cX12_told 66 = .ok (.if_icmp .lt 29, 3) := by decide +kernel
theorem dX12_told_69 : decode cX12_told 69 = .ok (.iload_n 1, 1) := by decide +kernel
theorem dX12_told_70 : decode cX12_told 70 = .ok (.bipush 30, 2) := by decide +kernel
theorem dX12_told_72 : decode cX12_told 72 = .ok (.bipush 35, 2) := by decide +kernel
theorem dX12_told_74 : decode cX12_told 74 = .ok (.invokestatic 53, 3) := by decide +kernel
theorem dX12_told_77 : decode cX12_told 77 = .ok (.ifCond .eq 15, 3) := by decide +kernel
theorem dX12_told_80 : decode cX12_told 80 = .ok (.aload_n 0, 1) := by decide +kernel
theorem dX12_told_81 : decode cX12_told 81 = .ok (.getfield 25, 3) := by decide +kernel
theorem dX12_told_84 : decode cX12_told 84 = .ok (.iload_n 1, 1) := by decide +kernel
theorem dX12_told_85 : decode cX12_told 85 = .ok (.bipush 30, 2) := by decide +kernel
theorem dX12_told_87 : decode cX12_told 87 = .ok (.isub, 1) := by decide +kernel
theorem dX12_told_88 : decode cX12_told 88 = .ok (.iaload, 1) := by decide +kernel
theorem dX12_told_89 : decode cX12_told 89 = .ok (.goto 5, 3) := by decide +kernel
theorem dX12_told_92 : decode cX12_told 92 = .ok (.bipush (-2), 2) := by decide +kernel
theorem dX12_told_94 : decode cX12_told 94 = .ok (.ireturn, 1) := by decide +kernel
theorem dX12_told_95 : decode cX12_told 95 = .ok (.iload_n 1, 1) := by decide +kernel
theorem dX12_told_96 : decode cX12_told 96 = .ok (.bipush 10, 2) := by decide +kernel
theorem dX12_told_98 : decode cX12_told 98 = .ok (.if_icmp .lt 31, 3) := by decide +kernel
theorem dX12_told_101 : decode cX12_told 101 = .ok (.iload_n 1, 1) := by decide +kernel
theorem dX12_told_102 : decode cX12_told 102 = .ok (.bipush 20, 2) := by decide +kernel
theorem dX12_told_104 : decode cX12_told 104 = .ok (.if_icmp .ge 15, 3) := by decide +kernel
theorem dX12_told_107 : decode cX12_told 107 = .ok (.aload_n 0, 1) := by decide +kernel
theorem dX12_told_108 : decode cX12_told 108 = .ok (.getfield 19, 3) := by decide +kernel
theorem dX12_told_111 : decode cX12_told 111 = .ok (.iload_n 1, 1) := by decide +kernel
theorem dX12_told_112 : decode cX12_told 112 = .ok (.bipush 10, 2) := by decide +kernel
theorem dX12_told_114 : decode cX12_told 114 = .ok (.isub, 1) := by decide +kernel
theorem dX12_told_115 : decode cX12_told 115 = .ok (.iaload, 1) := by decide +kernel
theorem dX12_told_116 : decode cX12_told 116 = .ok (.goto 12, 3) := by decide +kernel
theorem dX12_told_119 : decode cX12_told 119 = .ok (.aload_n 0, 1) := by decide +kernel
theorem dX12_told_120 : decode cX12_told 120 = .ok (.getfield 22, 3) := by decide +kernel
theorem dX12_told_123 : decode cX12_told 123 = .ok (.iload_n 1, 1) := by decide +kernel
theorem dX12_told_124 : decode cX12_told 124 = .ok (.bipush 20, 2) := by decide +kernel
theorem dX12_told_126 : decode cX12_told 126 = .ok (.isub, 1) := by decide +kernel
theorem dX12_told_127 : decode cX12_told 127 = .ok (.iaload, 1) := by decide +kernel
theorem dX12_told_128 : decode cX12_told 128 = .ok (.ireturn, 1) := by decide +kernel
theorem dX12_told_129 : decode cX12_told 129 = .ok (.iload_n 1, 1) := by decide +kernel
theorem dX12_told_130 : decode cX12_told 130 = .ok (.tableswitch 59 0 3 #[30, 35, 43, 51], 30) := by decide +kernel
theorem dX12_told_160 : decode cX12_told 160 = .ok (.aload_n 0, 1) := by decide +kernel
theorem dX12_told_161 : decode cX12_told 161 = .ok (.getfield 69, 3) := by decide +kernel
theorem dX12_told_164 : decode cX12_told 164 = .ok (.ireturn, 1) := by decide +kernel
theorem dX12_told_165 : decode cX12_told 165 = .ok (.aload_n 0, 1) := by decide +kernel
theorem dX12_told_166 : decode cX12_told 166 = .ok (.getfield 7, 3) := by decide +kernel
theorem dX12_told_169 : decode cX12_told 169 = .ok (.bipush 18, 2) := by decide +kernel
theorem dX12_told_171 : decode cX12_told 171 = .ok (.iaload, 1) := by decide +kernel
theorem dX12_told_172 : decode cX12_told 172 = .ok (.ireturn, 1) := by decide +kernel
theorem dX12_told_173 : decode cX12_told 173 = .ok (.aload_n 0, 1) := by decide +kernel
theorem dX12_told_174 : decode cX12_told 174 = .ok (.getfield 7, 3) := by decide +kernel
theorem dX12_told_177 : decode cX12_told 177 = .ok (.bipush 20, 2) := by decide +kernel
theorem dX12_told_179 : decode cX12_told 179 = .ok (.iaload, 1) := by decide +kernel
theorem dX12_told_180 : decode cX12_told 180 = .ok (.ireturn, 1) := by decide +kernel
theorem dX12_told_181 : decode cX12_told 181 = .ok (.aload_n 0, 1) := by decide +kernel
theorem dX12_told_182 : decode cX12_told 182 = .ok (.getfield 7, 3) := by decide +kernel
theorem dX12_told_185 : decode cX12_told 185 = .ok (.bipush 19, 2) := by decide +kernel
theorem dX12_told_187 : decode cX12_told 187 = .ok (.iaload, 1) := by decide +kernel
theorem dX12_told_188 : decode cX12_told 188 = .ok (.ireturn, 1) := by decide +kernel
theorem dX12_told_189 : decode cX12_told 189 = .ok (.iload_n 1, 1) := by decide +kernel
theorem dX12_told_190 : decode cX12_told 190 = .ok (.iconst 4, 1) := by decide +kernel
theorem dX12_told_191 : decode cX12_told 191 = .ok (.if_icmp .ne 10, 3) := by decide +kernel
theorem dX12_told_194 : decode cX12_told 194 = .ok (.aload_n 0, 1) := by decide +kernel
theorem dX12_told_195 : decode cX12_told 195 = .ok (.getfield 156, 3) := by decide +kernel
theorem dX12_told_198 : decode cX12_told 198 = .ok (.goto 5, 3) := by decide +kernel
theorem dX12_told_201 : decode cX12_told 201 = .ok (.bipush (-2), 2) := by decide +kernel
theorem dX12_told_203 : decode cX12_told 203 = .ok (.ireturn, 1) := by decide +kernel
