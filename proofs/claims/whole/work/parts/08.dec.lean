theorem dX7_laysTwos_73 : decode cX7_laysTwos 73 = .ok (.istore_n 2, 1) := by decide +kernel
theorem dX7_laysTwos_74 : decode cX7_laysTwos 74 = .ok (.iload_n 2, 1) := by decide +kernel
theorem dX7_laysTwos_75 : decode cX7_laysTwos 75 = .ok (.iload_n 1, 1) := by decide +kernel
theorem dX7_laysTwos_76 : decode cX7_laysTwos 76 = .ok (.if_icmp .ge 47, 3) := by decide +kernel
theorem dX7_laysTwos_79 : decode cX7_laysTwos 79 = .ok (.aload_n 0, 1) := by decide +kernel
theorem dX7_laysTwos_80 : decode cX7_laysTwos 80 = .ok (.iconst 4, 1) := by decide +kernel
theorem dX7_laysTwos_81 : decode cX7_laysTwos 81 = .ok (.iload_n 1, 1) := by decide +kernel
theorem dX7_laysTwos_82 : decode cX7_laysTwos 82 = .ok (.imul, 1) := by decide +kernel
theorem dX7_laysTwos_83 : decode cX7_laysTwos 83 = .ok (.iconst 3, 1) := by decide +kernel
theorem dX7_laysTwos_84 : decode cX7_laysTwos 84 = .ok (.iadd, 1) := by decide +kernel
theorem dX7_laysTwos_85 : decode cX7_laysTwos 85 = .ok (.iload_n 2, 1) := by decide +kernel
theorem dX7_laysTwos_86 : decode cX7_laysTwos 86 = .ok (.iadd, 1) := by decide +kernel
theorem dX7_laysTwos_87 : decode cX7_laysTwos 87 = .ok (.bipush 8, 2) := by decide +kernel
theorem dX7_laysTwos_89 : decode cX7_laysTwos 89 = .ok (.iload_n 1, 1) := by decide +kernel
theorem dX7_laysTwos_90 : decode cX7_laysTwos 90 = .ok (.imul, 1) := by decide +kernel
theorem dX7_laysTwos_91 : decode cX7_laysTwos 91 = .ok (.iconst 4, 1) := by decide +kernel
theorem dX7_laysTwos_92 : decode cX7_laysTwos 92 = .ok (.iadd, 1) := by decide +kernel
theorem dX7_laysTwos_93 : decode cX7_laysTwos 93 = .ok (.iload_n 2, 1) := by decide +kernel
theorem dX7_laysTwos_94 : decode cX7_laysTwos 94 = .ok (.isub, 1) := by decide +kernel
theorem dX7_laysTwos_95 : decode cX7_laysTwos 95 = .ok (.invokevirtual 229, 3) := by decide +kernel
theorem dX7_laysTwos_98 : decode cX7_laysTwos 98 = .ok (.aload_n 0, 1) := by decide +kernel
theorem dX7_laysTwos_99 : decode cX7_laysTwos 99 = .ok (.iconst 5, 1) := by decide +kernel
theorem dX7_laysTwos_100 : decode cX7_laysTwos 100 = .ok (.iload_n 1, 1) := by decide +kernel
theorem dX7_laysTwos_101 : decode cX7_laysTwos 101 = .ok (.imul, 1) := by decide +kernel
theorem dX7_laysTwos_102 : decode cX7_laysTwos 102 = .ok (.iconst 2, 1) := by decide +kernel
theorem dX7_laysTwos_103 : decode cX7_laysTwos 103 = .ok (.iadd, 1) := by decide +kernel
theorem dX7_laysTwos_104 : decode cX7_laysTwos 104 = .ok (.iload_n 2, 1) := by decide +kernel
theorem dX7_laysTwos_105 : decode cX7_laysTwos 105 = .ok (.iadd, 1) := by decide +kernel
theorem dX7_laysTwos_106 : decode cX7_laysTwos 106 = .ok (.bipush 7, 2) := by decide +kernel
theorem dX7_laysTwos_108 : decode cX7_laysTwos 108 = .ok (.iload_n 1, 1) := by decide +kernel
theorem dX7_laysTwos_109 : decode cX7_laysTwos 109 = .ok (.imul, 1) := by decide +kernel
theorem dX7_laysTwos_110 : decode cX7_laysTwos 110 = .ok (.iconst 3, 1) := by decide +kernel
theorem dX7_laysTwos_111 : decode cX7_laysTwos 111 = .ok (.iadd, 1) := by decide +kernel
theorem dX7_laysTwos_112 : decode cX7_laysTwos 112 = .ok (.iload_n 2, 1) := by decide +kernel
theorem dX7_laysTwos_113 : decode cX7_laysTwos 113 = .ok (.isub, 1) := by decide +kernel
theorem dX7_laysTwos_114 : decode cX7_laysTwos 114 = .ok (.invokevirtual 229, 3) := by decide +kernel
theorem dX7_laysTwos_117 : decode cX7_laysTwos 117 = .ok (.iinc 2 1, 3) := by decide +kernel
theorem dX7_laysTwos_120 : decode cX7_laysTwos 120 = .ok (.goto (-46), 3) := by decide +kernel
theorem dX7_laysTwos_123 : decode cX7_laysTwos 123 = .ok (.aload_n 0, 1) := by decide +kernel
theorem dX7_laysTwos_124 : decode cX7_laysTwos 124 = .ok (.bipush 7, 2) := by decide +kernel
theorem dX7_laysTwos_126 : decode cX7_laysTwos 126 = .ok (.iload_n 1, 1) := by decide +kernel
theorem dX7_laysTwos_127 : decode cX7_laysTwos 127 = .ok (.imul, 1) := by decide +kernel
theorem dX7_laysTwos_128 : decode cX7_laysTwos 128 = .ok (.iconst 3, 1) := by decide +kernel
theorem dX7_laysTwos_129 : decode cX7_laysTwos 129 = .ok (.iadd, 1) := by decide +kernel
theorem dX7_laysTwos_130 : decode cX7_laysTwos 130 = .ok (.bipush 7, 2) := by decide +kernel
theorem dX7_laysTwos_132 : decode cX7_laysTwos 132 = .ok (.iload_n 1, 1) := by decide +kernel
theorem dX7_laysTwos_133 : decode cX7_laysTwos 133 = .ok (.imul, 1) := by decide +kernel
theorem dX7_laysTwos_134 : decode cX7_laysTwos 134 = .ok (.iconst 4, 1) := by decide +kernel
theorem dX7_laysTwos_135 : decode cX7_laysTwos 135 = .ok (.iadd, 1) := by decide +kernel
theorem dX7_laysTwos_136 : decode cX7_laysTwos 136 = .ok (.invokevirtual 229, 3) := by decide +kernel
theorem dX7_laysTwos_139 : decode cX7_laysTwos 139 = .ok (.return_, 1) := by decide +kernel
set_option maxRecDepth 20000 in
theorem ggX7_made_X7_isIn : GoodIn wsX7_made wsX7_isIn := goodIn_r _ [7] (by decide +kernel) (by decide +kernel)
set_option maxRecDepth 20000 in
theorem gX7_made_X7_isIn : GoodIn wsX7_made (va_wsS RX7 69 yX7_isIn wsX7_isIn) := goodIn_app (goodIn_of _ (by decide +kernel)) ggX7_made_X7_isIn
set_option maxRecDepth 20000 in
theorem ggX7_made_X7_laysFours : GoodIn wsX7_made wsX7_laysFours := goodIn_r _ [11, 12, 13, 14, 6, 15, 2, 29, 30, 31, 32, 33, 34, 35, 36, 37, 38, 39, 40, 41, 42, 43, 44, 45, 46, 47, 48, 49, 50, 51, 52, 53, 54, 55, 56, 57, 58, 59] (by decide +kernel) (by decide +kernel)
set_option maxRecDepth 20000 in
theorem gX7_made_X7_laysFours : GoodIn wsX7_made (wsV RX7 233 RX7 yX7_laysFours wsX7_laysFours) := goodIn_app (goodIn_of _ (by decide +kernel)) ggX7_made_X7_laysFours
set_option maxRecDepth 20000 in
theorem ggX7_made_X7_laysOnes : GoodIn wsX7_made wsX7_laysOnes := goodIn_r _ [19, 12, 13, 14, 6, 15, 2, 29, 30, 31, 32, 33, 34, 35, 36, 37, 38, 39, 40, 41, 42, 43, 44, 45, 46, 47, 48, 49, 50, 51, 52, 53, 54, 55, 56, 57, 58, 59] (by decide +kernel) (by decide +kernel)
set_option maxRecDepth 20000 in
theorem gX7_made_X7_laysOnes : GoodIn wsX7_made (wsV RX7 236 RX7 yX7_laysOnes wsX7_laysOnes) := goodIn_app (goodIn_of _ (by decide +kernel)) ggX7_made_X7_laysOnes
set_option maxRecDepth 20000 in
theorem ggX7_made_X7_laysTwos : GoodIn wsX7_made wsX7_laysTwos := goodIn_r _ [23, 12, 13, 14, 6, 15, 2, 29, 30, 31, 32, 33, 34, 35, 36, 37, 38, 39, 40, 41, 42, 43, 44, 45, 46, 47, 48, 49, 50, 51, 52, 53, 54, 55, 56, 57, 58, 59] (by decide +kernel) (by decide +kernel)
set_option maxRecDepth 20000 in
theorem gX7_made_X7_laysTwos : GoodIn wsX7_made (wsV RX7 239 RX7 yX7_laysTwos wsX7_laysTwos) := goodIn_app (goodIn_of _ (by decide +kernel)) ggX7_made_X7_laysTwos
set_option maxRecDepth 20000 in
theorem ggX7_made_X7_looks : GoodIn wsX7_made wsX7_looks := goodIn_r _ [27, 3, 28, 29, 30, 31, 32, 33, 34, 35, 36, 37, 38, 39, 40, 41, 42, 43, 44, 45, 46, 47, 48, 49, 50, 51, 52, 53, 54, 55, 56, 57, 58, 59] (by decide +kernel) (by decide +kernel)
set_option maxRecDepth 20000 in
theorem gX7_made_X7_looks : GoodIn wsX7_made (wsV RX7 219 RX7 yX7_looks wsX7_looks) := goodIn_app (goodIn_of _ (by decide +kernel)) ggX7_made_X7_looks
theorem dX7_made_0 : decode cX7_made 0 = .ok (.aload_n 0, 1) := by decide +kernel
theorem dX7_made_1 : decode cX7_made 1 = .ok (.iconst 0, 1) := by decide +kernel
theorem dX7_made_2 : decode cX7_made 2 = .ok (.putfield 1, 3) := by decide +kernel
theorem dX7_made_5 : decode cX7_made 5 = .ok (.iload_n 1, 1) := by decide +kernel
theorem dX7_made_6 : decode cX7_made 6 = .ok (.bipush 6, 2) := by decide +kernel
theorem dX7_made_8 : decode cX7_made 8 = .ok (.if_icmp .eq 14, 3) := by decide +kernel
theorem dX7_made_11 : decode cX7_made 11 = .ok (.iload_n 1, 1) := by decide +kernel
theorem dX7_made_12 : decode cX7_made 12 = .ok (.bipush 8, 2) := by decide +kernel
theorem dX7_made_14 : decode cX7_made 14 = .ok (.bipush 60, 2) := by decide +kernel
theorem dX7_made_16 : decode cX7_made 16 = .ok (.invokestatic 69, 3) := by decide +kernel
theorem dX7_made_19 : decode cX7_made 19 = .ok (.ifCond .eq 10, 3) := by decide +kernel
theorem dX7_made_22 : decode cX7_made 22 = .ok (.iload_n 1, 1) := by decide +kernel
theorem dX7_made_23 : decode cX7_made 23 = .ok (.iconst 4, 1) := by decide +kernel
theorem dX7_made_24 : decode cX7_made 24 = .ok (.irem, 1) := by decide +kernel
theorem dX7_made_25 : decode cX7_made 25 = .ok (.iconst 3, 1) := by decide +kernel
theorem dX7_made_26 : decode cX7_made 26 = .ok (.if_icmp .ne 5, 3) := by decide +kernel
theorem dX7_made_29 : decode cX7_made 29 = .ok (.iconst (-1), 1) := by decide +kernel
theorem dX7_made_30 : decode cX7_made 30 = .ok (.ireturn, 1) := by decide +kernel
theorem dX7_made_31 : decode cX7_made 31 = .ok (.iconst 0, 1) := by decide +kernel
theorem dX7_made_32 : decode cX7_made 32 = .ok (.istore_n 2, 1) := by decide +kernel
theorem dX7_made_33 : decode cX7_made 33 = .ok (.iload_n 2, 1) := by decide +kernel
theorem dX7_made_34 : decode cX7_made 34 = .ok (.bipush 121, 2) := by decide +kernel
theorem dX7_made_36 : decode cX7_made 36 = .ok (.if_icmp .ge 16, 3) := by decide +kernel
theorem dX7_made_39 : decode cX7_made 39 = .ok (.aload_n 0, 1) := by decide +kernel
theorem dX7_made_40 : decode cX7_made 40 = .ok (.getfield 122, 3) := by decide +kernel
theorem dX7_made_43 : decode cX7_made 43 = .ok (.iload_n 2, 1) := by decide +kernel
theorem dX7_made_44 : decode cX7_made 44 = .ok (.iconst 0, 1) := by decide +kernel
theorem dX7_made_45 : decode cX7_made 45 = .ok (.iastore, 1) := by decide +kernel
theorem dX7_made_46 : decode cX7_made 46 = .ok (.iinc 2 1, 3) := by decide +kernel
theorem dX7_made_49 : decode cX7_made 49 = .ok (.goto (-16), 3) := by decide +kernel
theorem dX7_made_52 : decode cX7_made 52 = .ok (.iload_n 1, 1) := by decide +kernel
theorem dX7_made_53 : decode cX7_made 53 = .ok (.iconst 4, 1) := by decide +kernel
theorem dX7_made_54 : decode cX7_made 54 = .ok (.irem, 1) := by decide +kernel
theorem dX7_made_55 : decode cX7_made 55 = .ok (.ifCond .ne 10, 3) := by decide +kernel
theorem dX7_made_58 : decode cX7_made 58 = .ok (.aload_n 0, 1) := by decide +kernel
theorem dX7_made_59 : decode cX7_made 59 = .ok (.iload_n 1, 1) := by decide +kernel
theorem dX7_made_60 : decode cX7_made 60 = .ok (.iconst 4, 1) := by decide +kernel
theorem dX7_made_61 : decode cX7_made 61 = .ok (.idiv, 1) := by decide +kernel
theorem dX7_made_62 : decode cX7_made 62 = .ok (.invokevirtual 233, 3) := by decide +kernel
theorem dX7_made_65 : decode cX7_made 65 = .ok (.iload_n 1, 1) := by decide +kernel
theorem dX7_made_66 : decode cX7_made 66 = .ok (.iconst 4, 1) := by decide +kernel
theorem dX7_made_67 : decode cX7_made 67 = .ok (.irem, 1) := by decide +kernel
theorem dX7_made_68 : decode cX7_made 68 = .ok (.iconst 1, 1) := by decide +kernel
theorem dX7_made_69 : decode cX7_made 69 = .ok (.if_icmp .ne 10, 3) := by decide +kernel
theorem dX7_made_72 : decode cX7_made 72 = .ok (.aload_n 0, 1) := by decide +kernel
theorem dX7_made_73 : decode cX7_made 73 = .ok (.iload_n 1, 1) := by decide +kernel
theorem dX7_made_74 : decode cX7_made 74 = .ok (.iconst 4, 1) := by decide +kernel
theorem dX7_made_75 : decode cX7_made 75 = .ok (.idiv, 1) := by decide +kernel
theorem dX7_made_76 : decode cX7_made 76 = .ok (.invokevirtual 236, 3) := by decide +kernel
theorem dX7_made_79 : decode cX7_made 79 = .ok (.iload_n 1, 1) := by decide +kernel
theorem dX7_made_80 : decode cX7_made 80 = .ok (.iconst 4, 1) := by decide +kernel
theorem dX7_made_81 : decode cX7_made 81 = .ok (.irem, 1) := by decide +kernel
theorem dX7_made_82 : decode cX7_made 82 = .ok (.iconst 2, 1) := by decide +kernel
theorem dX7_made_83 : decode cX7_made 83 = .ok (.if_icmp .ne 10, 3) := by decide +kernel
theorem dX7_made_86 : decode cX7_made 86 = .ok (.aload_n 0, 1) := by decide +kernel
theorem dX7_made_87 : decode cX7_made 87 = .ok (.iload_n 1, 1) := by decide +kernel
theorem dX7_made_88 : decode cX7_made 88 = .ok (.iconst 4, 1) := by decide +kernel
theorem dX7_made_89 : decode cX7_made 89 = .ok (.idiv, 1) := by decide +kernel
theorem dX7_made_90 : decode cX7_made 90 = .ok (.invokevirtual 239, 3) := by decide +kernel
theorem dX7_made_93 : decode cX7_made 93 = .ok (.aload_n 0, 1) := by decide +kernel
theorem dX7_made_94 : decode cX7_made 94 = .ok (.aload_n 0, 1) := by decide +kernel
theorem dX7_made_95 : decode cX7_made 95 = .ok (.getfield 122, 3) := by decide +kernel
theorem dX7_made_98 : decode cX7_made 98 = .ok (.iload_n 1, 1) := by decide +kernel
theorem dX7_made_99 : decode cX7_made 99 = .ok (.iconst 4, 1) := by decide +kernel
theorem dX7_made_100 : decode cX7_made 100 = .ok (.irem, 1) := by decide +kernel
theorem dX7_made_101 : decode cX7_made 101 = .ok (.iconst 2, 1) := by decide +kernel
theorem dX7_made_102 : decode cX7_made 102 = .ok (.if_icmp .ne 11, 3) := by decide +kernel
theorem dX7_made_105 : decode cX7_made 105 = .ok (.iconst 2, 1) := by decide +kernel
theorem dX7_made_106 : decode cX7_made 106 = .ok (.iload_n 1, 1) := by decide +kernel
theorem dX7_made_107 : decode cX7_made 107 = .ok (.imul, 1) := by decide +kernel
theorem dX7_made_108 : decode cX7_made 108 = .ok (.iconst 1, 1) := by decide +kernel
theorem dX7_made_109 : decode cX7_made 109 = .ok (.iadd, 1) := by decide +kernel
theorem dX7_made_110 : decode cX7_made 110 = .ok (.goto 6, 3) := by decide +kernel
theorem dX7_made_113 : decode cX7_made 113 = .ok (.iconst 2, 1) := by decide +kernel
theorem dX7_made_114 : decode cX7_made 114 = .ok (.iload_n 1, 1) := by decide +kernel
theorem dX7_made_115 : decode cX7_made 115 = .ok (.imul, 1) := by decide +kernel
theorem dX7_made_116 : decode cX7_made 116 = .ok (.invokevirtual 219, 3) := by decide +kernel
theorem dX7_made_119 : decode cX7_made 119 = .ok (.aload_n 0, 1) := by decide +kernel
theorem dX7_made_120 : decode cX7_made 120 = .ok (.getfield 119, 3) := by decide +kernel
theorem dX7_made_123 : decode cX7_made 123 = .ok (.ireturn, 1) := by decide +kernel
set_option maxRecDepth 20000 in
theorem ggX7_orderOf_X7_firstOf : GoodIn wsX7_orderOf wsX7_firstOf := goodIn_r _ [7, 1, 2, 8, 9, 10, 11, 12, 13, 14, 15, 16, 17, 18, 19, 20, 21, 22, 23, 24, 25, 26, 27, 28, 29, 30, 31, 32, 33, 34, 35, 36, 37, 38] (by decide +kernel) (by decide +kernel)
set_option maxRecDepth 20000 in
theorem gX7_orderOf_X7_firstOf : GoodIn wsX7_orderOf (wsV RX7 223 RX7 yX7_firstOf wsX7_firstOf) := goodIn_app (goodIn_of _ (by decide +kernel)) ggX7_orderOf_X7_firstOf
theorem dX7_orderOf_0 : decode cX7_orderOf 0 = .ok (.iconst 0, 1) := by decide +kernel
theorem dX7_orderOf_1 : decode cX7_orderOf 1 = .ok (.istore_n 1, 1) := by decide +kernel
theorem dX7_orderOf_2 : decode cX7_orderOf 2 = .ok (.iconst 0, 1) := by decide +kernel
theorem dX7_orderOf_3 : decode cX7_orderOf 3 = .ok (.istore_n 2, 1) := by decide +kernel
theorem dX7_orderOf_4 : decode cX7_orderOf 4 = .ok (.iconst 0, 1) := by decide +kernel
theorem dX7_orderOf_5 : decode cX7_orderOf 5 = .ok (.istore_n 3, 1) := by decide +kernel
theorem dX7_orderOf_6 : decode cX7_orderOf 6 = .ok (.iload_n 3, 1) := by decide +kernel
theorem dX7_orderOf_7 : decode cX7_orderOf 7 = .ok (.aload_n 0, 1) := by decide +kernel
theorem dX7_orderOf_8 : decode cX7_orderOf 8 = .ok (.getfield 119, 3) := by decide +kernel
theorem dX7_orderOf_11 : decode cX7_orderOf 11 = .ok (.if_icmp .ge 28, 3) := by decide +kernel
theorem dX7_orderOf_14 : decode cX7_orderOf 14 = .ok (.aload_n 0, 1) := by decide +kernel
theorem dX7_orderOf_15 : decode cX7_orderOf 15 = .ok (.getfield 116, 3) := by decide +kernel
theorem dX7_orderOf_18 : decode cX7_orderOf 18 = .ok (.iload_n 3, 1) := by decide +kernel
theorem dX7_orderOf_19 : decode cX7_orderOf 19 = .ok (.iaload, 1) := by decide +kernel
theorem dX7_orderOf_20 : decode cX7_orderOf 20 = .ok (.ifCond .ne 6, 3) := by decide +kernel
theorem dX7_orderOf_23 : decode cX7_orderOf 23 = .ok (.goto 10, 3) := by decide +kernel
theorem dX7_orderOf_26 : decode cX7_orderOf 26 = .ok (.iinc 1 1, 3) := by decide +kernel
theorem dX7_orderOf_29 : decode cX7_orderOf 29 = .ok (.iload_n 3, 1) := by decide +kernel
theorem dX7_orderOf_30 : decode cX7_orderOf 30 = .ok (.iconst 1, 1) := by decide +kernel
theorem dX7_orderOf_31 : decode cX7_orderOf 31 = .ok (.iadd, 1) := by decide +kernel
theorem dX7_orderOf_32 : decode cX7_orderOf 32 = .ok (.istore_n 2, 1) := by decide +kernel
theorem dX7_orderOf_33 : decode cX7_orderOf 33 = .ok (.iinc 3 1, 3) := by decide +kernel
theorem dX7_orderOf_36 : decode cX7_orderOf 36 = .ok (.goto (-30), 3) := by decide +kernel
theorem dX7_orderOf_39 : decode cX7_orderOf 39 = .ok (.iload_n 1, 1) := by decide +kernel
theorem dX7_orderOf_40 : decode cX7_orderOf 40 = .ok (.iconst 2, 1) := by decide +kernel
theorem dX7_orderOf_41 : decode cX7_orderOf 41 = .ok (.idiv, 1) := by decide +kernel
theorem dX7_orderOf_42 : decode cX7_orderOf 42 = .ok (.istore_n 3, 1) := by decide +kernel
theorem dX7_orderOf_43 : decode cX7_orderOf 43 = .ok (.iload_n 2, 1) := by decide +kernel
theorem dX7_orderOf_44 : decode cX7_orderOf 44 = .ok (.iload_n 1, 1) := by decide +kernel
theorem dX7_orderOf_45 : decode cX7_orderOf 45 = .ok (.if_icmp .eq 23, 3) := by decide +kernel
theorem dX7_orderOf_48 : decode cX7_orderOf 48 = .ok (.iload_n 2, 1) := by decide +kernel
theorem dX7_orderOf_49 : decode cX7_orderOf 49 = .ok (.iload_n 1, 1) := by decide +kernel
theorem dX7_orderOf_50 : decode cX7_orderOf 50 = .ok (.iconst 1, 1) := by decide +kernel
theorem dX7_orderOf_51 : decode cX7_orderOf 51 = .ok (.iadd, 1) := by decide +kernel
theorem dX7_orderOf_52 : decode cX7_orderOf 52 = .ok (.if_icmp .ne 14, 3) := by decide +kernel
theorem dX7_orderOf_55 : decode cX7_orderOf 55 = .ok (.aload_n 0, 1) := by decide +kernel
theorem dX7_orderOf_56 : decode cX7_orderOf 56 = .ok (.getfield 116, 3) := by decide +kernel
theorem dX7_orderOf_59 : decode cX7_orderOf 59 = .ok (.iload_n 1, 1) := by decide +kernel
theorem dX7_orderOf_60 : decode cX7_orderOf 60 = .ok (.iconst 1, 1) := by decide +kernel
theorem dX7_orderOf_61 : decode cX7_orderOf 61 = .ok (.isub, 1) := by decide +kernel
theorem dX7_orderOf_62 : decode cX7_orderOf 62 = .ok (.iaload, 1) := by decide +kernel
theorem dX7_orderOf_63 : decode cX7_orderOf 63 = .ok (.ifCond .eq 5, 3) := by decide +kernel
theorem dX7_orderOf_66 : decode cX7_orderOf 66 = .ok (.iconst 0, 1) := by decide +kernel
theorem dX7_orderOf_67 : decode cX7_orderOf 67 = .ok (.ireturn, 1) := by decide +kernel
theorem dX7_orderOf_68 : decode cX7_orderOf 68 = .ok (.iconst 1, 1) := by decide +kernel
theorem dX7_orderOf_69 : decode cX7_orderOf 69 = .ok (.istore 4, 2) := by decide +kernel
theorem dX7_orderOf_71 : decode cX7_orderOf 71 = .ok (.iload 4, 2) := by decide +kernel
theorem dX7_orderOf_73 : decode cX7_orderOf 73 = .ok (.iload_n 3, 1) := by decide +kernel
theorem dX7_orderOf_74 : decode cX7_orderOf 74 = .ok (.if_icmp .gt 21, 3) := by decide +kernel
theorem dX7_orderOf_77 : decode cX7_orderOf 77 = .ok (.aload_n 0, 1) := by decide +kernel
theorem dX7_orderOf_78 : decode cX7_orderOf 78 = .ok (.iload 4, 2) := by decide +kernel
theorem dX7_orderOf_80 : decode cX7_orderOf 80 = .ok (.invokevirtual 223, 3) := by decide +kernel
theorem dX7_orderOf_83 : decode cX7_orderOf 83 = .ok (.iconst (-1), 1) := by decide +kernel
theorem dX7_orderOf_84 : decode cX7_orderOf 84 = .ok (.if_icmp .ne 5, 3) := by decide +kernel
theorem dX7_orderOf_87 : decode cX7_orderOf 87 = .ok (.iconst 0, 1) := by decide +kernel
theorem dX7_orderOf_88 : decode cX7_orderOf 88 = .ok (.ireturn, 1) := by decide +kernel
theorem dX7_orderOf_89 : decode cX7_orderOf 89 = .ok (.iinc 4 1, 3) := by decide +kernel
theorem dX7_orderOf_92 : decode cX7_orderOf 92 = .ok (.goto (-21), 3) := by decide +kernel
theorem dX7_orderOf_95 : decode cX7_orderOf 95 = .ok (.iload_n 3, 1) := by decide +kernel
theorem dX7_orderOf_96 : decode cX7_orderOf 96 = .ok (.ireturn, 1) := by decide +kernel
set_option maxRecDepth 20000 in
theorem ggX7_third_X7_orderOf : GoodIn wsX7_third wsX7_orderOf := goodIn_r _ [6, 7, 8, 9, 10, 11, 5, 12, 16, 17, 18, 19, 20, 21, 22, 23, 24, 25, 26, 27, 28, 29, 30, 31, 32, 33, 34, 35, 36, 37, 38, 39, 40, 41, 42, 43, 44, 45, 46] (by decide +kernel) (by decide +kernel)
set_option maxRecDepth 20000 in
theorem gX7_third_X7_orderOf : GoodIn wsX7_third (wsV RX7 242 RX7 yX7_orderOf wsX7_orderOf) := goodIn_app (goodIn_of _ (by decide +kernel)) ggX7_third_X7_orderOf
set_option maxRecDepth 20000 in
theorem ggX7_third_X7_isIn : GoodIn wsX7_third wsX7_isIn := goodIn_r _ [15] (by decide +kernel) (by decide +kernel)
set_option maxRecDepth 20000 in
theorem gX7_third_X7_isIn : GoodIn wsX7_third (va_wsS RX7 69 yX7_isIn wsX7_isIn) := goodIn_app (goodIn_of _ (by decide +kernel)) ggX7_third_X7_isIn
set_option maxRecDepth 20000 in
theorem ggX7_third_X7_firstOf : GoodIn wsX7_third wsX7_firstOf := goodIn_r _ [12, 7, 8, 16, 17, 18, 19, 20, 21, 22, 23, 24, 25, 26, 27, 28, 29, 30, 31, 32, 33, 34, 35, 36, 37, 38, 39, 40, 41, 42, 43, 44, 45, 46] (by decide +kernel) (by decide +kernel)
set_option maxRecDepth 20000 in
theorem gX7_third_X7_firstOf : GoodIn wsX7_third (wsV RX7 223 RX7 yX7_firstOf wsX7_firstOf) := goodIn_app (goodIn_of _ (by decide +kernel)) ggX7_third_X7_firstOf
theorem dX7_third_0 : decode cX7_third 0 = .ok (.aload_n 0, 1) := by decide +kernel
theorem dX7_third_1 : decode cX7_third 1 = .ok (.iconst 0, 1) := by decide +kernel
theorem dX7_third_2 : decode cX7_third 2 = .ok (.putfield 1, 3) := by decide +kernel
theorem dX7_third_5 : decode cX7_third 5 = .ok (.aload_n 0, 1) := by decide +kernel
theorem dX7_third_6 : decode cX7_third 6 = .ok (.invokevirtual 242, 3) := by decide +kernel
theorem dX7_third_9 : decode cX7_third 9 = .ok (.istore_n 3, 1) := by decide +kernel
theorem dX7_third_10 : decode cX7_third 10 = .ok (.bipush 6, 2) := by decide +kernel
theorem dX7_third_12 : decode cX7_third 12 = .ok (.iload_n 3, 1) := by decide +kernel
theorem dX7_third_13 : decode cX7_third 13 = .ok (.imul, 1) := by decide +kernel
theorem dX7_third_14 : decode cX7_third 14 = .ok (.iconst 1, 1) := by decide +kernel
theorem dX7_third_15 : decode cX7_third 15 = .ok (.iadd, 1) := by decide +kernel
theorem dX7_third_16 : decode cX7_third 16 = .ok (.istore 4, 2) := by decide +kernel
theorem dX7_third_18 : decode cX7_third 18 = .ok (.iload_n 3, 1) := by decide +kernel
theorem dX7_third_19 : decode cX7_third 19 = .ok (.ifCond .eq 32, 3) := by decide +kernel
theorem dX7_third_22 : decode cX7_third 22 = .ok (.iload_n 1, 1) := by decide +kernel
theorem dX7_third_23 : decode cX7_third 23 = .ok (.iconst 0, 1) := by decide +kernel
theorem dX7_third_24 : decode cX7_third 24 = .ok (.iload 4, 2) := by decide +kernel
theorem dX7_third_26 : decode cX7_third 26 = .ok (.iconst 1, 1) := by decide +kernel
theorem dX7_third_27 : decode cX7_third 27 = .ok (.isub, 1) := by decide +kernel
theorem dX7_third_28 : decode cX7_third 28 = .ok (.invokestatic 69, 3) := by decide +kernel
theorem dX7_third_31 : decode cX7_third 31 = .ok (.ifCond .eq 20, 3) := by decide +kernel
theorem dX7_third_34 : decode cX7_third 34 = .ok (.iload_n 2, 1) := by decide +kernel
theorem dX7_third_35 : decode cX7_third 35 = .ok (.iconst 0, 1) := by decide +kernel
theorem dX7_third_36 : decode cX7_third 36 = .ok (.iload 4, 2) := by decide +kernel
theorem dX7_third_38 : decode cX7_third 38 = .ok (.iconst 1, 1) := by decide +kernel
theorem dX7_third_39 : decode cX7_third 39 = .ok (.isub, 1) := by decide +kernel
theorem dX7_third_40 : decode cX7_third 40 = .ok (.invokestatic 69, 3) := by decide +kernel
theorem dX7_third_43 : decode cX7_third 43 = .ok (.ifCond .eq 8, 3) := by decide +kernel
theorem dX7_third_46 : decode cX7_third 46 = .ok (.iload_n 1, 1) := by decide +kernel
theorem dX7_third_47 : decode cX7_third 47 = .ok (.iload_n 2, 1) := by decide +kernel
theorem dX7_third_48 : decode cX7_third 48 = .ok (.if_icmp .ne 5, 3) := by decide +kernel
theorem dX7_third_51 : decode cX7_third 51 = .ok (.iconst (-1), 1) := by decide +kernel
theorem dX7_third_52 : decode cX7_third 52 = .ok (.ireturn, 1) := by decide +kernel
theorem dX7_third_53 : decode cX7_third 53 = .ok (.iconst 1, 1) := by decide +kernel
theorem dX7_third_54 : decode cX7_third 54 = .ok (.istore 5, 2) := by decide +kernel
theorem dX7_third_56 : decode cX7_third 56 = .ok (.iload 5, 2) := by decide +kernel
theorem dX7_third_58 : decode cX7_third 58 = .ok (.iload_n 3, 1) := by decide +kernel
theorem dX7_third_59 : decode cX7_third 59 = .ok (.if_icmp .gt 131, 3) := by decide +kernel
theorem dX7_third_62 : decode cX7_third 62 = .ok (.iload_n 3, 1) := by decide +kernel
theorem dX7_third_63 : decode cX7_third 63 = .ok (.aload_n 0, 1) := by decide +kernel
theorem dX7_third_64 : decode cX7_third 64 = .ok (.iload 5, 2) := by decide +kernel
theorem dX7_third_66 : decode cX7_third 66 = .ok (.invokevirtual 223, 3) := by decide +kernel
theorem dX7_third_69 : decode cX7_third 69 = .ok (.iadd, 1) := by decide +kernel
theorem dX7_third_70 : decode cX7_third 70 = .ok (.iload 5, 2) := by decide +kernel
theorem dX7_third_72 : decode cX7_third 72 = .ok (.iadd, 1) := by decide +kernel
theorem dX7_third_73 : decode cX7_third 73 = .ok (.istore 6, 2) := by decide +kernel
theorem dX7_third_75 : decode cX7_third 75 = .ok (.iconst 0, 1) := by decide +kernel
theorem dX7_third_76 : decode cX7_third 76 = .ok (.istore 7, 2) := by decide +kernel
theorem dX7_third_78 : decode cX7_third 78 = .ok (.iload 7, 2) := by decide +kernel
theorem dX7_third_80 : decode cX7_third 80 = .ok (.iload 4, 2) := by decide +kernel
theorem dX7_third_82 : decode cX7_third 82 = .ok (.if_icmp .ge 102, 3) := by decide +kernel
theorem dX7_third_85 : decode cX7_third 85 = .ok (.iload 7, 2) := by decide +kernel
theorem dX7_third_87 : decode cX7_third 87 = .ok (.iload 5, 2) := by decide +kernel
theorem dX7_third_89 : decode cX7_third 89 = .ok (.iadd, 1) := by decide +kernel
theorem dX7_third_90 : decode cX7_third 90 = .ok (.iload 4, 2) := by decide +kernel
theorem dX7_third_92 : decode cX7_third 92 = .ok (.irem, 1) := by decide +kernel
theorem dX7_third_93 : decode cX7_third 93 = .ok (.istore 8, 2) := by decide +kernel
theorem dX7_third_95 : decode cX7_third 95 = .ok (.iload 7, 2) := by decide +kernel
theorem dX7_third_97 : decode cX7_third 97 = .ok (.iload 6, 2) := by decide +kernel
theorem dX7_third_99 : decode cX7_third 99 = .ok (.iadd, 1) := by decide +kernel
theorem dX7_third_100 : decode cX7_third 100 = .ok (.iload 4, 2) := by decide +kernel
theorem dX7_third_102 : decode cX7_third 102 = .ok (.irem, 1) := by decide +kernel
theorem dX7_third_103 : decode cX7_third 103 = .ok (.istore 9, 2) := by decide +kernel
theorem dX7_third_105 : decode cX7_third 105 = .ok (.iload 7, 2) := by decide +kernel
theorem dX7_third_107 : decode cX7_third 107 = .ok (.iload_n 1, 1) := by decide +kernel
theorem dX7_third_108 : decode cX7_third 108 = .ok (.if_icmp .eq 15, 3) := by decide +kernel
theorem dX7_third_111 : decode cX7_third 111 = .ok (.iload 8, 2) := by decide +kernel
theorem dX7_third_113 : decode cX7_third 113 = .ok (.iload_n 1, 1) := by decide +kernel
theorem dX7_third_114 : decode cX7_third 114 = .ok (.if_icmp .eq 9, 3) := by decide +kernel
theorem dX7_third_117 : decode cX7_third 117 = .ok (.iload 9, 2) := by decide +kernel
theorem dX7_third_119 : decode cX7_third 119 = .ok (.iload_n 1, 1) := by decide +kernel
theorem dX7_third_120 : decode cX7_third 120 = .ok (.if_icmp .ne 7, 3) := by decide +kernel
theorem dX7_third_123 : decode cX7_third 123 = .ok (.iconst 1, 1) := by decide +kernel
theorem dX7_third_124 : decode cX7_third 124 = .ok (.goto 4, 3) := by decide +kernel
theorem dX7_third_127 : decode cX7_third 127 = .ok (.iconst 0, 1) := by decide +kernel
theorem dX7_third_128 : decode cX7_third 128 = .ok (.istore 10, 2) := by decide +kernel
theorem dX7_third_130 : decode cX7_third 130 = .ok (.iload 7, 2) := by decide +kernel
theorem dX7_third_132 : decode cX7_third 132 = .ok (.iload_n 2, 1) := by decide +kernel
theorem dX7_third_133 : decode cX7_third 133 = .ok (.if_icmp .eq 15, 3) := by decide +kernel
theorem dX7_third_136 : decode cX7_third 136 = .ok (.iload 8, 2) := by decide +kernel
theorem dX7_third_138 : decode cX7_third 138 = .ok (.iload_n 2, 1) := by decide +kernel
theorem dX7_third_139 : decode cX7_third 139 = .ok (.if_icmp .eq 9, 3) := by decide +kernel
theorem dX7_third_142 : decode cX7_third 142 = .ok (.iload 9, 2) := by decide +kernel
theorem dX7_third_144 : decode cX7_third 144 = .ok (.iload_n 2, 1) := by decide +kernel
theorem dX7_third_145 : decode cX7_third 145 = .ok (.if_icmp .ne 7, 3) := by decide +kernel
theorem dX7_third_148 : decode cX7_third 148 = .ok (.iconst 1, 1) := by decide +kernel
theorem dX7_third_149 : decode cX7_third 149 = .ok (.goto 4, 3) := by decide +kernel
theorem dX7_third_152 : decode cX7_third 152 = .ok (.iconst 0, 1) := by decide +kernel
theorem dX7_third_153 : decode cX7_third 153 = .ok (.istore 11, 2) := by decide +kernel
theorem dX7_third_155 : decode cX7_third 155 = .ok (.iload 10, 2) := by decide +kernel
theorem dX7_third_157 : decode cX7_third 157 = .ok (.ifCond .eq 21, 3) := by decide +kernel
theorem dX7_third_160 : decode cX7_third 160 = .ok (.iload 11, 2) := by decide +kernel
theorem dX7_third_162 : decode cX7_third 162 = .ok (.ifCond .eq 16, 3) := by decide +kernel
theorem dX7_third_165 : decode cX7_third 165 = .ok (.iload 7, 2) := by decide +kernel
theorem dX7_third_167 : decode cX7_third 167 = .ok (.iload 8, 2) := by decide +kernel
theorem dX7_third_169 : decode cX7_third 169 = .ok (.iadd, 1) := by decide +kernel
theorem dX7_third_170 : decode cX7_third 170 = .ok (.iload 9, 2) := by decide +kernel
theorem dX7_third_172 : decode cX7_third 172 = .ok (.iadd, 1) := by decide +kernel
theorem dX7_third_173 : decode cX7_third 173 = .ok (.iload_n 1, 1) := by decide +kernel
theorem dX7_third_174 : decode cX7_third 174 = .ok (.isub, 1) := by decide +kernel
theorem dX7_third_175 : decode cX7_third 175 = .ok (.iload_n 2, 1) := by decide +kernel
theorem dX7_third_176 : decode cX7_third 176 = .ok (.isub, 1) := by decide +kernel
theorem dX7_third_177 : decode cX7_third 177 = .ok (.ireturn, 1) := by decide +kernel
theorem dX7_third_178 : decode cX7_third 178 = .ok (.iinc 7 1, 3) := by decide +kernel
theorem dX7_third_181 : decode cX7_third 181 = .ok (.goto (-103), 3) := by decide +kernel
theorem dX7_third_184 : decode cX7_third 184 = .ok (.iinc 5 1, 3) := by decide +kernel
theorem dX7_third_187 : decode cX7_third 187 = .ok (.goto (-131), 3) := by decide +kernel
theorem dX7_third_190 : decode cX7_third 190 = .ok (.iconst (-1), 1) := by decide +kernel
theorem dX7_third_191 : decode cX7_third 191 = .ok (.ireturn, 1) := by decide +kernel
set_option maxRecDepth 20000 in
theorem ggX7_pinnedOnes_X7_isTold : GoodIn wsX7_pinnedOnes wsX7_isTold := goodIn_r _ [5, 6, 7, 4, 8, 9, 10, 11] (by decide +kernel) (by decide +kernel)
set_option maxRecDepth 20000 in
theorem gX7_pinnedOnes_X7_isTold : GoodIn wsX7_pinnedOnes (va_wsS RX7 129 yX7_isTold wsX7_isTold) := goodIn_app (goodIn_of _ (by decide +kernel)) ggX7_pinnedOnes_X7_isTold
theorem dX7_pinnedOnes_0 : decode cX7_pinnedOnes 0 = .ok (.iconst 0, 1) := by decide +kernel
theorem dX7_pinnedOnes_1 : decode cX7_pinnedOnes 1 = .ok (.istore_n 1, 1) := by decide +kernel
theorem dX7_pinnedOnes_2 : decode cX7_pinnedOnes 2 = .ok (.iconst 1, 1) := by decide +kernel
theorem dX7_pinnedOnes_3 : decode cX7_pinnedOnes 3 = .ok (.istore_n 2, 1) := by decide +kernel
theorem dX7_pinnedOnes_4 : decode cX7_pinnedOnes 4 = .ok (.iload_n 2, 1) := by decide +kernel
theorem dX7_pinnedOnes_5 : decode cX7_pinnedOnes 5 = .ok (.bipush 15, 2) := by decide +kernel
theorem dX7_pinnedOnes_7 : decode cX7_pinnedOnes 7 = .ok (.if_icmp .gt 39, 3) := by decide +kernel
theorem dX7_pinnedOnes_10 : decode cX7_pinnedOnes 10 = .ok (.aload_n 0, 1) := by decide +kernel
theorem dX7_pinnedOnes_11 : decode cX7_pinnedOnes 11 = .ok (.getfield 79, 3) := by decide +kernel
theorem dX7_pinnedOnes_14 : decode cX7_pinnedOnes 14 = .ok (.iload_n 2, 1) := by decide +kernel
theorem dX7_pinnedOnes_15 : decode cX7_pinnedOnes 15 = .ok (.invokestatic 129, 3) := by decide +kernel
theorem dX7_pinnedOnes_18 : decode cX7_pinnedOnes 18 = .ok (.ifCond .eq 22, 3) := by decide +kernel
theorem dX7_pinnedOnes_21 : decode cX7_pinnedOnes 21 = .ok (.aload_n 0, 1) := by decide +kernel
theorem dX7_pinnedOnes_22 : decode cX7_pinnedOnes 22 = .ok (.getfield 79, 3) := by decide +kernel
theorem dX7_pinnedOnes_25 : decode cX7_pinnedOnes 25 = .ok (.iconst 3, 1) := by decide +kernel
theorem dX7_pinnedOnes_26 : decode cX7_pinnedOnes 26 = .ok (.iload_n 2, 1) := by decide +kernel
theorem dX7_pinnedOnes_27 : decode cX7_pinnedOnes 27 = .ok (.iadd, 1) := by decide +kernel
theorem dX7_pinnedOnes_28 : decode cX7_pinnedOnes 28 = .ok (.iaload, 1) := by decide +kernel
theorem dX7_pinnedOnes_29 : decode cX7_pinnedOnes 29 = .ok (.ifCond .le 11, 3) := by decide +kernel
theorem dX7_pinnedOnes_32 : decode cX7_pinnedOnes 32 = .ok (.iload_n 1, 1) := by decide +kernel
theorem dX7_pinnedOnes_33 : decode cX7_pinnedOnes 33 = .ok (.iconst 1, 1) := by decide +kernel
theorem dX7_pinnedOnes_34 : decode cX7_pinnedOnes 34 = .ok (.iload_n 2, 1) := by decide +kernel
theorem dX7_pinnedOnes_35 : decode cX7_pinnedOnes 35 = .ok (.iconst 1, 1) := by decide +kernel
theorem dX7_pinnedOnes_36 : decode cX7_pinnedOnes 36 = .ok (.isub, 1) := by decide +kernel
theorem dX7_pinnedOnes_37 : decode cX7_pinnedOnes 37 = .ok (.ishl, 1) := by decide +kernel
theorem dX7_pinnedOnes_38 : decode cX7_pinnedOnes 38 = .ok (.ior, 1) := by decide +kernel
theorem dX7_pinnedOnes_39 : decode cX7_pinnedOnes 39 = .ok (.istore_n 1, 1) := by decide +kernel
theorem dX7_pinnedOnes_40 : decode cX7_pinnedOnes 40 = .ok (.iinc 2 1, 3) := by decide +kernel
theorem dX7_pinnedOnes_43 : decode cX7_pinnedOnes 43 = .ok (.goto (-39), 3) := by decide +kernel
theorem dX7_pinnedOnes_46 : decode cX7_pinnedOnes 46 = .ok (.iload_n 1, 1) := by decide +kernel
theorem dX7_pinnedOnes_47 : decode cX7_pinnedOnes 47 = .ok (.ireturn, 1) := by decide +kernel
set_option maxRecDepth 20000 in
theorem ggX7_now_X7_pinnedOnes : GoodIn wsX7_now wsX7_pinnedOnes := goodIn_r _ [9, 2, 10, 11, 8, 12, 13, 14, 15, 16, 17, 18, 26, 27, 28, 29, 30, 31, 32, 33, 34, 35, 36, 37, 38, 39, 40, 41, 42, 43, 44, 45, 46, 47, 48, 49, 50, 51, 52, 53, 54, 55, 56] (by decide +kernel) (by decide +kernel)
set_option maxRecDepth 20000 in
theorem gX7_now_X7_pinnedOnes : GoodIn wsX7_now (wsV RX7 245 RX7 yX7_pinnedOnes wsX7_pinnedOnes) := goodIn_app (goodIn_of _ (by decide +kernel)) ggX7_now_X7_pinnedOnes
set_option maxRecDepth 20000 in
theorem ggX7_now_X7_isEven : GoodIn wsX7_now wsX7_isEven := goodIn_r _ [22, 16, 17, 8, 18, 10, 11, 12, 13, 14, 15, 23, 24, 25] (by decide +kernel) (by decide +kernel)
set_option maxRecDepth 20000 in
theorem gX7_now_X7_isEven : GoodIn wsX7_now (wsV RX7 208 RX7 yX7_isEven wsX7_isEven) := goodIn_app (goodIn_of _ (by decide +kernel)) ggX7_now_X7_isEven
theorem dX7_now_0 : decode cX7_now 0 = .ok (.aload_n 0, 1) := by decide +kernel
theorem dX7_now_1 : decode cX7_now 1 = .ok (.iconst 0, 1) := by decide +kernel
theorem dX7_now_2 : decode cX7_now 2 = .ok (.putfield 1, 3) := by decide +kernel
theorem dX7_now_5 : decode cX7_now 5 = .ok (.iload_n 1, 1) := by decide +kernel
theorem dX7_now_6 : decode cX7_now 6 = .ok (.tableswitch 95 0 6 #[42, 49, 56, 63, 68, 85, 90], 42) := by decide +kernel
theorem dX7_now_48 : decode cX7_now 48 = .ok (.aload_n 0, 1) := by decide +kernel
theorem dX7_now_49 : decode cX7_now 49 = .ok (.getfield 79, 3) := by decide +kernel
theorem dX7_now_52 : decode cX7_now 52 = .ok (.iconst 0, 1) := by decide +kernel
theorem dX7_now_53 : decode cX7_now 53 = .ok (.iaload, 1) := by decide +kernel
theorem dX7_now_54 : decode cX7_now 54 = .ok (.ireturn, 1) := by decide +kernel
theorem dX7_now_55 : decode cX7_now 55 = .ok (.aload_n 0, 1) := by decide +kernel
theorem dX7_now_56 : decode cX7_now 56 = .ok (.getfield 79, 3) := by decide +kernel
theorem dX7_now_59 : decode cX7_now 59 = .ok (.iconst 1, 1) := by decide +kernel
theorem dX7_now_60 : decode cX7_now 60 = .ok (.iaload, 1) := by decide +kernel
theorem dX7_now_61 : decode cX7_now 61 = .ok (.ireturn, 1) := by decide +kernel
theorem dX7_now_62 : decode cX7_now 62 = .ok (.aload_n 0, 1) := by decide +kernel
theorem dX7_now_63 : decode cX7_now 63 = .ok (.getfield 79, 3) := by decide +kernel
theorem dX7_now_66 : decode cX7_now 66 = .ok (.iconst 2, 1) := by decide +kernel
theorem dX7_now_67 : decode cX7_now 67 = .ok (.iaload, 1) := by decide +kernel
theorem dX7_now_68 : decode cX7_now 68 = .ok (.ireturn, 1) := by decide +kernel
theorem dX7_now_69 : decode cX7_now 69 = .ok (.aload_n 0, 1) := by decide +kernel
theorem dX7_now_70 : decode cX7_now 70 = .ok (.invokevirtual 245, 3) := by decide +kernel
theorem dX7_now_73 : decode cX7_now 73 = .ok (.ireturn, 1) := by decide +kernel
theorem dX7_now_74 : decode cX7_now 74 = .ok (.aload_n 0, 1) := by decide +kernel
theorem dX7_now_75 : decode cX7_now 75 = .ok (.aload_n 0, 1) := by decide +kernel
theorem dX7_now_76 : decode cX7_now 76 = .ok (.getfield 79, 3) := by decide +kernel
theorem dX7_now_79 : decode cX7_now 79 = .ok (.invokevirtual 208, 3) := by decide +kernel
theorem dX7_now_82 : decode cX7_now 82 = .ok (.ifCond .eq 7, 3) := by decide +kernel
theorem dX7_now_85 : decode cX7_now 85 = .ok (.iconst 1, 1) := by decide +kernel
theorem dX7_now_86 : decode cX7_now 86 = .ok (.goto 4, 3) := by decide +kernel
theorem dX7_now_89 : decode cX7_now 89 = .ok (.iconst 0, 1) := by decide +kernel
theorem dX7_now_90 : decode cX7_now 90 = .ok (.ireturn, 1) := by decide +kernel
theorem dX7_now_91 : decode cX7_now 91 = .ok (.aload_n 0, 1) := by decide +kernel
theorem dX7_now_92 : decode cX7_now 92 = .ok (.getfield 182, 3) := by decide +kernel
theorem dX7_now_95 : decode cX7_now 95 = .ok (.ireturn, 1) := by decide +kernel
theorem dX7_now_96 : decode cX7_now 96 = .ok (.aload_n 0, 1) := by decide +kernel
theorem dX7_now_97 : decode cX7_now 97 = .ok (.getfield 11, 3) := by decide +kernel
theorem dX7_now_100 : decode cX7_now 100 = .ok (.ireturn, 1) := by decide +kernel
theorem dX7_now_101 : decode cX7_now 101 = .ok (.iconst (-1), 1) := by decide +kernel
theorem dX7_now_102 : decode cX7_now 102 = .ok (.ireturn, 1) := by decide +kernel
set_option maxRecDepth 20000 in
theorem ggX7_pinned_X7_isTold : GoodIn wsX7_pinned wsX7_isTold := goodIn_r _ [6, 7, 8, 5, 9, 10, 11, 12] (by decide +kernel) (by decide +kernel)
set_option maxRecDepth 20000 in
theorem gX7_pinned_X7_isTold : GoodIn wsX7_pinned (va_wsS RX7 129 yX7_isTold wsX7_isTold) := goodIn_app (goodIn_of _ (by decide +kernel)) ggX7_pinned_X7_isTold
theorem dX7_pinned_0 : decode cX7_pinned 0 = .ok (.aload_n 0, 1) := by decide +kernel
theorem dX7_pinned_1 : decode cX7_pinned 1 = .ok (.iconst 0, 1) := by decide +kernel
theorem dX7_pinned_2 : decode cX7_pinned 2 = .ok (.putfield 1, 3) := by decide +kernel
theorem dX7_pinned_5 : decode cX7_pinned 5 = .ok (.aload_n 0, 1) := by decide +kernel
theorem dX7_pinned_6 : decode cX7_pinned 6 = .ok (.getfield 79, 3) := by decide +kernel
theorem dX7_pinned_9 : decode cX7_pinned 9 = .ok (.iload_n 1, 1) := by decide +kernel
theorem dX7_pinned_10 : decode cX7_pinned 10 = .ok (.invokestatic 129, 3) := by decide +kernel
theorem dX7_pinned_13 : decode cX7_pinned 13 = .ok (.ifCond .eq 14, 3) := by decide +kernel
theorem dX7_pinned_16 : decode cX7_pinned 16 = .ok (.aload_n 0, 1) := by decide +kernel
theorem dX7_pinned_17 : decode cX7_pinned 17 = .ok (.getfield 79, 3) := by decide +kernel
theorem dX7_pinned_20 : decode cX7_pinned 20 = .ok (.iconst 3, 1) := by decide +kernel
theorem dX7_pinned_21 : decode cX7_pinned 21 = .ok (.iload_n 1, 1) := by decide +kernel
theorem dX7_pinned_22 : decode cX7_pinned 22 = .ok (.iadd, 1) := by decide +kernel
theorem dX7_pinned_23 : decode cX7_pinned 23 = .ok (.iaload, 1) := by decide +kernel
theorem dX7_pinned_24 : decode cX7_pinned 24 = .ok (.goto 4, 3) := by decide +kernel
theorem dX7_pinned_27 : decode cX7_pinned 27 = .ok (.iconst (-1), 1) := by decide +kernel
theorem dX7_pinned_28 : decode cX7_pinned 28 = .ok (.ireturn, 1) := by decide +kernel
set_option maxRecDepth 20000 in
theorem ggX7_snap_X7_copy : GoodIn wsX7_snap wsX7_copy := goodIn_r _ [7] (by decide +kernel) (by decide +kernel)
set_option maxRecDepth 20000 in
theorem gX7_snap_X7_copy : GoodIn wsX7_snap (va_wsS RX7 178 yX7_copy wsX7_copy) := goodIn_app (goodIn_of _ (by decide +kernel)) ggX7_snap_X7_copy
theorem dX7_snap_0 : decode cX7_snap 0 = .ok (.aload_n 0, 1) := by decide +kernel
theorem dX7_snap_1 : decode cX7_snap 1 = .ok (.getfield 182, 3) := by decide +kernel
theorem dX7_snap_4 : decode cX7_snap 4 = .ok (.bipush 8, 2) := by decide +kernel
theorem dX7_snap_6 : decode cX7_snap 6 = .ok (.if_icmp .ne 43, 3) := by decide +kernel
theorem dX7_snap_9 : decode cX7_snap 9 = .ok (.iconst 0, 1) := by decide +kernel
theorem dX7_snap_10 : decode cX7_snap 10 = .ok (.istore_n 1, 1) := by decide +kernel
theorem dX7_snap_11 : decode cX7_snap 11 = .ok (.iload_n 1, 1) := by decide +kernel
theorem dX7_snap_12 : decode cX7_snap 12 = .ok (.sipush 133, 3) := by decide +kernel
theorem dX7_snap_15 : decode cX7_snap 15 = .ok (.if_icmp .ge 24, 3) := by decide +kernel
theorem dX7_snap_18 : decode cX7_snap 18 = .ok (.aload_n 0, 1) := by decide +kernel
theorem dX7_snap_19 : decode cX7_snap 19 = .ok (.getfield 88, 3) := by decide +kernel
theorem dX7_snap_22 : decode cX7_snap 22 = .ok (.iload_n 1, 1) := by decide +kernel
theorem dX7_snap_23 : decode cX7_snap 23 = .ok (.aload_n 0, 1) := by decide +kernel
theorem dX7_snap_24 : decode cX7_snap 24 = .ok (.getfield 88, 3) := by decide +kernel
theorem dX7_snap_27 : decode cX7_snap 27 = .ok (.iload_n 1, 1) := by decide +kernel
theorem dX7_snap_28 : decode cX7_snap 28 = .ok (.bipush 19, 2) := by decide +kernel
theorem dX7_snap_30 : decode cX7_snap 30 = .ok (.iadd, 1) := by decide +kernel
theorem dX7_snap_31 : decode cX7_snap 31 = .ok (.iaload, 1) := by decide +kernel
theorem dX7_snap_32 : decode cX7_snap 32 = .ok (.iastore, 1) := by decide +kernel
theorem dX7_snap_33 : decode cX7_snap 33 = .ok (.iinc 1 1, 3) := by decide +kernel
theorem dX7_snap_36 : decode cX7_snap 36 = .ok (.goto (-25), 3) := by decide +kernel
theorem dX7_snap_39 : decode cX7_snap 39 = .ok (.aload_n 0, 1) := by decide +kernel
theorem dX7_snap_40 : decode cX7_snap 40 = .ok (.dup, 1) := by decide +kernel
theorem dX7_snap_41 : decode cX7_snap 41 = .ok (.getfield 182, 3) := by decide +kernel
theorem dX7_snap_44 : decode cX7_snap 44 = .ok (.iconst 1, 1) := by decide +kernel
theorem dX7_snap_45 : decode cX7_snap 45 = .ok (.isub, 1) := by decide +kernel
theorem dX7_snap_46 : decode cX7_snap 46 = .ok (.putfield 182, 3) := by decide +kernel
theorem dX7_snap_49 : decode cX7_snap 49 = .ok (.aload_n 0, 1) := by decide +kernel
theorem dX7_snap_50 : decode cX7_snap 50 = .ok (.getfield 79, 3) := by decide +kernel
theorem dX7_snap_53 : decode cX7_snap 53 = .ok (.iconst 0, 1) := by decide +kernel
theorem dX7_snap_54 : decode cX7_snap 54 = .ok (.aload_n 0, 1) := by decide +kernel
theorem dX7_snap_55 : decode cX7_snap 55 = .ok (.getfield 88, 3) := by decide +kernel
theorem dX7_snap_58 : decode cX7_snap 58 = .ok (.bipush 19, 2) := by decide +kernel
theorem dX7_snap_60 : decode cX7_snap 60 = .ok (.aload_n 0, 1) := by decide +kernel
theorem dX7_snap_61 : decode cX7_snap 61 = .ok (.getfield 182, 3) := by decide +kernel
theorem dX7_snap_64 : decode cX7_snap 64 = .ok (.imul, 1) := by decide +kernel
theorem dX7_snap_65 : decode cX7_snap 65 = .ok (.invokestatic 178, 3) := by decide +kernel
theorem dX7_snap_68 : decode cX7_snap 68 = .ok (.aload_n 0, 1) := by decide +kernel
theorem dX7_snap_69 : decode cX7_snap 69 = .ok (.dup, 1) := by decide +kernel
theorem dX7_snap_70 : decode cX7_snap 70 = .ok (.getfield 182, 3) := by decide +kernel
theorem dX7_snap_73 : decode cX7_snap 73 = .ok (.iconst 1, 1) := by decide +kernel
theorem dX7_snap_74 : decode cX7_snap 74 = .ok (.iadd, 1) := by decide +kernel
theorem dX7_snap_75 : decode cX7_snap 75 = .ok (.putfield 182, 3) := by decide +kernel
theorem dX7_snap_78 : decode cX7_snap 78 = .ok (.return_, 1) := by decide +kernel
set_option maxRecDepth 20000 in
theorem ggX7_stay_X7_copy : GoodIn wsX7_stay wsX7_copy := goodIn_r _ [7] (by decide +kernel) (by decide +kernel)
set_option maxRecDepth 20000 in
theorem gX7_stay_X7_copy : GoodIn wsX7_stay (va_wsS RX7 178 yX7_copy wsX7_copy) := goodIn_app (goodIn_of _ (by decide +kernel)) ggX7_stay_X7_copy
set_option maxRecDepth 20000 in
theorem ggX7_stay_X7_snap : GoodIn wsX7_stay wsX7_snap := goodIn_r _ [11, 12, 13, 1, 4, 5, 6, 7, 14, 15, 16, 17, 18, 19, 20, 21, 22, 23, 24, 25, 26, 27, 28, 29, 30, 31, 32, 33, 34, 35, 36, 37, 38, 39, 40, 41, 42, 43, 44] (by decide +kernel) (by decide +kernel)
set_option maxRecDepth 20000 in
theorem gX7_stay_X7_snap : GoodIn wsX7_stay (wsV RX7 185 RX7 yX7_snap wsX7_snap) := goodIn_app (goodIn_of _ (by decide +kernel)) ggX7_stay_X7_snap
theorem dX7_stay_0 : decode cX7_stay 0 = .ok (.aload_n 0, 1) := by decide +kernel
theorem dX7_stay_1 : decode cX7_stay 1 = .ok (.getfield 79, 3) := by decide +kernel
theorem dX7_stay_4 : decode cX7_stay 4 = .ok (.iconst 0, 1) := by decide +kernel
theorem dX7_stay_5 : decode cX7_stay 5 = .ok (.aload_n 0, 1) := by decide +kernel
theorem dX7_stay_6 : decode cX7_stay 6 = .ok (.getfield 94, 3) := by decide +kernel
theorem dX7_stay_9 : decode cX7_stay 9 = .ok (.iconst 0, 1) := by decide +kernel
theorem dX7_stay_10 : decode cX7_stay 10 = .ok (.invokestatic 178, 3) := by decide +kernel
theorem dX7_stay_13 : decode cX7_stay 13 = .ok (.aload_n 0, 1) := by decide +kernel
theorem dX7_stay_14 : decode cX7_stay 14 = .ok (.getfield 91, 3) := by decide +kernel
theorem dX7_stay_17 : decode cX7_stay 17 = .ok (.iconst 0, 1) := by decide +kernel
theorem dX7_stay_18 : decode cX7_stay 18 = .ok (.aload_n 0, 1) := by decide +kernel
theorem dX7_stay_19 : decode cX7_stay 19 = .ok (.getfield 79, 3) := by decide +kernel
theorem dX7_stay_22 : decode cX7_stay 22 = .ok (.iconst 0, 1) := by decide +kernel
theorem dX7_stay_23 : decode cX7_stay 23 = .ok (.invokestatic 178, 3) := by decide +kernel
theorem dX7_stay_26 : decode cX7_stay 26 = .ok (.aload_n 0, 1) := by decide +kernel
theorem dX7_stay_27 : decode cX7_stay 27 = .ok (.invokevirtual 185, 3) := by decide +kernel
theorem dX7_stay_30 : decode cX7_stay 30 = .ok (.aload_n 0, 1) := by decide +kernel
theorem dX7_stay_31 : decode cX7_stay 31 = .ok (.getfield 94, 3) := by decide +kernel
theorem dX7_stay_34 : decode cX7_stay 34 = .ok (.iconst 0, 1) := by decide +kernel
theorem dX7_stay_35 : decode cX7_stay 35 = .ok (.aload_n 0, 1) := by decide +kernel
theorem dX7_stay_36 : decode cX7_stay 36 = .ok (.getfield 79, 3) := by decide +kernel
theorem dX7_stay_39 : decode cX7_stay 39 = .ok (.iconst 0, 1) := by decide +kernel
theorem dX7_stay_40 : decode cX7_stay 40 = .ok (.invokestatic 178, 3) := by decide +kernel
theorem dX7_stay_43 : decode cX7_stay 43 = .ok (.return_, 1) := by decide +kernel
set_option maxRecDepth 20000 in
theorem ggX7_mayHole_X7_isIn : GoodIn wsX7_mayHole wsX7_isIn := goodIn_r _ [5] (by decide +kernel) (by decide +kernel)
set_option maxRecDepth 20000 in
theorem gX7_mayHole_X7_isIn : GoodIn wsX7_mayHole (va_wsS RX7 69 yX7_isIn wsX7_isIn) := goodIn_app (goodIn_of _ (by decide +kernel)) ggX7_mayHole_X7_isIn
set_option maxRecDepth 20000 in
theorem ggX7_mayHole_X7_has : GoodIn wsX7_mayHole wsX7_has := goodIn_r _ [8] (by decide +kernel) (by decide +kernel)
set_option maxRecDepth 20000 in
theorem gX7_mayHole_X7_has : GoodIn wsX7_mayHole (va_wsS RX7 125 yX7_has wsX7_has) := goodIn_app (goodIn_of _ (by decide +kernel)) ggX7_mayHole_X7_has
set_option maxRecDepth 20000 in
theorem ggX7_mayHole_X7_pins : GoodIn wsX7_mayHole wsX7_pins := goodIn_r _ [11, 12, 13, 4, 14, 2, 3, 5, 6, 7, 8] (by decide +kernel) (by decide +kernel)
set_option maxRecDepth 20000 in
theorem gX7_mayHole_X7_pins : GoodIn wsX7_mayHole (va_wsS RX7 133 yX7_pins wsX7_pins) := goodIn_app (goodIn_of _ (by decide +kernel)) ggX7_mayHole_X7_pins
theorem dX7_mayHole_0 : decode cX7_mayHole 0 = .ok (.iload_n 1, 1) := by decide +kernel
theorem dX7_mayHole_1 : decode cX7_mayHole 1 = .ok (.iconst 1, 1) := by decide +kernel
theorem dX7_mayHole_2 : decode cX7_mayHole 2 = .ok (.aload_n 0, 1) := by decide +kernel
theorem dX7_mayHole_3 : decode cX7_mayHole 3 = .ok (.getfield 79, 3) := by decide +kernel
theorem dX7_mayHole_6 : decode cX7_mayHole 6 = .ok (.iconst 0, 1) := by decide +kernel
theorem dX7_mayHole_7 : decode cX7_mayHole 7 = .ok (.iaload, 1) := by decide +kernel
theorem dX7_mayHole_8 : decode cX7_mayHole 8 = .ok (.invokestatic 69, 3) := by decide +kernel
theorem dX7_mayHole_11 : decode cX7_mayHole 11 = .ok (.ifCond .eq 40, 3) := by decide +kernel
theorem dX7_mayHole_14 : decode cX7_mayHole 14 = .ok (.aload_n 0, 1) := by decide +kernel
theorem dX7_mayHole_15 : decode cX7_mayHole 15 = .ok (.getfield 79, 3) := by decide +kernel
theorem dX7_mayHole_18 : decode cX7_mayHole 18 = .ok (.iconst 1, 1) := by decide +kernel
theorem dX7_mayHole_19 : decode cX7_mayHole 19 = .ok (.iaload, 1) := by decide +kernel
theorem dX7_mayHole_20 : decode cX7_mayHole 20 = .ok (.iload_n 1, 1) := by decide +kernel
theorem dX7_mayHole_21 : decode cX7_mayHole 21 = .ok (.iconst 1, 1) := by decide +kernel
theorem dX7_mayHole_22 : decode cX7_mayHole 22 = .ok (.isub, 1) := by decide +kernel
theorem dX7_mayHole_23 : decode cX7_mayHole 23 = .ok (.invokestatic 125, 3) := by decide +kernel
theorem dX7_mayHole_26 : decode cX7_mayHole 26 = .ok (.iload_n 2, 1) := by decide +kernel
theorem dX7_mayHole_27 : decode cX7_mayHole 27 = .ok (.if_icmp .eq 24, 3) := by decide +kernel
theorem dX7_mayHole_30 : decode cX7_mayHole 30 = .ok (.aload_n 0, 1) := by decide +kernel
theorem dX7_mayHole_31 : decode cX7_mayHole 31 = .ok (.getfield 79, 3) := by decide +kernel
theorem dX7_mayHole_34 : decode cX7_mayHole 34 = .ok (.iconst 0, 1) := by decide +kernel
theorem dX7_mayHole_35 : decode cX7_mayHole 35 = .ok (.invokestatic 133, 3) := by decide +kernel
theorem dX7_mayHole_38 : decode cX7_mayHole 38 = .ok (.iload_n 1, 1) := by decide +kernel
theorem dX7_mayHole_39 : decode cX7_mayHole 39 = .ok (.iconst 1, 1) := by decide +kernel
theorem dX7_mayHole_40 : decode cX7_mayHole 40 = .ok (.isub, 1) := by decide +kernel
theorem dX7_mayHole_41 : decode cX7_mayHole 41 = .ok (.invokestatic 125, 3) := by decide +kernel
theorem dX7_mayHole_44 : decode cX7_mayHole 44 = .ok (.ifCond .ne 7, 3) := by decide +kernel
theorem dX7_mayHole_47 : decode cX7_mayHole 47 = .ok (.iconst 1, 1) := by decide +kernel
theorem dX7_mayHole_48 : decode cX7_mayHole 48 = .ok (.goto 4, 3) := by decide +kernel
theorem dX7_mayHole_51 : decode cX7_mayHole 51 = .ok (.iconst 0, 1) := by decide +kernel
theorem dX7_mayHole_52 : decode cX7_mayHole 52 = .ok (.ireturn, 1) := by decide +kernel
set_option maxRecDepth 20000 in
theorem ggX7_hole_X7_mayHole : GoodIn wsX7_hole wsX7_mayHole := goodIn_r _ [7, 2, 8, 9, 6, 10, 11, 12, 13, 14, 15, 16, 17, 18, 19, 32, 33, 34, 35, 36, 37, 38, 39, 40, 41, 42, 43, 44, 45, 46, 47, 48, 49, 50, 51, 52, 53, 54, 55, 56, 57, 58, 59, 60, 61, 62] (by decide +kernel) (by decide +kernel)
set_option maxRecDepth 20000 in
theorem gX7_hole_X7_mayHole : GoodIn wsX7_hole (wsV RX7 248 RX7 yX7_mayHole wsX7_mayHole) := goodIn_app (goodIn_of _ (by decide +kernel)) ggX7_hole_X7_mayHole
set_option maxRecDepth 20000 in
theorem ggX7_hole_X7_snap : GoodIn wsX7_hole wsX7_snap := goodIn_r _ [23, 24, 25, 2, 26, 27, 6, 28, 32, 33, 34, 35, 36, 37, 38, 39, 40, 41, 42, 43, 44, 45, 46, 47, 48, 49, 50, 51, 52, 53, 54, 55, 56, 57, 58, 59, 60, 61, 62] (by decide +kernel) (by decide +kernel)
set_option maxRecDepth 20000 in
theorem gX7_hole_X7_snap : GoodIn wsX7_hole (wsV RX7 185 RX7 yX7_snap wsX7_snap) := goodIn_app (goodIn_of _ (by decide +kernel)) ggX7_hole_X7_snap
set_option maxRecDepth 20000 in
theorem ggX7_hole_X7_bits : GoodIn wsX7_hole wsX7_bits := goodIn_r _ [31] (by decide +kernel) (by decide +kernel)
set_option maxRecDepth 20000 in
theorem gX7_hole_X7_bits : GoodIn wsX7_hole (va_wsS RX7 143 yX7_bits wsX7_bits) := goodIn_app (goodIn_of _ (by decide +kernel)) ggX7_hole_X7_bits
theorem dX7_hole_0 : decode cX7_hole 0 = .ok (.aload_n 0, 1) := by decide +kernel
theorem dX7_hole_1 : decode cX7_hole 1 = .ok (.iconst 0, 1) := by decide +kernel
theorem dX7_hole_2 : decode cX7_hole 2 = .ok (.putfield 1, 3) := by decide +kernel
theorem dX7_hole_5 : decode cX7_hole 5 = .ok (.aload_n 0, 1) := by decide +kernel
theorem dX7_hole_6 : decode cX7_hole 6 = .ok (.iload_n 1, 1) := by decide +kernel
theorem dX7_hole_7 : decode cX7_hole 7 = .ok (.iload_n 2, 1) := by decide +kernel
theorem dX7_hole_8 : decode cX7_hole 8 = .ok (.invokevirtual 248, 3) := by decide +kernel
theorem dX7_hole_11 : decode cX7_hole 11 = .ok (.ifCond .ne 5, 3) := by decide +kernel
theorem dX7_hole_14 : decode cX7_hole 14 = .ok (.iconst (-1), 1) := by decide +kernel
theorem dX7_hole_15 : decode cX7_hole 15 = .ok (.ireturn, 1) := by decide +kernel
theorem dX7_hole_16 : decode cX7_hole 16 = .ok (.aload_n 0, 1) := by decide +kernel
theorem dX7_hole_17 : decode cX7_hole 17 = .ok (.invokevirtual 185, 3) := by decide +kernel
theorem dX7_hole_20 : decode cX7_hole 20 = .ok (.aload_n 0, 1) := by decide +kernel
theorem dX7_hole_21 : decode cX7_hole 21 = .ok (.getfield 79, 3) := by decide +kernel
theorem dX7_hole_24 : decode cX7_hole 24 = .ok (.iconst 1, 1) := by decide +kernel
theorem dX7_hole_25 : decode cX7_hole 25 = .ok (.dup2, 1) := by decide +kernel
theorem dX7_hole_26 : decode cX7_hole 26 = .ok (.iaload, 1) := by decide +kernel
theorem dX7_hole_27 : decode cX7_hole 27 = .ok (.iconst 1, 1) := by decide +kernel
theorem dX7_hole_28 : decode cX7_hole 28 = .ok (.iload_n 1, 1) := by decide +kernel
theorem dX7_hole_29 : decode cX7_hole 29 = .ok (.iconst 1, 1) := by decide +kernel
theorem dX7_hole_30 : decode cX7_hole 30 = .ok (.isub, 1) := by decide +kernel
theorem dX7_hole_31 : decode cX7_hole 31 = .ok (.ishl, 1) := by decide +kernel
theorem dX7_hole_32 : decode cX7_hole 32 = .ok (.ixor, 1) := by decide +kernel
theorem dX7_hole_33 : decode cX7_hole 33 = .ok (.iastore, 1) := by decide +kernel
theorem dX7_hole_34 : decode cX7_hole 34 = .ok (.aload_n 0, 1) := by decide +kernel
theorem dX7_hole_35 : decode cX7_hole 35 = .ok (.getfield 79, 3) := by decide +kernel
theorem dX7_hole_38 : decode cX7_hole 38 = .ok (.iconst 1, 1) := by decide +kernel
theorem dX7_hole_39 : decode cX7_hole 39 = .ok (.iaload, 1) := by decide +kernel
theorem dX7_hole_40 : decode cX7_hole 40 = .ok (.invokestatic 143, 3) := by decide +kernel
theorem dX7_hole_43 : decode cX7_hole 43 = .ok (.ireturn, 1) := by decide +kernel
set_option maxRecDepth 20000 in
theorem ggX7_mayPair_X7_isIn : GoodIn wsX7_mayPair wsX7_isIn := goodIn_r _ [5] (by decide +kernel) (by decide +kernel)
set_option maxRecDepth 20000 in
theorem gX7_mayPair_X7_isIn : GoodIn wsX7_mayPair (va_wsS RX7 69 yX7_isIn wsX7_isIn) := goodIn_app (goodIn_of _ (by decide +kernel)) ggX7_mayPair_X7_isIn
set_option maxRecDepth 20000 in
theorem ggX7_mayPair_X7_isTold : GoodIn wsX7_mayPair wsX7_isTold := goodIn_r _ [8, 2, 3, 4, 5, 9, 10, 11] (by decide +kernel) (by decide +kernel)
set_option maxRecDepth 20000 in
theorem gX7_mayPair_X7_isTold : GoodIn wsX7_mayPair (va_wsS RX7 129 yX7_isTold wsX7_isTold) := goodIn_app (goodIn_of _ (by decide +kernel)) ggX7_mayPair_X7_isTold
set_option maxRecDepth 20000 in
theorem ggX7_mayPair_X7_bits : GoodIn wsX7_mayPair wsX7_bits := goodIn_r _ [14] (by decide +kernel) (by decide +kernel)
set_option maxRecDepth 20000 in
theorem gX7_mayPair_X7_bits : GoodIn wsX7_mayPair (va_wsS RX7 143 yX7_bits wsX7_bits) := goodIn_app (goodIn_of _ (by decide +kernel)) ggX7_mayPair_X7_bits
theorem dX7_mayPair_0 : decode cX7_mayPair 0 = .ok (.iload_n 1, 1) := by decide +kernel
theorem dX7_mayPair_1 : decode cX7_mayPair 1 = .ok (.iconst 1, 1) := by decide +kernel
theorem dX7_mayPair_2 : decode cX7_mayPair 2 = .ok (.bipush 15, 2) := by decide +kernel
theorem dX7_mayPair_4 : decode cX7_mayPair 4 = .ok (.invokestatic 69, 3) := by decide +kernel
theorem dX7_mayPair_7 : decode cX7_mayPair 7 = .ok (.ifCond .eq 37, 3) := by decide +kernel
theorem dX7_mayPair_10 : decode cX7_mayPair 10 = .ok (.aload_n 0, 1) := by decide +kernel
theorem dX7_mayPair_11 : decode cX7_mayPair 11 = .ok (.getfield 79, 3) := by decide +kernel
theorem dX7_mayPair_14 : decode cX7_mayPair 14 = .ok (.iload_n 1, 1) := by decide +kernel
theorem dX7_mayPair_15 : decode cX7_mayPair 15 = .ok (.invokestatic 129, 3) := by decide +kernel
theorem dX7_mayPair_18 : decode cX7_mayPair 18 = .ok (.iload_n 2, 1) := by decide +kernel
theorem dX7_mayPair_19 : decode cX7_mayPair 19 = .ok (.if_icmp .eq 25, 3) := by decide +kernel
theorem dX7_mayPair_22 : decode cX7_mayPair 22 = .ok (.iload_n 2, 1) := by decide +kernel
theorem dX7_mayPair_23 : decode cX7_mayPair 23 = .ok (.ifCond .eq 17, 3) := by decide +kernel
theorem dX7_mayPair_26 : decode cX7_mayPair 26 = .ok (.aload_n 0, 1) := by decide +kernel
theorem dX7_mayPair_27 : decode cX7_mayPair 27 = .ok (.getfield 79, 3) := by decide +kernel
theorem dX7_mayPair_30 : decode cX7_mayPair 30 = .ok (.iconst 2, 1) := by decide +kernel
theorem dX7_mayPair_31 : decode cX7_mayPair 31 = .ok (.iaload, 1) := by decide +kernel
theorem dX7_mayPair_32 : decode cX7_mayPair 32 = .ok (.invokestatic 143, 3) := by decide +kernel
theorem dX7_mayPair_35 : decode cX7_mayPair 35 = .ok (.bipush 9, 2) := by decide +kernel
theorem dX7_mayPair_37 : decode cX7_mayPair 37 = .ok (.if_icmp .ge 7, 3) := by decide +kernel
theorem dX7_mayPair_40 : decode cX7_mayPair 40 = .ok (.iconst 1, 1) := by decide +kernel
theorem dX7_mayPair_41 : decode cX7_mayPair 41 = .ok (.goto 4, 3) := by decide +kernel
theorem dX7_mayPair_44 : decode cX7_mayPair 44 = .ok (.iconst 0, 1) := by decide +kernel
theorem dX7_mayPair_45 : decode cX7_mayPair 45 = .ok (.ireturn, 1) := by decide +kernel
theorem dX7_turns_0 : decode cX7_turns 0 = .ok (.aload_n 0, 1) := by decide +kernel
theorem dX7_turns_1 : decode cX7_turns 1 = .ok (.getfield 79, 3) := by decide +kernel
theorem dX7_turns_4 : decode cX7_turns 4 = .ok (.iconst 2, 1) := by decide +kernel
theorem dX7_turns_5 : decode cX7_turns 5 = .ok (.dup2, 1) := by decide +kernel
theorem dX7_turns_6 : decode cX7_turns 6 = .ok (.iaload, 1) := by decide +kernel
theorem dX7_turns_7 : decode cX7_turns 7 = .ok (.iconst 1, 1) := by decide +kernel
theorem dX7_turns_8 : decode cX7_turns 8 = .ok (.iload_n 1, 1) := by decide +kernel
theorem dX7_turns_9 : decode cX7_turns 9 = .ok (.iconst 1, 1) := by decide +kernel
theorem dX7_turns_10 : decode cX7_turns 10 = .ok (.isub, 1) := by decide +kernel
theorem dX7_turns_11 : decode cX7_turns 11 = .ok (.ishl, 1) := by decide +kernel
theorem dX7_turns_12 : decode cX7_turns 12 = .ok (.ixor, 1) := by decide +kernel
theorem dX7_turns_13 : decode cX7_turns 13 = .ok (.iastore, 1) := by decide +kernel
theorem dX7_turns_14 : decode cX7_turns 14 = .ok (.aload_n 0, 1) := by decide +kernel
theorem dX7_turns_15 : decode cX7_turns 15 = .ok (.getfield 79, 3) := by decide +kernel
theorem dX7_turns_18 : decode cX7_turns 18 = .ok (.iconst 3, 1) := by decide +kernel
theorem dX7_turns_19 : decode cX7_turns 19 = .ok (.iload_n 1, 1) := by decide +kernel
theorem dX7_turns_20 : decode cX7_turns 20 = .ok (.iadd, 1) := by decide +kernel
theorem dX7_turns_21 : decode cX7_turns 21 = .ok (.iconst 0, 1) := by decide +kernel
theorem dX7_turns_22 : decode cX7_turns 22 = .ok (.iastore, 1) := by decide +kernel
theorem dX7_turns_23 : decode cX7_turns 23 = .ok (.return_, 1) := by decide +kernel
set_option maxRecDepth 20000 in
theorem ggX7_pair_X7_mayPair : GoodIn wsX7_pair wsX7_mayPair := goodIn_r _ [7, 2, 8, 9, 6, 10, 11, 12, 13, 14, 15, 16, 17, 18, 19, 33, 34, 35, 36, 37, 38, 39, 40, 41, 42, 43, 44, 45, 46, 47, 48, 49, 50, 51, 52, 53, 54, 55, 56, 57, 58, 59, 60, 61, 62, 63] (by decide +kernel) (by decide +kernel)
set_option maxRecDepth 20000 in
theorem gX7_pair_X7_mayPair : GoodIn wsX7_pair (wsV RX7 252 RX7 yX7_mayPair wsX7_mayPair) := goodIn_app (goodIn_of _ (by decide +kernel)) ggX7_pair_X7_mayPair
set_option maxRecDepth 20000 in
theorem ggX7_pair_X7_snap : GoodIn wsX7_pair wsX7_snap := goodIn_r _ [23, 24, 25, 2, 26, 27, 6, 28, 33, 34, 35, 36, 37, 38, 39, 40, 41, 42, 43, 44, 45, 46, 47, 48, 49, 50, 51, 52, 53, 54, 55, 56, 57, 58, 59, 60, 61, 62, 63] (by decide +kernel) (by decide +kernel)
set_option maxRecDepth 20000 in
theorem gX7_pair_X7_snap : GoodIn wsX7_pair (wsV RX7 185 RX7 yX7_snap wsX7_snap) := goodIn_app (goodIn_of _ (by decide +kernel)) ggX7_pair_X7_snap
set_option maxRecDepth 20000 in
theorem ggX7_pair_X7_turns : GoodIn wsX7_pair wsX7_turns := goodIn_r _ [32, 2, 33, 34, 35, 36, 37, 38, 39, 40, 41, 42, 43, 44, 45, 46, 47, 48, 49, 50, 51, 52, 53, 54, 55, 56, 57, 58, 59, 60, 61, 62, 63] (by decide +kernel) (by decide +kernel)
set_option maxRecDepth 20000 in
theorem gX7_pair_X7_turns : GoodIn wsX7_pair (wsV RX7 255 RX7 yX7_turns wsX7_turns) := goodIn_app (goodIn_of _ (by decide +kernel)) ggX7_pair_X7_turns
set_option maxRecDepth 20000 in
theorem ggX7_pair_X7_bits : GoodIn wsX7_pair wsX7_bits := goodIn_r _ [19] (by decide +kernel) (by decide +kernel)
set_option maxRecDepth 20000 in
theorem gX7_pair_X7_bits : GoodIn wsX7_pair (va_wsS RX7 143 yX7_bits wsX7_bits) := goodIn_app (goodIn_of _ (by decide +kernel)) ggX7_pair_X7_bits
theorem dX7_pair_0 : decode cX7_pair 0 = .ok (.aload_n 0, 1) := by decide +kernel
theorem dX7_pair_1 : decode cX7_pair 1 = .ok (.iconst 0, 1) := by decide +kernel
theorem dX7_pair_2 : decode cX7_pair 2 = .ok (.putfield 1, 3) := by decide +kernel
theorem dX7_pair_5 : decode cX7_pair 5 = .ok (.aload_n 0, 1) := by decide +kernel
theorem dX7_pair_6 : decode cX7_pair 6 = .ok (.iload_n 1, 1) := by decide +kernel
theorem dX7_pair_7 : decode cX7_pair 7 = .ok (.iload_n 2, 1) := by decide +kernel
theorem dX7_pair_8 : decode cX7_pair 8 = .ok (.invokevirtual 252, 3) := by decide +kernel
theorem dX7_pair_11 : decode cX7_pair 11 = .ok (.ifCond .ne 5, 3) := by decide +kernel
theorem dX7_pair_14 : decode cX7_pair 14 = .ok (.iconst (-1), 1) := by decide +kernel
theorem dX7_pair_15 : decode cX7_pair 15 = .ok (.ireturn, 1) := by decide +kernel
theorem dX7_pair_16 : decode cX7_pair 16 = .ok (.aload_n 0, 1) := by decide +kernel
theorem dX7_pair_17 : decode cX7_pair 17 = .ok (.invokevirtual 185, 3) := by decide +kernel
theorem dX7_pair_20 : decode cX7_pair 20 = .ok (.aload_n 0, 1) := by decide +kernel
theorem dX7_pair_21 : decode cX7_pair 21 = .ok (.iload_n 1, 1) := by decide +kernel
theorem dX7_pair_22 : decode cX7_pair 22 = .ok (.invokevirtual 255, 3) := by decide +kernel
theorem dX7_pair_25 : decode cX7_pair 25 = .ok (.aload_n 0, 1) := by decide +kernel
theorem dX7_pair_26 : decode cX7_pair 26 = .ok (.getfield 79, 3) := by decide +kernel
theorem dX7_pair_29 : decode cX7_pair 29 = .ok (.iconst 2, 1) := by decide +kernel
theorem dX7_pair_30 : decode cX7_pair 30 = .ok (.iaload, 1) := by decide +kernel
theorem dX7_pair_31 : decode cX7_pair 31 = .ok (.invokestatic 143, 3) := by decide +kernel
theorem dX7_pair_34 : decode cX7_pair 34 = .ok (.ireturn, 1) := by decide +kernel
set_option maxRecDepth 20000 in
theorem ggX7_pin_X7_isTold : GoodIn wsX7_pin wsX7_isTold := goodIn_r _ [6, 7, 8, 5, 9, 10, 11, 12] (by decide +kernel) (by decide +kernel)
set_option maxRecDepth 20000 in
theorem gX7_pin_X7_isTold : GoodIn wsX7_pin (va_wsS RX7 129 yX7_isTold wsX7_isTold) := goodIn_app (goodIn_of _ (by decide +kernel)) ggX7_pin_X7_isTold
set_option maxRecDepth 20000 in
theorem ggX7_pin_X7_isIn : GoodIn wsX7_pin wsX7_isIn := goodIn_r _ [9] (by decide +kernel) (by decide +kernel)
set_option maxRecDepth 20000 in
theorem gX7_pin_X7_isIn : GoodIn wsX7_pin (va_wsS RX7 69 yX7_isIn wsX7_isIn) := goodIn_app (goodIn_of _ (by decide +kernel)) ggX7_pin_X7_isIn
set_option maxRecDepth 20000 in
theorem ggX7_pin_X7_mayPin : GoodIn wsX7_pin wsX7_mayPin := goodIn_r _ [15, 16, 17, 5, 18, 3, 4, 6, 7, 8, 9, 10, 11, 12] (by decide +kernel) (by decide +kernel)
set_option maxRecDepth 20000 in
theorem gX7_pin_X7_mayPin : GoodIn wsX7_pin (va_wsS RX7 150 yX7_mayPin wsX7_mayPin) := goodIn_app (goodIn_of _ (by decide +kernel)) ggX7_pin_X7_mayPin
set_option maxRecDepth 20000 in
theorem ggX7_pin_X7_snap : GoodIn wsX7_pin wsX7_snap := goodIn_r _ [22, 23, 24, 2, 25, 26, 5, 27, 28, 29, 30, 31, 32, 33, 34, 35, 36, 37, 38, 39, 40, 41, 42, 43, 44, 45, 46, 47, 48, 49, 50, 51, 52, 53, 54, 55, 56, 57, 58] (by decide +kernel) (by decide +kernel)
set_option maxRecDepth 20000 in
theorem gX7_pin_X7_snap : GoodIn wsX7_pin (wsV RX7 185 RX7 yX7_snap wsX7_snap) := goodIn_app (goodIn_of _ (by decide +kernel)) ggX7_pin_X7_snap
theorem dX7_pin_0 : decode cX7_pin 0 = .ok (.aload_n 0, 1) := by decide +kernel
theorem dX7_pin_1 : decode cX7_pin 1 = .ok (.iconst 0, 1) := by decide +kernel
theorem dX7_pin_2 : decode cX7_pin 2 = .ok (.putfield 1, 3) := by decide +kernel
theorem dX7_pin_5 : decode cX7_pin 5 = .ok (.aload_n 0, 1) := by decide +kernel
theorem dX7_pin_6 : decode cX7_pin 6 = .ok (.getfield 79, 3) := by decide +kernel
theorem dX7_pin_9 : decode cX7_pin 9 = .ok (.iload_n 1, 1) := by decide +kernel
theorem dX7_pin_10 : decode cX7_pin 10 = .ok (.invokestatic 129, 3) := by decide +kernel
theorem dX7_pin_13 : decode cX7_pin 13 = .ok (.ifCond .eq 23, 3) := by decide +kernel
theorem dX7_pin_16 : decode cX7_pin 16 = .ok (.iload_n 2, 1) := by decide +kernel
theorem dX7_pin_17 : decode cX7_pin 17 = .ok (.ifCond .eq 21, 3) := by decide +kernel
theorem dX7_pin_20 : decode cX7_pin 20 = .ok (.iload_n 2, 1) := by decide +kernel
theorem dX7_pin_21 : decode cX7_pin 21 = .ok (.iconst 1, 1) := by decide +kernel
theorem dX7_pin_22 : decode cX7_pin 22 = .ok (.aload_n 0, 1) := by decide +kernel
theorem dX7_pin_23 : decode cX7_pin 23 = .ok (.getfield 79, 3) := by decide +kernel
theorem dX7_pin_26 : decode cX7_pin 26 = .ok (.iconst 0, 1) := by decide +kernel
theorem dX7_pin_27 : decode cX7_pin 27 = .ok (.iaload, 1) := by decide +kernel
theorem dX7_pin_28 : decode cX7_pin 28 = .ok (.iload_n 1, 1) := by decide +kernel
theorem dX7_pin_29 : decode cX7_pin 29 = .ok (.isub, 1) := by decide +kernel
theorem dX7_pin_30 : decode cX7_pin 30 = .ok (.invokestatic 69, 3) := by decide +kernel
theorem dX7_pin_33 : decode cX7_pin 33 = .ok (.ifCond .ne 5, 3) := by decide +kernel
theorem dX7_pin_36 : decode cX7_pin 36 = .ok (.iconst (-1), 1) := by decide +kernel
theorem dX7_pin_37 : decode cX7_pin 37 = .ok (.ireturn, 1) := by decide +kernel
theorem dX7_pin_38 : decode cX7_pin 38 = .ok (.aload_n 0, 1) := by decide +kernel
theorem dX7_pin_39 : decode cX7_pin 39 = .ok (.getfield 79, 3) := by decide +kernel
theorem dX7_pin_42 : decode cX7_pin 42 = .ok (.iconst 3, 1) := by decide +kernel
theorem dX7_pin_43 : decode cX7_pin 43 = .ok (.iload_n 1, 1) := by decide +kernel
theorem dX7_pin_44 : decode cX7_pin 44 = .ok (.iadd, 1) := by decide +kernel
theorem dX7_pin_45 : decode cX7_pin 45 = .ok (.iaload, 1) := by decide +kernel
theorem dX7_pin_46 : decode cX7_pin 46 = .ok (.iload_n 2, 1) := by decide +kernel
theorem dX7_pin_47 : decode cX7_pin 47 = .ok (.if_icmp .ne 5, 3) := by decide +kernel
theorem dX7_pin_50 : decode cX7_pin 50 = .ok (.iconst 1, 1) := by decide +kernel
theorem dX7_pin_51 : decode cX7_pin 51 = .ok (.ireturn, 1) := by decide +kernel
theorem dX7_pin_52 : decode cX7_pin 52 = .ok (.iload_n 2, 1) := by decide +kernel
theorem dX7_pin_53 : decode cX7_pin 53 = .ok (.ifCond .le 17, 3) := by decide +kernel
theorem dX7_pin_56 : decode cX7_pin 56 = .ok (.aload_n 0, 1) := by decide +kernel
theorem dX7_pin_57 : decode cX7_pin 57 = .ok (.getfield 79, 3) := by decide +kernel
theorem dX7_pin_60 : decode cX7_pin 60 = .ok (.iload_n 1, 1) := by decide +kernel
theorem dX7_pin_61 : decode cX7_pin 61 = .ok (.iload_n 2, 1) := by decide +kernel
theorem dX7_pin_62 : decode cX7_pin 62 = .ok (.invokestatic 150, 3) := by decide +kernel
theorem dX7_pin_65 : decode cX7_pin 65 = .ok (.ifCond .ne 5, 3) := by decide +kernel
theorem dX7_pin_68 : decode cX7_pin 68 = .ok (.iconst 2, 1) := by decide +kernel
theorem dX7_pin_69 : decode cX7_pin 69 = .ok (.ireturn, 1) := by decide +kernel
theorem dX7_pin_70 : decode cX7_pin 70 = .ok (.aload_n 0, 1) := by decide +kernel
theorem dX7_pin_71 : decode cX7_pin 71 = .ok (.invokevirtual 185, 3) := by decide +kernel
theorem dX7_pin_74 : decode cX7_pin 74 = .ok (.aload_n 0, 1) := by decide +kernel
theorem dX7_pin_75 : decode cX7_pin 75 = .ok (.getfield 79, 3) := by decide +kernel
theorem dX7_pin_78 : decode cX7_pin 78 = .ok (.iconst 3, 1) := by decide +kernel
theorem dX7_pin_79 : decode cX7_pin 79 = .ok (.iload_n 1, 1) := by decide +kernel
theorem dX7_pin_80 : decode cX7_pin 80 = .ok (.iadd, 1) := by decide +kernel
theorem dX7_pin_81 : decode cX7_pin 81 = .ok (.iload_n 2, 1) := by decide +kernel
theorem dX7_pin_82 : decode cX7_pin 82 = .ok (.iastore, 1) := by decide +kernel
theorem dX7_pin_83 : decode cX7_pin 83 = .ok (.iconst 0, 1) := by decide +kernel
theorem dX7_pin_84 : decode cX7_pin 84 = .ok (.ireturn, 1) := by decide +kernel
theorem dX7_draw_0 : decode cX7_draw 0 = .ok (.aload_n 0, 1) := by decide +kernel
theorem dX7_draw_1 : decode cX7_draw 1 = .ok (.aload_n 0, 1) := by decide +kernel
theorem dX7_draw_2 : decode cX7_draw 2 = .ok (.getfield 258, 3) := by decide +kernel
theorem dX7_draw_5 : decode cX7_draw 5 = .ok (.ldc_w 261, 3) := by decide +kernel
theorem dX7_draw_8 : decode cX7_draw 8 = .ok (.imul, 1) := by decide +kernel
theorem dX7_draw_9 : decode cX7_draw 9 = .ok (.sipush 12345, 3) := by decide +kernel
theorem dX7_draw_12 : decode cX7_draw 12 = .ok (.iadd, 1) := by decide +kernel
theorem dX7_draw_13 : decode cX7_draw 13 = .ok (.putfield 258, 3) := by decide +kernel
theorem dX7_draw_16 : decode cX7_draw 16 = .ok (.aload_n 0, 1) := by decide +kernel
theorem dX7_draw_17 : decode cX7_draw 17 = .ok (.getfield 258, 3) := by decide +kernel
theorem dX7_draw_20 : decode cX7_draw 20 = .ok (.bipush 8, 2) := by decide +kernel
theorem dX7_draw_22 : decode cX7_draw 22 = .ok (.iushr, 1) := by decide +kernel
theorem dX7_draw_23 : decode cX7_draw 23 = .ok (.iload_n 1, 1) := by decide +kernel
theorem dX7_draw_24 : decode cX7_draw 24 = .ok (.irem, 1) := by decide +kernel
theorem dX7_draw_25 : decode cX7_draw 25 = .ok (.ireturn, 1) := by decide +kernel
set_option maxRecDepth 20000 in
theorem ggX7_distance_X7_isTold : GoodIn wsX7_distance wsX7_isTold := goodIn_r _ [5, 6, 7, 4, 8, 9, 10, 11] (by decide +kernel) (by decide +kernel)
set_option maxRecDepth 20000 in
theorem gX7_distance_X7_isTold : GoodIn wsX7_distance (va_wsS RX7 129 yX7_isTold wsX7_isTold) := goodIn_app (goodIn_of _ (by decide +kernel)) ggX7_distance_X7_isTold
theorem dX7_distance_0 : decode cX7_distance 0 = .ok (.iload_n 1, 1) := by decide +kernel
theorem dX7_distance_1 : decode cX7_distance 1 = .ok (.istore_n 2, 1) := by decide +kernel
theorem dX7_distance_2 : decode cX7_distance 2 = .ok (.iconst 1, 1) := by decide +kernel
theorem dX7_distance_3 : decode cX7_distance 3 = .ok (.istore_n 3, 1) := by decide +kernel
theorem dX7_distance_4 : decode cX7_distance 4 = .ok (.aload_n 0, 1) := by decide +kernel
theorem dX7_distance_5 : decode cX7_distance 5 = .ok (.getfield 79, 3) := by decide +kernel
theorem dX7_distance_8 : decode cX7_distance 8 = .ok (.iload_n 3, 1) := by decide +kernel
theorem dX7_distance_9 : decode cX7_distance 9 = .ok (.invokestatic 129, 3) := by decide +kernel
theorem dX7_distance_12 : decode cX7_distance 12 = .ok (.ifCond .eq 7, 3) := by decide +kernel
theorem dX7_distance_15 : decode cX7_distance 15 = .ok (.iload_n 2, 1) := by decide +kernel
theorem dX7_distance_16 : decode cX7_distance 16 = .ok (.ifCond .le 23, 3) := by decide +kernel
theorem dX7_distance_19 : decode cX7_distance 19 = .ok (.aload_n 0, 1) := by decide +kernel
theorem dX7_distance_20 : decode cX7_distance 20 = .ok (.getfield 79, 3) := by decide +kernel
theorem dX7_distance_23 : decode cX7_distance 23 = .ok (.iload_n 3, 1) := by decide +kernel
theorem dX7_distance_24 : decode cX7_distance 24 = .ok (.invokestatic 129, 3) := by decide +kernel
theorem dX7_distance_27 : decode cX7_distance 27 = .ok (.ifCond .eq 6, 3) := by decide +kernel
theorem dX7_distance_30 : decode cX7_distance 30 = .ok (.iinc 2 (-1), 3) := by decide +kernel
theorem dX7_distance_33 : decode cX7_distance 33 = .ok (.iinc 3 1, 3) := by decide +kernel
theorem dX7_distance_36 : decode cX7_distance 36 = .ok (.goto (-32), 3) := by decide +kernel
theorem dX7_distance_39 : decode cX7_distance 39 = .ok (.iload_n 3, 1) := by decide +kernel
theorem dX7_distance_40 : decode cX7_distance 40 = .ok (.ireturn, 1) := by decide +kernel
set_option maxRecDepth 20000 in
theorem ggX7_does_X7_draw : GoodIn wsX7_does wsX7_draw := goodIn_r _ [6, 7, 8, 39, 40, 41, 42, 43, 44, 45, 46, 47, 48, 49, 50, 51, 52, 53, 54, 55, 56, 57, 58, 59, 60, 61, 62, 63, 64, 65, 66, 67, 68, 69] (by decide +kernel) (by decide +kernel)
set_option maxRecDepth 20000 in
theorem gX7_does_X7_draw : GoodIn wsX7_does (wsV RX7 262 RX7 yX7_draw wsX7_draw) := goodIn_app (goodIn_of _ (by decide +kernel)) ggX7_does_X7_draw
set_option maxRecDepth 20000 in
theorem ggX7_does_X7_pins : GoodIn wsX7_does wsX7_pins := goodIn_r _ [11, 12, 13, 5, 14, 15, 16, 17, 18, 19, 20] (by decide +kernel) (by decide +kernel)
set_option maxRecDepth 20000 in
theorem gX7_does_X7_pins : GoodIn wsX7_does (va_wsS RX7 133 yX7_pins wsX7_pins) := goodIn_app (goodIn_of _ (by decide +kernel)) ggX7_does_X7_pins
set_option maxRecDepth 20000 in
theorem ggX7_does_X7_has : GoodIn wsX7_does wsX7_has := goodIn_r _ [20] (by decide +kernel) (by decide +kernel)
set_option maxRecDepth 20000 in
theorem gX7_does_X7_has : GoodIn wsX7_does (va_wsS RX7 125 yX7_has wsX7_has) := goodIn_app (goodIn_of _ (by decide +kernel)) ggX7_does_X7_has
set_option maxRecDepth 20000 in
theorem ggX7_does_X7_isTold : GoodIn wsX7_does wsX7_isTold := goodIn_r _ [14, 15, 16, 5, 17, 18, 19, 20] (by decide +kernel) (by decide +kernel)
set_option maxRecDepth 20000 in
theorem gX7_does_X7_isTold : GoodIn wsX7_does (va_wsS RX7 129 yX7_isTold wsX7_isTold) := goodIn_app (goodIn_of _ (by decide +kernel)) ggX7_does_X7_isTold
set_option maxRecDepth 20000 in
theorem ggX7_does_X7_mayPair : GoodIn wsX7_does wsX7_mayPair := goodIn_r _ [24, 1, 15, 16, 5, 17, 12, 13, 14, 18, 19, 20, 25, 26, 27, 39, 40, 41, 42, 43, 44, 45, 46, 47, 48, 49, 50, 51, 52, 53, 54, 55, 56, 57, 58, 59, 60, 61, 62, 63, 64, 65, 66, 67, 68, 69] (by decide +kernel) (by decide +kernel)
set_option maxRecDepth 20000 in
theorem gX7_does_X7_mayPair : GoodIn wsX7_does (wsV RX7 252 RX7 yX7_mayPair wsX7_mayPair) := goodIn_app (goodIn_of _ (by decide +kernel)) ggX7_does_X7_mayPair
set_option maxRecDepth 20000 in
theorem ggX7_does_X7_turns : GoodIn wsX7_does wsX7_turns := goodIn_r _ [31, 1, 39, 40, 41, 42, 43, 44, 45, 46, 47, 48, 49, 50, 51, 52, 53, 54, 55, 56, 57, 58, 59, 60, 61, 62, 63, 64, 65, 66, 67, 68, 69] (by decide +kernel) (by decide +kernel)
set_option maxRecDepth 20000 in
theorem gX7_does_X7_turns : GoodIn wsX7_does (wsV RX7 255 RX7 yX7_turns wsX7_turns) := goodIn_app (goodIn_of _ (by decide +kernel)) ggX7_does_X7_turns
set_option maxRecDepth 20000 in
theorem ggX7_does_X7_bits : GoodIn wsX7_does wsX7_bits := goodIn_r _ [27] (by decide +kernel) (by decide +kernel)
set_option maxRecDepth 20000 in
theorem gX7_does_X7_bits : GoodIn wsX7_does (va_wsS RX7 143 yX7_bits wsX7_bits) := goodIn_app (goodIn_of _ (by decide +kernel)) ggX7_does_X7_bits
set_option maxRecDepth 20000 in
theorem ggX7_does_X7_distance : GoodIn wsX7_does wsX7_distance := goodIn_r _ [35, 1, 12, 13, 5, 14, 15, 16, 17, 18, 19, 20, 39, 40, 41, 42, 43, 44, 45, 46, 47, 48, 49, 50, 51, 52, 53, 54, 55, 56, 57, 58, 59, 60, 61, 62, 63, 64, 65, 66, 67, 68, 69] (by decide +kernel) (by decide +kernel)
set_option maxRecDepth 20000 in
theorem gX7_does_X7_distance : GoodIn wsX7_does (wsV RX7 265 RX7 yX7_distance wsX7_distance) := goodIn_app (goodIn_of _ (by decide +kernel)) ggX7_does_X7_distance
set_option maxRecDepth 20000 in
theorem ggX7_does_X7_mayPin : GoodIn wsX7_does wsX7_mayPin := goodIn_r _ [38, 9, 10, 5, 11, 12, 13, 14, 15, 16, 17, 18, 19, 20] (by decide +kernel) (by decide +kernel)
set_option maxRecDepth 20000 in
theorem gX7_does_X7_mayPin : GoodIn wsX7_does (va_wsS RX7 150 yX7_mayPin wsX7_mayPin) := goodIn_app (goodIn_of _ (by decide +kernel)) ggX7_does_X7_mayPin
theorem dX7_does_0 : decode cX7_does 0 = .ok (.aload_n 0, 1) := by decide +kernel
theorem dX7_does_1 : decode cX7_does 1 = .ok (.iconst 4, 1) := by decide +kernel
theorem dX7_does_2 : decode cX7_does 2 = .ok (.invokevirtual 262, 3) := by decide +kernel
theorem dX7_does_5 : decode cX7_does 5 = .ok (.istore_n 1, 1) := by decide +kernel
theorem dX7_does_6 : decode cX7_does 6 = .ok (.aload_n 0, 1) := by decide +kernel
theorem dX7_does_7 : decode cX7_does 7 = .ok (.getfield 79, 3) := by decide +kernel
theorem dX7_does_10 : decode cX7_does 10 = .ok (.iconst 0, 1) := by decide +kernel
theorem dX7_does_11 : decode cX7_does 11 = .ok (.iaload, 1) := by decide +kernel
theorem dX7_does_12 : decode cX7_does 12 = .ok (.ifCond .ne 5, 3) := by decide +kernel
theorem dX7_does_15 : decode cX7_does 15 = .ok (.iconst 0, 1) := by decide +kernel
theorem dX7_does_16 : decode cX7_does 16 = .ok (.ireturn, 1) := by decide +kernel
theorem dX7_does_17 : decode cX7_does 17 = .ok (.iload_n 1, 1) := by decide +kernel
theorem dX7_does_18 : decode cX7_does 18 = .ok (.ifCond .ne 51, 3) := by decide +kernel
theorem dX7_does_21 : decode cX7_does 21 = .ok (.aload_n 0, 1) := by decide +kernel
theorem dX7_does_22 : decode cX7_does 22 = .ok (.aload_n 0, 1) := by decide +kernel
theorem dX7_does_23 : decode cX7_does 23 = .ok (.getfield 79, 3) := by decide +kernel
theorem dX7_does_26 : decode cX7_does 26 = .ok (.iconst 0, 1) := by decide +kernel
theorem dX7_does_27 : decode cX7_does 27 = .ok (.iaload, 1) := by decide +kernel
theorem dX7_does_28 : decode cX7_does 28 = .ok (.invokevirtual 262, 3) := by decide +kernel
theorem dX7_does_31 : decode cX7_does 31 = .ok (.iconst 1, 1) := by decide +kernel
theorem dX7_does_32 : decode cX7_does 32 = .ok (.iadd, 1) := by decide +kernel
theorem dX7_does_33 : decode cX7_does 33 = .ok (.istore_n 2, 1) := by decide +kernel
theorem dX7_does_34 : decode cX7_does 34 = .ok (.aload_n 0, 1) := by decide +kernel
theorem dX7_does_35 : decode cX7_does 35 = .ok (.getfield 79, 3) := by decide +kernel
theorem dX7_does_38 : decode cX7_does 38 = .ok (.iconst 0, 1) := by decide +kernel
theorem dX7_does_39 : decode cX7_does 39 = .ok (.invokestatic 133, 3) := by decide +kernel
theorem dX7_does_42 : decode cX7_does 42 = .ok (.iload_n 2, 1) := by decide +kernel
theorem dX7_does_43 : decode cX7_does 43 = .ok (.iconst 1, 1) := by decide +kernel
theorem dX7_does_44 : decode cX7_does 44 = .ok (.isub, 1) := by decide +kernel
theorem dX7_does_45 : decode cX7_does 45 = .ok (.invokestatic 125, 3) := by decide +kernel
theorem dX7_does_48 : decode cX7_does 48 = .ok (.ifCond .eq 5, 3) := by decide +kernel
theorem dX7_does_51 : decode cX7_does 51 = .ok (.iconst 0, 1) := by decide +kernel
theorem dX7_does_52 : decode cX7_does 52 = .ok (.ireturn, 1) := by decide +kernel
theorem dX7_does_53 : decode cX7_does 53 = .ok (.aload_n 0, 1) := by decide +kernel
theorem dX7_does_54 : decode cX7_does 54 = .ok (.getfield 79, 3) := by decide +kernel
theorem dX7_does_57 : decode cX7_does 57 = .ok (.iconst 1, 1) := by decide +kernel
theorem dX7_does_58 : decode cX7_does 58 = .ok (.dup2, 1) := by decide +kernel
theorem dX7_does_59 : decode cX7_does 59 = .ok (.iaload, 1) := by decide +kernel
theorem dX7_does_60 : decode cX7_does 60 = .ok (.iconst 1, 1) := by decide +kernel
theorem dX7_does_61 : decode cX7_does 61 = .ok (.iload_n 2, 1) := by decide +kernel
theorem dX7_does_62 : decode cX7_does 62 = .ok (.iconst 1, 1) := by decide +kernel
theorem dX7_does_63 : decode cX7_does 63 = .ok (.isub, 1) := by decide +kernel
theorem dX7_does_64 : decode cX7_does 64 = .ok (.ishl, 1) := by decide +kernel
theorem dX7_does_65 : decode cX7_does 65 = .ok (.ixor, 1) := by decide +kernel
theorem dX7_does_66 : decode cX7_does 66 = .ok (.iastore, 1) := by decide +kernel
theorem dX7_does_67 : decode cX7_does 67 = .ok (.iconst 1, 1) := by decide +kernel
theorem dX7_does_68 : decode cX7_does 68 = .ok (.ireturn, 1) := by decide +kernel
theorem dX7_does_69 : decode cX7_does 69 = .ok (.iload_n 1, 1) := by decide +kernel
theorem dX7_does_70 : decode cX7_does 70 = .ok (.iconst 1, 1) := by decide +kernel
theorem dX7_does_71 : decode cX7_does 71 = .ok (.if_icmp .ne 45, 3) := by decide +kernel
theorem dX7_does_74 : decode cX7_does 74 = .ok (.aload_n 0, 1) := by decide +kernel
theorem dX7_does_75 : decode cX7_does 75 = .ok (.bipush 15, 2) := by decide +kernel
theorem dX7_does_77 : decode cX7_does 77 = .ok (.invokevirtual 262, 3) := by decide +kernel
theorem dX7_does_80 : decode cX7_does 80 = .ok (.iconst 1, 1) := by decide +kernel
theorem dX7_does_81 : decode cX7_does 81 = .ok (.iadd, 1) := by decide +kernel
theorem dX7_does_82 : decode cX7_does 82 = .ok (.istore_n 2, 1) := by decide +kernel
theorem dX7_does_83 : decode cX7_does 83 = .ok (.aload_n 0, 1) := by decide +kernel
theorem dX7_does_84 : decode cX7_does 84 = .ok (.iload_n 2, 1) := by decide +kernel
theorem dX7_does_85 : decode cX7_does 85 = .ok (.aload_n 0, 1) := by decide +kernel
theorem dX7_does_86 : decode cX7_does 86 = .ok (.getfield 79, 3) := by decide +kernel
theorem dX7_does_89 : decode cX7_does 89 = .ok (.iload_n 2, 1) := by decide +kernel
theorem dX7_does_90 : decode cX7_does 90 = .ok (.invokestatic 129, 3) := by decide +kernel
theorem dX7_does_93 : decode cX7_does 93 = .ok (.ifCond .ne 7, 3) := by decide +kernel
theorem dX7_does_96 : decode cX7_does 96 = .ok (.iconst 1, 1) := by decide +kernel
theorem dX7_does_97 : decode cX7_does 97 = .ok (.goto 4, 3) := by decide +kernel
theorem dX7_does_100 : decode cX7_does 100 = .ok (.iconst 0, 1) := by decide +kernel
theorem dX7_does_101 : decode cX7_does 101 = .ok (.invokevirtual 252, 3) := by decide +kernel
theorem dX7_does_104 : decode cX7_does 104 = .ok (.ifCond .ne 5, 3) := by decide +kernel
theorem dX7_does_107 : decode cX7_does 107 = .ok (.iconst 0, 1) := by decide +kernel
theorem dX7_does_108 : decode cX7_does 108 = .ok (.ireturn, 1) := by decide +kernel
theorem dX7_does_109 : decode cX7_does 109 = .ok (.aload_n 0, 1) := by decide +kernel
theorem dX7_does_110 : decode cX7_does 110 = .ok (.iload_n 2, 1) := by decide +kernel
theorem dX7_does_111 : decode cX7_does 111 = .ok (.invokevirtual 255, 3) := by decide +kernel
theorem dX7_does_114 : decode cX7_does 114 = .ok (.iconst 1, 1) := by decide +kernel
theorem dX7_does_115 : decode cX7_does 115 = .ok (.ireturn, 1) := by decide +kernel
theorem dX7_does_116 : decode cX7_does 116 = .ok (.aload_n 0, 1) := by decide +kernel
theorem dX7_does_117 : decode cX7_does 117 = .ok (.getfield 79, 3) := by decide +kernel
theorem dX7_does_120 : decode cX7_does 120 = .ok (.iconst 2, 1) := by decide +kernel
theorem dX7_does_121 : decode cX7_does 121 = .ok (.iaload, 1) := by decide +kernel
theorem dX7_does_122 : decode cX7_does 122 = .ok (.ifCond .ne 5, 3) := by decide +kernel
theorem dX7_does_125 : decode cX7_does 125 = .ok (.iconst 0, 1) := by decide +kernel
theorem dX7_does_126 : decode cX7_does 126 = .ok (.ireturn, 1) := by decide +kernel
theorem dX7_does_127 : decode cX7_does 127 = .ok (.aload_n 0, 1) := by decide +kernel
theorem dX7_does_128 : decode cX7_does 128 = .ok (.aload_n 0, 1) := by decide +kernel
theorem dX7_does_129 : decode cX7_does 129 = .ok (.aload_n 0, 1) := by decide +kernel
theorem dX7_does_130 : decode cX7_does 130 = .ok (.getfield 79, 3) := by decide +kernel
theorem dX7_does_133 : decode cX7_does 133 = .ok (.iconst 2, 1) := by decide +kernel
theorem dX7_does_134 : decode cX7_does 134 = .ok (.iaload, 1) := by decide +kernel
theorem dX7_does_135 : decode cX7_does 135 = .ok (.invokestatic 143, 3) := by decide +kernel
theorem dX7_does_138 : decode cX7_does 138 = .ok (.invokevirtual 262, 3) := by decide +kernel
theorem dX7_does_141 : decode cX7_does 141 = .ok (.invokevirtual 265, 3) := by decide +kernel
theorem dX7_does_144 : decode cX7_does 144 = .ok (.istore_n 2, 1) := by decide +kernel
theorem dX7_does_145 : decode cX7_does 145 = .ok (.aload_n 0, 1) := by decide +kernel
theorem dX7_does_146 : decode cX7_does 146 = .ok (.aload_n 0, 1) := by decide +kernel
theorem dX7_does_147 : decode cX7_does 147 = .ok (.getfield 79, 3) := by decide +kernel
theorem dX7_does_150 : decode cX7_does 150 = .ok (.iconst 0, 1) := by decide +kernel
theorem dX7_does_151 : decode cX7_does 151 = .ok (.iaload, 1) := by decide +kernel
theorem dX7_does_152 : decode cX7_does 152 = .ok (.invokevirtual 262, 3) := by decide +kernel
theorem dX7_does_155 : decode cX7_does 155 = .ok (.iconst 1, 1) := by decide +kernel
theorem dX7_does_156 : decode cX7_does 156 = .ok (.iadd, 1) := by decide +kernel
theorem dX7_does_157 : decode cX7_does 157 = .ok (.istore_n 3, 1) := by decide +kernel
theorem dX7_does_158 : decode cX7_does 158 = .ok (.aload_n 0, 1) := by decide +kernel
theorem dX7_does_159 : decode cX7_does 159 = .ok (.getfield 79, 3) := by decide +kernel
theorem dX7_does_162 : decode cX7_does 162 = .ok (.iconst 3, 1) := by decide +kernel
theorem dX7_does_163 : decode cX7_does 163 = .ok (.iload_n 2, 1) := by decide +kernel
theorem dX7_does_164 : decode cX7_does 164 = .ok (.iadd, 1) := by decide +kernel
theorem dX7_does_165 : decode cX7_does 165 = .ok (.iaload, 1) := by decide +kernel
theorem dX7_does_166 : decode cX7_does 166 = .ok (.ifCond .le 14, 3) := by decide +kernel
theorem dX7_does_169 : decode cX7_does 169 = .ok (.aload_n 0, 1) := by decide +kernel
theorem dX7_does_170 : decode cX7_does 170 = .ok (.getfield 79, 3) := by decide +kernel
theorem dX7_does_173 : decode cX7_does 173 = .ok (.iconst 3, 1) := by decide +kernel
theorem dX7_does_174 : decode cX7_does 174 = .ok (.iload_n 2, 1) := by decide +kernel
theorem dX7_does_175 : decode cX7_does 175 = .ok (.iadd, 1) := by decide +kernel
theorem dX7_does_176 : decode cX7_does 176 = .ok (.iconst 0, 1) := by decide +kernel
theorem dX7_does_177 : decode cX7_does 177 = .ok (.iastore, 1) := by decide +kernel
theorem dX7_does_178 : decode cX7_does 178 = .ok (.iconst 1, 1) := by decide +kernel
theorem dX7_does_179 : decode cX7_does 179 = .ok (.ireturn, 1) := by decide +kernel
theorem dX7_does_180 : decode cX7_does 180 = .ok (.iload_n 3, 1) := by decide +kernel
theorem dX7_does_181 : decode cX7_does 181 = .ok (.iload_n 2, 1) := by decide +kernel
theorem dX7_does_182 : decode cX7_does 182 = .ok (.iadd, 1) := by decide +kernel
theorem dX7_does_183 : decode cX7_does 183 = .ok (.aload_n 0, 1) := by decide +kernel
theorem dX7_does_184 : decode cX7_does 184 = .ok (.getfield 79, 3) := by decide +kernel
theorem dX7_does_187 : decode cX7_does 187 = .ok (.iconst 0, 1) := by decide +kernel
theorem dX7_does_188 : decode cX7_does 188 = .ok (.iaload, 1) := by decide +kernel
theorem dX7_does_189 : decode cX7_does 189 = .ok (.if_icmp .gt 15, 3) := by decide +kernel
theorem dX7_does_192 : decode cX7_does 192 = .ok (.aload_n 0, 1) := by decide +kernel
theorem dX7_does_193 : decode cX7_does 193 = .ok (.getfield 79, 3) := by decide +kernel
theorem dX7_does_196 : decode cX7_does 196 = .ok (.iload_n 2, 1) := by decide +kernel
theorem dX7_does_197 : decode cX7_does 197 = .ok (.iload_n 3, 1) := by decide +kernel
theorem dX7_does_198 : decode cX7_does 198 = .ok (.invokestatic 150, 3) := by decide +kernel
theorem dX7_does_201 : decode cX7_does 201 = .ok (.ifCond .ne 5, 3) := by decide +kernel
theorem dX7_does_204 : decode cX7_does 204 = .ok (.iconst 0, 1) := by decide +kernel
theorem dX7_does_205 : decode cX7_does 205 = .ok (.ireturn, 1) := by decide +kernel
theorem dX7_does_206 : decode cX7_does 206 = .ok (.aload_n 0, 1) := by decide +kernel
theorem dX7_does_207 : decode cX7_does 207 = .ok (.getfield 79, 3) := by decide +kernel
theorem dX7_does_210 : decode cX7_does 210 = .ok (.iconst 3, 1) := by decide +kernel
theorem dX7_does_211 : decode cX7_does 211 = .ok (.iload_n 2, 1) := by decide +kernel
theorem dX7_does_212 : decode cX7_does 212 = .ok (.iadd, 1) := by decide +kernel
theorem dX7_does_213 : decode cX7_does 213 = .ok (.iload_n 3, 1) := by decide +kernel
theorem dX7_does_214 : decode cX7_does 214 = .ok (.iastore, 1) := by decide +kernel
theorem dX7_does_215 : decode cX7_does 215 = .ok (.iconst 1, 1) := by decide +kernel
theorem dX7_does_216 : decode cX7_does 216 = .ok (.ireturn, 1) := by decide +kernel
set_option maxRecDepth 20000 in
theorem ggX7_drawn_X7_isIn : GoodIn wsX7_drawn wsX7_isIn := goodIn_r _ [8] (by decide +kernel) (by decide +kernel)
set_option maxRecDepth 20000 in
theorem gX7_drawn_X7_isIn : GoodIn wsX7_drawn (va_wsS RX7 69 yX7_isIn wsX7_isIn) := goodIn_app (goodIn_of _ (by decide +kernel)) ggX7_drawn_X7_isIn
set_option maxRecDepth 20000 in
theorem ggX7_drawn_X7_copy : GoodIn wsX7_drawn wsX7_copy := goodIn_r _ [11] (by decide +kernel) (by decide +kernel)
set_option maxRecDepth 20000 in
theorem gX7_drawn_X7_copy : GoodIn wsX7_drawn (va_wsS RX7 178 yX7_copy wsX7_copy) := goodIn_app (goodIn_of _ (by decide +kernel)) ggX7_drawn_X7_copy
set_option maxRecDepth 20000 in
theorem ggX7_drawn_X7_does : GoodIn wsX7_drawn wsX7_does := goodIn_r _ [15, 2, 16, 17, 18, 7, 19, 4, 20, 21, 22, 23, 24, 25, 26, 5, 6, 8, 27, 28, 29, 30, 31, 32, 33, 34, 35, 36, 37, 38, 39, 40, 41, 42, 43, 44, 45, 46, 47, 59, 60, 61, 62, 63, 64, 65, 66, 67, 68, 69, 70, 71, 72, 73, 74, 75, 76, 77, 78, 79, 80, 81, 82, 83, 84, 85, 86, 87, 88, 89] (by decide +kernel) (by decide +kernel)
set_option maxRecDepth 20000 in
theorem gX7_drawn_X7_does : GoodIn wsX7_drawn (wsV RX7 268 RX7 yX7_does wsX7_does) := goodIn_app (goodIn_of _ (by decide +kernel)) ggX7_drawn_X7_does
set_option maxRecDepth 20000 in
theorem ggX7_drawn_X7_stay : GoodIn wsX7_drawn wsX7_stay := goodIn_r _ [51, 2, 52, 3, 9, 10, 7, 11, 53, 54, 55, 56, 57, 58, 59, 60, 61, 62, 63, 64, 65, 66, 67, 68, 69, 70, 71, 72, 73, 74, 75, 76, 77, 78, 79, 80, 81, 82, 83, 84, 85, 86, 87, 88, 89] (by decide +kernel) (by decide +kernel)
set_option maxRecDepth 20000 in
theorem gX7_drawn_X7_stay : GoodIn wsX7_drawn (wsV RX7 271 RX7 yX7_stay wsX7_stay) := goodIn_app (goodIn_of _ (by decide +kernel)) ggX7_drawn_X7_stay
theorem dX7_drawn_0 : decode cX7_drawn 0 = .ok (.aload_n 0, 1) := by decide +kernel
theorem dX7_drawn_1 : decode cX7_drawn 1 = .ok (.iconst 0, 1) := by decide +kernel
theorem dX7_drawn_2 : decode cX7_drawn 2 = .ok (.putfield 1, 3) := by decide +kernel
theorem dX7_drawn_5 : decode cX7_drawn 5 = .ok (.iload_n 1, 1) := by decide +kernel
theorem dX7_drawn_6 : decode cX7_drawn 6 = .ok (.iconst 1, 1) := by decide +kernel
theorem dX7_drawn_7 : decode cX7_drawn 7 = .ok (.bipush 60, 2) := by decide +kernel
theorem dX7_drawn_9 : decode cX7_drawn 9 = .ok (.invokestatic 69, 3) := by decide +kernel
theorem dX7_drawn_12 : decode cX7_drawn 12 = .ok (.ifCond .ne 5, 3) := by decide +kernel
theorem dX7_drawn_15 : decode cX7_drawn 15 = .ok (.iconst (-1), 1) := by decide +kernel
theorem dX7_drawn_16 : decode cX7_drawn 16 = .ok (.ireturn, 1) := by decide +kernel
theorem dX7_drawn_17 : decode cX7_drawn 17 = .ok (.aload_n 0, 1) := by decide +kernel
theorem dX7_drawn_18 : decode cX7_drawn 18 = .ok (.getfield 79, 3) := by decide +kernel
theorem dX7_drawn_21 : decode cX7_drawn 21 = .ok (.iconst 0, 1) := by decide +kernel
theorem dX7_drawn_22 : decode cX7_drawn 22 = .ok (.aload_n 0, 1) := by decide +kernel
theorem dX7_drawn_23 : decode cX7_drawn 23 = .ok (.getfield 91, 3) := by decide +kernel
theorem dX7_drawn_26 : decode cX7_drawn 26 = .ok (.iconst 0, 1) := by decide +kernel
theorem dX7_drawn_27 : decode cX7_drawn 27 = .ok (.invokestatic 178, 3) := by decide +kernel
theorem dX7_drawn_30 : decode cX7_drawn 30 = .ok (.aload_n 0, 1) := by decide +kernel
theorem dX7_drawn_31 : decode cX7_drawn 31 = .ok (.iload_n 2, 1) := by decide +kernel
theorem dX7_drawn_32 : decode cX7_drawn 32 = .ok (.putfield 258, 3) := by decide +kernel
theorem dX7_drawn_35 : decode cX7_drawn 35 = .ok (.iconst 0, 1) := by decide +kernel
theorem dX7_drawn_36 : decode cX7_drawn 36 = .ok (.istore_n 3, 1) := by decide +kernel
theorem dX7_drawn_37 : decode cX7_drawn 37 = .ok (.iconst 0, 1) := by decide +kernel
theorem dX7_drawn_38 : decode cX7_drawn 38 = .ok (.istore 4, 2) := by decide +kernel
theorem dX7_drawn_40 : decode cX7_drawn 40 = .ok (.iload 4, 2) := by decide +kernel
theorem dX7_drawn_42 : decode cX7_drawn 42 = .ok (.iload_n 1, 1) := by decide +kernel
theorem dX7_drawn_43 : decode cX7_drawn 43 = .ok (.if_icmp .ge 19, 3) := by decide +kernel
theorem dX7_drawn_46 : decode cX7_drawn 46 = .ok (.aload_n 0, 1) := by decide +kernel
theorem dX7_drawn_47 : decode cX7_drawn 47 = .ok (.invokevirtual 268, 3) := by decide +kernel
theorem dX7_drawn_50 : decode cX7_drawn 50 = .ok (.ifCond .eq 6, 3) := by decide +kernel
theorem dX7_drawn_53 : decode cX7_drawn 53 = .ok (.iinc 3 1, 3) := by decide +kernel
theorem dX7_drawn_56 : decode cX7_drawn 56 = .ok (.iinc 4 1, 3) := by decide +kernel
theorem dX7_drawn_59 : decode cX7_drawn 59 = .ok (.goto (-19), 3) := by decide +kernel
theorem dX7_drawn_62 : decode cX7_drawn 62 = .ok (.iload_n 3, 1) := by decide +kernel
theorem dX7_drawn_63 : decode cX7_drawn 63 = .ok (.ifCond .le 7, 3) := by decide +kernel
theorem dX7_drawn_66 : decode cX7_drawn 66 = .ok (.aload_n 0, 1) := by decide +kernel
theorem dX7_drawn_67 : decode cX7_drawn 67 = .ok (.invokevirtual 271, 3) := by decide +kernel
theorem dX7_drawn_70 : decode cX7_drawn 70 = .ok (.iload_n 3, 1) := by decide +kernel
theorem dX7_drawn_71 : decode cX7_drawn 71 = .ok (.ireturn, 1) := by decide +kernel
set_option maxRecDepth 20000 in
theorem ggX7_undo_X7_copy : GoodIn wsX7_undo wsX7_copy := goodIn_r _ [8] (by decide +kernel) (by decide +kernel)
set_option maxRecDepth 20000 in
theorem gX7_undo_X7_copy : GoodIn wsX7_undo (va_wsS RX7 178 yX7_copy wsX7_copy) := goodIn_app (goodIn_of _ (by decide +kernel)) ggX7_undo_X7_copy
theorem dX7_undo_0 : decode cX7_undo 0 = .ok (.aload_n 0, 1) := by decide +kernel
theorem dX7_undo_1 : decode cX7_undo 1 = .ok (.iconst 0, 1) := by decide +kernel
theorem dX7_undo_2 : decode cX7_undo 2 = .ok (.putfield 1, 3) := by decide +kernel
theorem dX7_undo_5 : decode cX7_undo 5 = .ok (.aload_n 0, 1) := by decide +kernel
theorem dX7_undo_6 : decode cX7_undo 6 = .ok (.getfield 182, 3) := by decide +kernel
theorem dX7_undo_9 : decode cX7_undo 9 = .ok (.ifCond .ne 5, 3) := by decide +kernel
theorem dX7_undo_12 : decode cX7_undo 12 = .ok (.iconst (-1), 1) := by decide +kernel
theorem dX7_undo_13 : decode cX7_undo 13 = .ok (.ireturn, 1) := by decide +kernel
theorem dX7_undo_14 : decode cX7_undo 14 = .ok (.aload_n 0, 1) := by decide +kernel
theorem dX7_undo_15 : decode cX7_undo 15 = .ok (.dup, 1) := by decide +kernel
theorem dX7_undo_16 : decode cX7_undo 16 = .ok (.getfield 182, 3) := by decide +kernel
theorem dX7_undo_19 : decode cX7_undo 19 = .ok (.iconst 1, 1) := by decide +kernel
theorem dX7_undo_20 : decode cX7_undo 20 = .ok (.isub, 1) := by decide +kernel
theorem dX7_undo_21 : decode cX7_undo 21 = .ok (.putfield 182, 3) := by decide +kernel
theorem dX7_undo_24 : decode cX7_undo 24 = .ok (.aload_n 0, 1) := by decide +kernel
theorem dX7_undo_25 : decode cX7_undo 25 = .ok (.getfield 88, 3) := by decide +kernel
theorem dX7_undo_28 : decode cX7_undo 28 = .ok (.bipush 19, 2) := by decide +kernel
theorem dX7_undo_30 : decode cX7_undo 30 = .ok (.aload_n 0, 1) := by decide +kernel
theorem dX7_undo_31 : decode cX7_undo 31 = .ok (.getfield 182, 3) := by decide +kernel
theorem dX7_undo_34 : decode cX7_undo 34 = .ok (.imul, 1) := by decide +kernel
theorem dX7_undo_35 : decode cX7_undo 35 = .ok (.aload_n 0, 1) := by decide +kernel
theorem dX7_undo_36 : decode cX7_undo 36 = .ok (.getfield 79, 3) := by decide +kernel
theorem dX7_undo_39 : decode cX7_undo 39 = .ok (.iconst 0, 1) := by decide +kernel
theorem dX7_undo_40 : decode cX7_undo 40 = .ok (.invokestatic 178, 3) := by decide +kernel
theorem dX7_undo_43 : decode cX7_undo 43 = .ok (.aload_n 0, 1) := by decide +kernel
theorem dX7_undo_44 : decode cX7_undo 44 = .ok (.getfield 182, 3) := by decide +kernel
theorem dX7_undo_47 : decode cX7_undo 47 = .ok (.ireturn, 1) := by decide +kernel
set_option maxRecDepth 20000 in
theorem ggX7_image_X7_isIn : GoodIn wsX7_image wsX7_isIn := goodIn_r _ [8] (by decide +kernel) (by decide +kernel)
set_option maxRecDepth 20000 in
theorem gX7_image_X7_isIn : GoodIn wsX7_image (va_wsS RX7 69 yX7_isIn wsX7_isIn) := goodIn_app (goodIn_of _ (by decide +kernel)) ggX7_image_X7_isIn
set_option maxRecDepth 20000 in
theorem ggX7_image_X7_copy : GoodIn wsX7_image wsX7_copy := goodIn_r _ [11] (by decide +kernel) (by decide +kernel)
set_option maxRecDepth 20000 in
theorem gX7_image_X7_copy : GoodIn wsX7_image (va_wsS RX7 178 yX7_copy wsX7_copy) := goodIn_app (goodIn_of _ (by decide +kernel)) ggX7_image_X7_copy
theorem dX7_image_0 : decode cX7_image 0 = .ok (.aload_n 0, 1) := by decide +kernel
theorem dX7_image_1 : decode cX7_image 1 = .ok (.iconst 0, 1) := by decide +kernel
theorem dX7_image_2 : decode cX7_image 2 = .ok (.putfield 1, 3) := by decide +kernel
theorem dX7_image_5 : decode cX7_image 5 = .ok (.iload_n 1, 1) := by decide +kernel
theorem dX7_image_6 : decode cX7_image 6 = .ok (.iconst 0, 1) := by decide +kernel
theorem dX7_image_7 : decode cX7_image 7 = .ok (.iconst 1, 1) := by decide +kernel
theorem dX7_image_8 : decode cX7_image 8 = .ok (.invokestatic 69, 3) := by decide +kernel
theorem dX7_image_11 : decode cX7_image 11 = .ok (.ifCond .ne 5, 3) := by decide +kernel
theorem dX7_image_14 : decode cX7_image 14 = .ok (.iconst 0, 1) := by decide +kernel
theorem dX7_image_15 : decode cX7_image 15 = .ok (.ireturn, 1) := by decide +kernel
theorem dX7_image_16 : decode cX7_image 16 = .ok (.aload_n 0, 1) := by decide +kernel
theorem dX7_image_17 : decode cX7_image 17 = .ok (.getfield 79, 3) := by decide +kernel
theorem dX7_image_20 : decode cX7_image 20 = .ok (.iconst 0, 1) := by decide +kernel
theorem dX7_image_21 : decode cX7_image 21 = .ok (.aload_n 0, 1) := by decide +kernel
theorem dX7_image_22 : decode cX7_image 22 = .ok (.getfield 85, 3) := by decide +kernel
theorem dX7_image_25 : decode cX7_image 25 = .ok (.bipush 19, 2) := by decide +kernel
theorem dX7_image_27 : decode cX7_image 27 = .ok (.iload_n 1, 1) := by decide +kernel
theorem dX7_image_28 : decode cX7_image 28 = .ok (.imul, 1) := by decide +kernel
theorem dX7_image_29 : decode cX7_image 29 = .ok (.invokestatic 178, 3) := by decide +kernel
theorem dX7_image_32 : decode cX7_image 32 = .ok (.aload_n 0, 1) := by decide +kernel
theorem dX7_image_33 : decode cX7_image 33 = .ok (.getfield 100, 3) := by decide +kernel
theorem dX7_image_36 : decode cX7_image 36 = .ok (.iload_n 1, 1) := by decide +kernel
theorem dX7_image_37 : decode cX7_image 37 = .ok (.iconst 1, 1) := by decide +kernel
theorem dX7_image_38 : decode cX7_image 38 = .ok (.bastore, 1) := by decide +kernel
theorem dX7_image_39 : decode cX7_image 39 = .ok (.iconst 1, 1) := by decide +kernel
theorem dX7_image_40 : decode cX7_image 40 = .ok (.ireturn, 1) := by decide +kernel
set_option maxRecDepth 20000 in
theorem ggX7_restore_X7_isIn : GoodIn wsX7_restore wsX7_isIn := goodIn_r _ [9] (by decide +kernel) (by decide +kernel)
set_option maxRecDepth 20000 in
theorem gX7_restore_X7_isIn : GoodIn wsX7_restore (va_wsS RX7 69 yX7_isIn wsX7_isIn) := goodIn_app (goodIn_of _ (by decide +kernel)) ggX7_restore_X7_isIn
set_option maxRecDepth 20000 in
theorem ggX7_restore_X7_copy : GoodIn wsX7_restore wsX7_copy := goodIn_r _ [12] (by decide +kernel) (by decide +kernel)
set_option maxRecDepth 20000 in
theorem gX7_restore_X7_copy : GoodIn wsX7_restore (va_wsS RX7 178 yX7_copy wsX7_copy) := goodIn_app (goodIn_of _ (by decide +kernel)) ggX7_restore_X7_copy
theorem dX7_restore_0 : decode cX7_restore 0 = .ok (.aload_n 0, 1) := by decide +kernel
theorem dX7_restore_1 : decode cX7_restore 1 = .ok (.iconst 0, 1) := by decide +kernel
theorem dX7_restore_2 : decode cX7_restore 2 = .ok (.putfield 1, 3) := by decide +kernel
theorem dX7_restore_5 : decode cX7_restore 5 = .ok (.iload_n 1, 1) := by decide +kernel
theorem dX7_restore_6 : decode cX7_restore 6 = .ok (.iconst 0, 1) := by decide +kernel
theorem dX7_restore_7 : decode cX7_restore 7 = .ok (.iconst 1, 1) := by decide +kernel
theorem dX7_restore_8 : decode cX7_restore 8 = .ok (.invokestatic 69, 3) := by decide +kernel
theorem dX7_restore_11 : decode cX7_restore 11 = .ok (.ifCond .eq 12, 3) := by decide +kernel
theorem dX7_restore_14 : decode cX7_restore 14 = .ok (.aload_n 0, 1) := by decide +kernel
theorem dX7_restore_15 : decode cX7_restore 15 = .ok (.getfield 100, 3) := by decide +kernel
theorem dX7_restore_18 : decode cX7_restore 18 = .ok (.iload_n 1, 1) := by decide +kernel
theorem dX7_restore_19 : decode cX7_restore 19 = .ok (.baload, 1) := by decide +kernel
theorem dX7_restore_20 : decode cX7_restore 20 = .ok (.ifCond .ne 5, 3) := by decide +kernel
theorem dX7_restore_23 : decode cX7_restore 23 = .ok (.iconst 0, 1) := by decide +kernel
theorem dX7_restore_24 : decode cX7_restore 24 = .ok (.ireturn, 1) := by decide +kernel
theorem dX7_restore_25 : decode cX7_restore 25 = .ok (.aload_n 0, 1) := by decide +kernel
theorem dX7_restore_26 : decode cX7_restore 26 = .ok (.getfield 85, 3) := by decide +kernel
theorem dX7_restore_29 : decode cX7_restore 29 = .ok (.bipush 19, 2) := by decide +kernel
theorem dX7_restore_31 : decode cX7_restore 31 = .ok (.iload_n 1, 1) := by decide +kernel
theorem dX7_restore_32 : decode cX7_restore 32 = .ok (.imul, 1) := by decide +kernel
theorem dX7_restore_33 : decode cX7_restore 33 = .ok (.aload_n 0, 1) := by decide +kernel
theorem dX7_restore_34 : decode cX7_restore 34 = .ok (.getfield 79, 3) := by decide +kernel
theorem dX7_restore_37 : decode cX7_restore 37 = .ok (.iconst 0, 1) := by decide +kernel
theorem dX7_restore_38 : decode cX7_restore 38 = .ok (.invokestatic 178, 3) := by decide +kernel
theorem dX7_restore_41 : decode cX7_restore 41 = .ok (.aload_n 0, 1) := by decide +kernel
theorem dX7_restore_42 : decode cX7_restore 42 = .ok (.iconst 0, 1) := by decide +kernel
theorem dX7_restore_43 : decode cX7_restore 43 = .ok (.putfield 182, 3) := by decide +kernel
theorem dX7_restore_46 : decode cX7_restore 46 = .ok (.iconst 1, 1) := by decide +kernel
theorem dX7_restore_47 : decode cX7_restore 47 = .ok (.ireturn, 1) := by decide +kernel
