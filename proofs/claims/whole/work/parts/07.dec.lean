theorem dX7_laysKind_83 : decode cX7_laysKind 83 = .ok (.isub, 1) := by decide +kernel
theorem dX7_laysKind_84 : decode cX7_laysKind 84 = .ok (.iconst 1, 1) := by decide +kernel
theorem dX7_laysKind_85 : decode cX7_laysKind 85 = .ok (.ishl, 1) := by decide +kernel
theorem dX7_laysKind_86 : decode cX7_laysKind 86 = .ok (.goto 8, 3) := by decide +kernel
theorem dX7_laysKind_89 : decode cX7_laysKind 89 = .ok (.iconst 1, 1) := by decide +kernel
theorem dX7_laysKind_90 : decode cX7_laysKind 90 = .ok (.iload_n 2, 1) := by decide +kernel
theorem dX7_laysKind_91 : decode cX7_laysKind 91 = .ok (.ishl, 1) := by decide +kernel
theorem dX7_laysKind_92 : decode cX7_laysKind 92 = .ok (.iconst 1, 1) := by decide +kernel
theorem dX7_laysKind_93 : decode cX7_laysKind 93 = .ok (.isub, 1) := by decide +kernel
theorem dX7_laysKind_94 : decode cX7_laysKind 94 = .ok (.iastore, 1) := by decide +kernel
theorem dX7_laysKind_95 : decode cX7_laysKind 95 = .ok (.return_, 1) := by decide +kernel
set_option maxRecDepth 20000 in
theorem ggX7_kind_X7_isIn : GoodIn wsX7_kind wsX7_isIn := goodIn_r _ [6] (by decide +kernel) (by decide +kernel)
set_option maxRecDepth 20000 in
theorem gX7_kind_X7_isIn : GoodIn wsX7_kind (va_wsS RX7 69 yX7_isIn wsX7_isIn) := goodIn_app (goodIn_of _ (by decide +kernel)) ggX7_kind_X7_isIn
set_option maxRecDepth 20000 in
theorem ggX7_kind_X7_snap : GoodIn wsX7_kind wsX7_snap := goodIn_r _ [10, 11, 12, 2, 13, 14, 5, 15, 19, 20, 21, 22, 23, 24, 25, 26, 27, 28, 29, 30, 31, 32, 33, 34, 35, 36, 37, 38, 39, 40, 41, 42, 43, 44, 45, 46, 47, 48, 49] (by decide +kernel) (by decide +kernel)
set_option maxRecDepth 20000 in
theorem gX7_kind_X7_snap : GoodIn wsX7_kind (wsV RX7 185 RX7 yX7_snap wsX7_snap) := goodIn_app (goodIn_of _ (by decide +kernel)) ggX7_kind_X7_snap
set_option maxRecDepth 20000 in
theorem ggX7_kind_X7_laysKind : GoodIn wsX7_kind wsX7_laysKind := goodIn_r _ [18] (by decide +kernel) (by decide +kernel)
set_option maxRecDepth 20000 in
theorem gX7_kind_X7_laysKind : GoodIn wsX7_kind (va_wsS RX7 188 yX7_laysKind wsX7_laysKind) := goodIn_app (goodIn_of _ (by decide +kernel)) ggX7_kind_X7_laysKind
theorem dX7_kind_0 : decode cX7_kind 0 = .ok (.aload_n 0, 1) := by decide +kernel
theorem dX7_kind_1 : decode cX7_kind 1 = .ok (.iconst 0, 1) := by decide +kernel
theorem dX7_kind_2 : decode cX7_kind 2 = .ok (.putfield 1, 3) := by decide +kernel
theorem dX7_kind_5 : decode cX7_kind 5 = .ok (.iload_n 1, 1) := by decide +kernel
theorem dX7_kind_6 : decode cX7_kind 6 = .ok (.iconst 0, 1) := by decide +kernel
theorem dX7_kind_7 : decode cX7_kind 7 = .ok (.iconst 3, 1) := by decide +kernel
theorem dX7_kind_8 : decode cX7_kind 8 = .ok (.invokestatic 69, 3) := by decide +kernel
theorem dX7_kind_11 : decode cX7_kind 11 = .ok (.ifCond .eq 25, 3) := by decide +kernel
theorem dX7_kind_14 : decode cX7_kind 14 = .ok (.iload_n 2, 1) := by decide +kernel
theorem dX7_kind_15 : decode cX7_kind 15 = .ok (.iconst 1, 1) := by decide +kernel
theorem dX7_kind_16 : decode cX7_kind 16 = .ok (.iload_n 1, 1) := by decide +kernel
theorem dX7_kind_17 : decode cX7_kind 17 = .ok (.iconst 2, 1) := by decide +kernel
theorem dX7_kind_18 : decode cX7_kind 18 = .ok (.irem, 1) := by decide +kernel
theorem dX7_kind_19 : decode cX7_kind 19 = .ok (.iconst 1, 1) := by decide +kernel
theorem dX7_kind_20 : decode cX7_kind 20 = .ok (.if_icmp .ne 8, 3) := by decide +kernel
theorem dX7_kind_23 : decode cX7_kind 23 = .ok (.bipush 8, 2) := by decide +kernel
theorem dX7_kind_25 : decode cX7_kind 25 = .ok (.goto 5, 3) := by decide +kernel
theorem dX7_kind_28 : decode cX7_kind 28 = .ok (.bipush 9, 2) := by decide +kernel
theorem dX7_kind_30 : decode cX7_kind 30 = .ok (.invokestatic 69, 3) := by decide +kernel
theorem dX7_kind_33 : decode cX7_kind 33 = .ok (.ifCond .ne 5, 3) := by decide +kernel
theorem dX7_kind_36 : decode cX7_kind 36 = .ok (.iconst (-1), 1) := by decide +kernel
theorem dX7_kind_37 : decode cX7_kind 37 = .ok (.ireturn, 1) := by decide +kernel
theorem dX7_kind_38 : decode cX7_kind 38 = .ok (.aload_n 0, 1) := by decide +kernel
theorem dX7_kind_39 : decode cX7_kind 39 = .ok (.invokevirtual 185, 3) := by decide +kernel
theorem dX7_kind_42 : decode cX7_kind 42 = .ok (.aload_n 0, 1) := by decide +kernel
theorem dX7_kind_43 : decode cX7_kind 43 = .ok (.getfield 79, 3) := by decide +kernel
theorem dX7_kind_46 : decode cX7_kind 46 = .ok (.iload_n 1, 1) := by decide +kernel
theorem dX7_kind_47 : decode cX7_kind 47 = .ok (.iload_n 2, 1) := by decide +kernel
theorem dX7_kind_48 : decode cX7_kind 48 = .ok (.invokestatic 188, 3) := by decide +kernel
theorem dX7_kind_51 : decode cX7_kind 51 = .ok (.aload_n 0, 1) := by decide +kernel
theorem dX7_kind_52 : decode cX7_kind 52 = .ok (.getfield 79, 3) := by decide +kernel
theorem dX7_kind_55 : decode cX7_kind 55 = .ok (.iconst 0, 1) := by decide +kernel
theorem dX7_kind_56 : decode cX7_kind 56 = .ok (.iaload, 1) := by decide +kernel
theorem dX7_kind_57 : decode cX7_kind 57 = .ok (.ireturn, 1) := by decide +kernel
set_option maxRecDepth 20000 in
theorem ggX7_isEven_X7_has : GoodIn wsX7_isEven wsX7_has := goodIn_r _ [4] (by decide +kernel) (by decide +kernel)
set_option maxRecDepth 20000 in
theorem gX7_isEven_X7_has : GoodIn wsX7_isEven (va_wsS RX7 125 yX7_has wsX7_has) := goodIn_app (goodIn_of _ (by decide +kernel)) ggX7_isEven_X7_has
set_option maxRecDepth 20000 in
theorem ggX7_isEven_X7_isTold : GoodIn wsX7_isEven wsX7_isTold := goodIn_r _ [7, 8, 9, 3, 10, 1, 2, 4] (by decide +kernel) (by decide +kernel)
set_option maxRecDepth 20000 in
theorem gX7_isEven_X7_isTold : GoodIn wsX7_isEven (va_wsS RX7 129 yX7_isTold wsX7_isTold) := goodIn_app (goodIn_of _ (by decide +kernel)) ggX7_isEven_X7_isTold
set_option maxRecDepth 20000 in
theorem ggX7_isEven_X7_bits : GoodIn wsX7_isEven wsX7_bits := goodIn_r _ [13] (by decide +kernel) (by decide +kernel)
set_option maxRecDepth 20000 in
theorem gX7_isEven_X7_bits : GoodIn wsX7_isEven (va_wsS RX7 143 yX7_bits wsX7_bits) := goodIn_app (goodIn_of _ (by decide +kernel)) ggX7_isEven_X7_bits
theorem dX7_isEven_0 : decode cX7_isEven 0 = .ok (.iconst 0, 1) := by decide +kernel
theorem dX7_isEven_1 : decode cX7_isEven 1 = .ok (.istore_n 2, 1) := by decide +kernel
theorem dX7_isEven_2 : decode cX7_isEven 2 = .ok (.iconst 0, 1) := by decide +kernel
theorem dX7_isEven_3 : decode cX7_isEven 3 = .ok (.istore_n 3, 1) := by decide +kernel
theorem dX7_isEven_4 : decode cX7_isEven 4 = .ok (.iconst 1, 1) := by decide +kernel
theorem dX7_isEven_5 : decode cX7_isEven 5 = .ok (.istore 4, 2) := by decide +kernel
theorem dX7_isEven_7 : decode cX7_isEven 7 = .ok (.iload 4, 2) := by decide +kernel
theorem dX7_isEven_9 : decode cX7_isEven 9 = .ok (.aload_n 1, 1) := by decide +kernel
theorem dX7_isEven_10 : decode cX7_isEven 10 = .ok (.iconst 0, 1) := by decide +kernel
theorem dX7_isEven_11 : decode cX7_isEven 11 = .ok (.iaload, 1) := by decide +kernel
theorem dX7_isEven_12 : decode cX7_isEven 12 = .ok (.if_icmp .gt 33, 3) := by decide +kernel
theorem dX7_isEven_15 : decode cX7_isEven 15 = .ok (.aload_n 1, 1) := by decide +kernel
theorem dX7_isEven_16 : decode cX7_isEven 16 = .ok (.iconst 1, 1) := by decide +kernel
theorem dX7_isEven_17 : decode cX7_isEven 17 = .ok (.iaload, 1) := by decide +kernel
theorem dX7_isEven_18 : decode cX7_isEven 18 = .ok (.iload 4, 2) := by decide +kernel
theorem dX7_isEven_20 : decode cX7_isEven 20 = .ok (.iconst 1, 1) := by decide +kernel
theorem dX7_isEven_21 : decode cX7_isEven 21 = .ok (.isub, 1) := by decide +kernel
theorem dX7_isEven_22 : decode cX7_isEven 22 = .ok (.invokestatic 125, 3) := by decide +kernel
theorem dX7_isEven_25 : decode cX7_isEven 25 = .ok (.ifCond .eq 6, 3) := by decide +kernel
theorem dX7_isEven_28 : decode cX7_isEven 28 = .ok (.goto 11, 3) := by decide +kernel
theorem dX7_isEven_31 : decode cX7_isEven 31 = .ok (.iinc 3 1, 3) := by decide +kernel
theorem dX7_isEven_34 : decode cX7_isEven 34 = .ok (.iload_n 2, 1) := by decide +kernel
theorem dX7_isEven_35 : decode cX7_isEven 35 = .ok (.iload 4, 2) := by decide +kernel
theorem dX7_isEven_37 : decode cX7_isEven 37 = .ok (.iadd, 1) := by decide +kernel
theorem dX7_isEven_38 : decode cX7_isEven 38 = .ok (.istore_n 2, 1) := by decide +kernel
theorem dX7_isEven_39 : decode cX7_isEven 39 = .ok (.iinc 4 1, 3) := by decide +kernel
theorem dX7_isEven_42 : decode cX7_isEven 42 = .ok (.goto (-35), 3) := by decide +kernel
theorem dX7_isEven_45 : decode cX7_isEven 45 = .ok (.iconst 1, 1) := by decide +kernel
theorem dX7_isEven_46 : decode cX7_isEven 46 = .ok (.istore 4, 2) := by decide +kernel
theorem dX7_isEven_48 : decode cX7_isEven 48 = .ok (.iload 4, 2) := by decide +kernel
theorem dX7_isEven_50 : decode cX7_isEven 50 = .ok (.bipush 15, 2) := by decide +kernel
theorem dX7_isEven_52 : decode cX7_isEven 52 = .ok (.if_icmp .gt 23, 3) := by decide +kernel
theorem dX7_isEven_55 : decode cX7_isEven 55 = .ok (.aload_n 1, 1) := by decide +kernel
theorem dX7_isEven_56 : decode cX7_isEven 56 = .ok (.iload 4, 2) := by decide +kernel
theorem dX7_isEven_58 : decode cX7_isEven 58 = .ok (.invokestatic 129, 3) := by decide +kernel
theorem dX7_isEven_61 : decode cX7_isEven 61 = .ok (.ifCond .eq 8, 3) := by decide +kernel
theorem dX7_isEven_64 : decode cX7_isEven 64 = .ok (.iload_n 2, 1) := by decide +kernel
theorem dX7_isEven_65 : decode cX7_isEven 65 = .ok (.iload 4, 2) := by decide +kernel
theorem dX7_isEven_67 : decode cX7_isEven 67 = .ok (.isub, 1) := by decide +kernel
theorem dX7_isEven_68 : decode cX7_isEven 68 = .ok (.istore_n 2, 1) := by decide +kernel
theorem dX7_isEven_69 : decode cX7_isEven 69 = .ok (.iinc 4 1, 3) := by decide +kernel
theorem dX7_isEven_72 : decode cX7_isEven 72 = .ok (.goto (-24), 3) := by decide +kernel
theorem dX7_isEven_75 : decode cX7_isEven 75 = .ok (.iload_n 3, 1) := by decide +kernel
theorem dX7_isEven_76 : decode cX7_isEven 76 = .ok (.iconst 2, 1) := by decide +kernel
theorem dX7_isEven_77 : decode cX7_isEven 77 = .ok (.aload_n 1, 1) := by decide +kernel
theorem dX7_isEven_78 : decode cX7_isEven 78 = .ok (.iconst 2, 1) := by decide +kernel
theorem dX7_isEven_79 : decode cX7_isEven 79 = .ok (.iaload, 1) := by decide +kernel
theorem dX7_isEven_80 : decode cX7_isEven 80 = .ok (.invokestatic 143, 3) := by decide +kernel
theorem dX7_isEven_83 : decode cX7_isEven 83 = .ok (.imul, 1) := by decide +kernel
theorem dX7_isEven_84 : decode cX7_isEven 84 = .ok (.if_icmp .ne 13, 3) := by decide +kernel
theorem dX7_isEven_87 : decode cX7_isEven 87 = .ok (.iload_n 2, 1) := by decide +kernel
theorem dX7_isEven_88 : decode cX7_isEven 88 = .ok (.iconst 2, 1) := by decide +kernel
theorem dX7_isEven_89 : decode cX7_isEven 89 = .ok (.irem, 1) := by decide +kernel
theorem dX7_isEven_90 : decode cX7_isEven 90 = .ok (.ifCond .ne 7, 3) := by decide +kernel
theorem dX7_isEven_93 : decode cX7_isEven 93 = .ok (.iconst 1, 1) := by decide +kernel
theorem dX7_isEven_94 : decode cX7_isEven 94 = .ok (.goto 4, 3) := by decide +kernel
theorem dX7_isEven_97 : decode cX7_isEven 97 = .ok (.iconst 0, 1) := by decide +kernel
theorem dX7_isEven_98 : decode cX7_isEven 98 = .ok (.ireturn, 1) := by decide +kernel
set_option maxRecDepth 20000 in
theorem ggX7_fills_X7_has : GoodIn wsX7_fills wsX7_has := goodIn_r _ [5] (by decide +kernel) (by decide +kernel)
set_option maxRecDepth 20000 in
theorem gX7_fills_X7_has : GoodIn wsX7_fills (va_wsS RX7 125 yX7_has wsX7_has) := goodIn_app (goodIn_of _ (by decide +kernel)) ggX7_fills_X7_has
set_option maxRecDepth 20000 in
theorem ggX7_fills_X7_counts : GoodIn wsX7_fills wsX7_counts := goodIn_r _ [9, 10, 11, 12, 1, 13, 14, 15, 19, 20, 21, 22, 23, 24, 25, 26, 27, 28, 29, 30, 31, 32, 33, 34, 35, 36, 37, 38, 39, 40, 41, 42, 43, 44, 45, 46, 47, 48, 49] (by decide +kernel) (by decide +kernel)
set_option maxRecDepth 20000 in
theorem gX7_fills_X7_counts : GoodIn wsX7_fills (wsV RX7 192 RX7 yX7_counts wsX7_counts) := goodIn_app (goodIn_of _ (by decide +kernel)) ggX7_fills_X7_counts
set_option maxRecDepth 20000 in
theorem ggX7_fills_X7_fills : GoodIn wsX7_fills wsX7_fills := goodIn_r _ [0, 1, 2, 3, 4, 5, 6, 7, 8, 9, 10, 11, 12, 13, 14, 15, 16, 17, 18, 19, 20, 21, 22, 23, 24, 25, 26, 27, 28, 29, 30, 31, 32, 33, 34, 35, 36, 37, 38, 39, 40, 41, 42, 43, 44, 45, 46, 47, 48, 49] (by decide +kernel) (by decide +kernel)
set_option maxRecDepth 20000 in
theorem gX7_fills_X7_fills : GoodIn wsX7_fills (wsV RX7 196 RX7 yX7_fills wsX7_fills) := goodIn_app (goodIn_of _ (by decide +kernel)) ggX7_fills_X7_fills
theorem dX7_fills_0 : decode cX7_fills 0 = .ok (.iload_n 2, 1) := by decide +kernel
theorem dX7_fills_1 : decode cX7_fills 1 = .ok (.istore 4, 2) := by decide +kernel
theorem dX7_fills_3 : decode cX7_fills 3 = .ok (.iload 4, 2) := by decide +kernel
theorem dX7_fills_5 : decode cX7_fills 5 = .ok (.aload_n 1, 1) := by decide +kernel
theorem dX7_fills_6 : decode cX7_fills 6 = .ok (.iconst 0, 1) := by decide +kernel
theorem dX7_fills_7 : decode cX7_fills 7 = .ok (.iaload, 1) := by decide +kernel
theorem dX7_fills_8 : decode cX7_fills 8 = .ok (.if_icmp .gt 34, 3) := by decide +kernel
theorem dX7_fills_11 : decode cX7_fills 11 = .ok (.aload_n 1, 1) := by decide +kernel
theorem dX7_fills_12 : decode cX7_fills 12 = .ok (.iconst 1, 1) := by decide +kernel
theorem dX7_fills_13 : decode cX7_fills 13 = .ok (.iaload, 1) := by decide +kernel
theorem dX7_fills_14 : decode cX7_fills 14 = .ok (.iload 4, 2) := by decide +kernel
theorem dX7_fills_16 : decode cX7_fills 16 = .ok (.iconst 1, 1) := by decide +kernel
theorem dX7_fills_17 : decode cX7_fills 17 = .ok (.isub, 1) := by decide +kernel
theorem dX7_fills_18 : decode cX7_fills 18 = .ok (.invokestatic 125, 3) := by decide +kernel
theorem dX7_fills_21 : decode cX7_fills 21 = .ok (.ifCond .ne 15, 3) := by decide +kernel
theorem dX7_fills_24 : decode cX7_fills 24 = .ok (.aload_n 0, 1) := by decide +kernel
theorem dX7_fills_25 : decode cX7_fills 25 = .ok (.getfield 104, 3) := by decide +kernel
theorem dX7_fills_28 : decode cX7_fills 28 = .ok (.iload 4, 2) := by decide +kernel
theorem dX7_fills_30 : decode cX7_fills 30 = .ok (.iconst 1, 1) := by decide +kernel
theorem dX7_fills_31 : decode cX7_fills 31 = .ok (.isub, 1) := by decide +kernel
theorem dX7_fills_32 : decode cX7_fills 32 = .ok (.iaload, 1) := by decide +kernel
theorem dX7_fills_33 : decode cX7_fills 33 = .ok (.ifCond .le 9, 3) := by decide +kernel
theorem dX7_fills_36 : decode cX7_fills 36 = .ok (.iinc 4 1, 3) := by decide +kernel
theorem dX7_fills_39 : decode cX7_fills 39 = .ok (.goto (-36), 3) := by decide +kernel
theorem dX7_fills_42 : decode cX7_fills 42 = .ok (.iload 4, 2) := by decide +kernel
theorem dX7_fills_44 : decode cX7_fills 44 = .ok (.aload_n 1, 1) := by decide +kernel
theorem dX7_fills_45 : decode cX7_fills 45 = .ok (.iconst 0, 1) := by decide +kernel
theorem dX7_fills_46 : decode cX7_fills 46 = .ok (.iaload, 1) := by decide +kernel
theorem dX7_fills_47 : decode cX7_fills 47 = .ok (.if_icmp .le 13, 3) := by decide +kernel
theorem dX7_fills_50 : decode cX7_fills 50 = .ok (.iload_n 3, 1) := by decide +kernel
theorem dX7_fills_51 : decode cX7_fills 51 = .ok (.ifCond .ne 8, 3) := by decide +kernel
theorem dX7_fills_54 : decode cX7_fills 54 = .ok (.aload_n 0, 1) := by decide +kernel
theorem dX7_fills_55 : decode cX7_fills 55 = .ok (.aload_n 1, 1) := by decide +kernel
theorem dX7_fills_56 : decode cX7_fills 56 = .ok (.invokevirtual 192, 3) := by decide +kernel
theorem dX7_fills_59 : decode cX7_fills 59 = .ok (.return_, 1) := by decide +kernel
theorem dX7_fills_60 : decode cX7_fills 60 = .ok (.iconst 1, 1) := by decide +kernel
theorem dX7_fills_61 : decode cX7_fills 61 = .ok (.istore 5, 2) := by decide +kernel
theorem dX7_fills_63 : decode cX7_fills 63 = .ok (.iload 5, 2) := by decide +kernel
theorem dX7_fills_65 : decode cX7_fills 65 = .ok (.bipush 15, 2) := by decide +kernel
theorem dX7_fills_67 : decode cX7_fills 67 = .ok (.if_icmp .gt 152, 3) := by decide +kernel
theorem dX7_fills_70 : decode cX7_fills 70 = .ok (.iload 4, 2) := by decide +kernel
theorem dX7_fills_72 : decode cX7_fills 72 = .ok (.iload 5, 2) := by decide +kernel
theorem dX7_fills_74 : decode cX7_fills 74 = .ok (.iadd, 1) := by decide +kernel
theorem dX7_fills_75 : decode cX7_fills 75 = .ok (.aload_n 1, 1) := by decide +kernel
theorem dX7_fills_76 : decode cX7_fills 76 = .ok (.iconst 0, 1) := by decide +kernel
theorem dX7_fills_77 : decode cX7_fills 77 = .ok (.iaload, 1) := by decide +kernel
theorem dX7_fills_78 : decode cX7_fills 78 = .ok (.if_icmp .gt 141, 3) := by decide +kernel
theorem dX7_fills_81 : decode cX7_fills 81 = .ok (.iload_n 3, 1) := by decide +kernel
theorem dX7_fills_82 : decode cX7_fills 82 = .ok (.iload 5, 2) := by decide +kernel
theorem dX7_fills_84 : decode cX7_fills 84 = .ok (.iconst 1, 1) := by decide +kernel
theorem dX7_fills_85 : decode cX7_fills 85 = .ok (.isub, 1) := by decide +kernel
theorem dX7_fills_86 : decode cX7_fills 86 = .ok (.invokestatic 125, 3) := by decide +kernel
theorem dX7_fills_89 : decode cX7_fills 89 = .ok (.ifCond .eq 124, 3) := by decide +kernel
theorem dX7_fills_92 : decode cX7_fills 92 = .ok (.aload_n 1, 1) := by decide +kernel
theorem dX7_fills_93 : decode cX7_fills 93 = .ok (.iconst 3, 1) := by decide +kernel
theorem dX7_fills_94 : decode cX7_fills 94 = .ok (.iload 5, 2) := by decide +kernel
theorem dX7_fills_96 : decode cX7_fills 96 = .ok (.iadd, 1) := by decide +kernel
theorem dX7_fills_97 : decode cX7_fills 97 = .ok (.iaload, 1) := by decide +kernel
theorem dX7_fills_98 : decode cX7_fills 98 = .ok (.ifCond .le 14, 3) := by decide +kernel
theorem dX7_fills_101 : decode cX7_fills 101 = .ok (.aload_n 1, 1) := by decide +kernel
theorem dX7_fills_102 : decode cX7_fills 102 = .ok (.iconst 3, 1) := by decide +kernel
theorem dX7_fills_103 : decode cX7_fills 103 = .ok (.iload 5, 2) := by decide +kernel
theorem dX7_fills_105 : decode cX7_fills 105 = .ok (.iadd, 1) := by decide +kernel
theorem dX7_fills_106 : decode cX7_fills 106 = .ok (.iaload, 1) := by decide +kernel
theorem dX7_fills_107 : decode cX7_fills 107 = .ok (.iload 4, 2) := by decide +kernel
theorem dX7_fills_109 : decode cX7_fills 109 = .ok (.if_icmp .ne 104, 3) := by decide +kernel
theorem dX7_fills_112 : decode cX7_fills 112 = .ok (.aload_n 1, 1) := by decide +kernel
theorem dX7_fills_113 : decode cX7_fills 113 = .ok (.iconst 1, 1) := by decide +kernel
theorem dX7_fills_114 : decode cX7_fills 114 = .ok (.iaload, 1) := by decide +kernel
theorem dX7_fills_115 : decode cX7_fills 115 = .ok (.iload 4, 2) := by decide +kernel
theorem dX7_fills_117 : decode cX7_fills 117 = .ok (.iload 5, 2) := by decide +kernel
theorem dX7_fills_119 : decode cX7_fills 119 = .ok (.iadd, 1) := by decide +kernel
theorem dX7_fills_120 : decode cX7_fills 120 = .ok (.iconst 1, 1) := by decide +kernel
theorem dX7_fills_121 : decode cX7_fills 121 = .ok (.isub, 1) := by decide +kernel
theorem dX7_fills_122 : decode cX7_fills 122 = .ok (.invokestatic 125, 3) := by decide +kernel
theorem dX7_fills_125 : decode cX7_fills 125 = .ok (.ifCond .ne 88, 3) := by decide +kernel
theorem dX7_fills_128 : decode cX7_fills 128 = .ok (.aload_n 0, 1) := by decide +kernel
theorem dX7_fills_129 : decode cX7_fills 129 = .ok (.getfield 104, 3) := by decide +kernel
theorem dX7_fills_132 : decode cX7_fills 132 = .ok (.iload 4, 2) := by decide +kernel
theorem dX7_fills_134 : decode cX7_fills 134 = .ok (.iload 5, 2) := by decide +kernel
theorem dX7_fills_136 : decode cX7_fills 136 = .ok (.iadd, 1) := by decide +kernel
theorem dX7_fills_137 : decode cX7_fills 137 = .ok (.iconst 1, 1) := by decide +kernel
theorem dX7_fills_138 : decode cX7_fills 138 = .ok (.isub, 1) := by decide +kernel
theorem dX7_fills_139 : decode cX7_fills 139 = .ok (.iaload, 1) := by decide +kernel
theorem dX7_fills_140 : decode cX7_fills 140 = .ok (.ifCond .le 6, 3) := by decide +kernel
theorem dX7_fills_143 : decode cX7_fills 143 = .ok (.goto 70, 3) := by decide +kernel
theorem dX7_fills_146 : decode cX7_fills 146 = .ok (.aload_n 0, 1) := by decide +kernel
theorem dX7_fills_147 : decode cX7_fills 147 = .ok (.getfield 104, 3) := by decide +kernel
theorem dX7_fills_150 : decode cX7_fills 150 = .ok (.iload 4, 2) := by decide +kernel
theorem dX7_fills_152 : decode cX7_fills 152 = .ok (.iconst 1, 1) := by decide +kernel
theorem dX7_fills_153 : decode cX7_fills 153 = .ok (.isub, 1) := by decide +kernel
theorem dX7_fills_154 : decode cX7_fills 154 = .ok (.iload 5, 2) := by decide +kernel
theorem dX7_fills_156 : decode cX7_fills 156 = .ok (.iastore, 1) := by decide +kernel
theorem dX7_fills_157 : decode cX7_fills 157 = .ok (.aload_n 0, 1) := by decide +kernel
theorem dX7_fills_158 : decode cX7_fills 158 = .ok (.getfield 104, 3) := by decide +kernel
theorem dX7_fills_161 : decode cX7_fills 161 = .ok (.iload 4, 2) := by decide +kernel
theorem dX7_fills_163 : decode cX7_fills 163 = .ok (.iload 5, 2) := by decide +kernel
theorem dX7_fills_165 : decode cX7_fills 165 = .ok (.iadd, 1) := by decide +kernel
theorem dX7_fills_166 : decode cX7_fills 166 = .ok (.iconst 1, 1) := by decide +kernel
theorem dX7_fills_167 : decode cX7_fills 167 = .ok (.isub, 1) := by decide +kernel
theorem dX7_fills_168 : decode cX7_fills 168 = .ok (.iload 5, 2) := by decide +kernel
theorem dX7_fills_170 : decode cX7_fills 170 = .ok (.iastore, 1) := by decide +kernel
theorem dX7_fills_171 : decode cX7_fills 171 = .ok (.aload_n 0, 1) := by decide +kernel
theorem dX7_fills_172 : decode cX7_fills 172 = .ok (.aload_n 1, 1) := by decide +kernel
theorem dX7_fills_173 : decode cX7_fills 173 = .ok (.iload 4, 2) := by decide +kernel
theorem dX7_fills_175 : decode cX7_fills 175 = .ok (.iconst 1, 1) := by decide +kernel
theorem dX7_fills_176 : decode cX7_fills 176 = .ok (.iadd, 1) := by decide +kernel
theorem dX7_fills_177 : decode cX7_fills 177 = .ok (.iload_n 3, 1) := by decide +kernel
theorem dX7_fills_178 : decode cX7_fills 178 = .ok (.iconst 1, 1) := by decide +kernel
theorem dX7_fills_179 : decode cX7_fills 179 = .ok (.iload 5, 2) := by decide +kernel
theorem dX7_fills_181 : decode cX7_fills 181 = .ok (.iconst 1, 1) := by decide +kernel
theorem dX7_fills_182 : decode cX7_fills 182 = .ok (.isub, 1) := by decide +kernel
theorem dX7_fills_183 : decode cX7_fills 183 = .ok (.ishl, 1) := by decide +kernel
theorem dX7_fills_184 : decode cX7_fills 184 = .ok (.iconst (-1), 1) := by decide +kernel
theorem dX7_fills_185 : decode cX7_fills 185 = .ok (.ixor, 1) := by decide +kernel
theorem dX7_fills_186 : decode cX7_fills 186 = .ok (.iand, 1) := by decide +kernel
theorem dX7_fills_187 : decode cX7_fills 187 = .ok (.invokevirtual 196, 3) := by decide +kernel
theorem dX7_fills_190 : decode cX7_fills 190 = .ok (.aload_n 0, 1) := by decide +kernel
theorem dX7_fills_191 : decode cX7_fills 191 = .ok (.getfield 104, 3) := by decide +kernel
theorem dX7_fills_194 : decode cX7_fills 194 = .ok (.iload 4, 2) := by decide +kernel
theorem dX7_fills_196 : decode cX7_fills 196 = .ok (.iconst 1, 1) := by decide +kernel
theorem dX7_fills_197 : decode cX7_fills 197 = .ok (.isub, 1) := by decide +kernel
theorem dX7_fills_198 : decode cX7_fills 198 = .ok (.iconst 0, 1) := by decide +kernel
theorem dX7_fills_199 : decode cX7_fills 199 = .ok (.iastore, 1) := by decide +kernel
theorem dX7_fills_200 : decode cX7_fills 200 = .ok (.aload_n 0, 1) := by decide +kernel
theorem dX7_fills_201 : decode cX7_fills 201 = .ok (.getfield 104, 3) := by decide +kernel
theorem dX7_fills_204 : decode cX7_fills 204 = .ok (.iload 4, 2) := by decide +kernel
theorem dX7_fills_206 : decode cX7_fills 206 = .ok (.iload 5, 2) := by decide +kernel
theorem dX7_fills_208 : decode cX7_fills 208 = .ok (.iadd, 1) := by decide +kernel
theorem dX7_fills_209 : decode cX7_fills 209 = .ok (.iconst 1, 1) := by decide +kernel
theorem dX7_fills_210 : decode cX7_fills 210 = .ok (.isub, 1) := by decide +kernel
theorem dX7_fills_211 : decode cX7_fills 211 = .ok (.iconst 0, 1) := by decide +kernel
theorem dX7_fills_212 : decode cX7_fills 212 = .ok (.iastore, 1) := by decide +kernel
theorem dX7_fills_213 : decode cX7_fills 213 = .ok (.iinc 5 1, 3) := by decide +kernel
theorem dX7_fills_216 : decode cX7_fills 216 = .ok (.goto (-153), 3) := by decide +kernel
theorem dX7_fills_219 : decode cX7_fills 219 = .ok (.return_, 1) := by decide +kernel
theorem dX7_counts_0 : decode cX7_counts 0 = .ok (.iconst 1, 1) := by decide +kernel
theorem dX7_counts_1 : decode cX7_counts 1 = .ok (.istore_n 2, 1) := by decide +kernel
theorem dX7_counts_2 : decode cX7_counts 2 = .ok (.iconst 0, 1) := by decide +kernel
theorem dX7_counts_3 : decode cX7_counts 3 = .ok (.istore_n 3, 1) := by decide +kernel
theorem dX7_counts_4 : decode cX7_counts 4 = .ok (.iload_n 3, 1) := by decide +kernel
theorem dX7_counts_5 : decode cX7_counts 5 = .ok (.aload_n 1, 1) := by decide +kernel
theorem dX7_counts_6 : decode cX7_counts 6 = .ok (.iconst 0, 1) := by decide +kernel
theorem dX7_counts_7 : decode cX7_counts 7 = .ok (.iaload, 1) := by decide +kernel
theorem dX7_counts_8 : decode cX7_counts 8 = .ok (.if_icmp .ge 110, 3) := by decide +kernel
theorem dX7_counts_11 : decode cX7_counts 11 = .ok (.aload_n 0, 1) := by decide +kernel
theorem dX7_counts_12 : decode cX7_counts 12 = .ok (.getfield 199, 3) := by decide +kernel
theorem dX7_counts_15 : decode cX7_counts 15 = .ok (.aload_n 0, 1) := by decide +kernel
theorem dX7_counts_16 : decode cX7_counts 16 = .ok (.getfield 202, 3) := by decide +kernel
theorem dX7_counts_19 : decode cX7_counts 19 = .ok (.if_icmp .ne 15, 3) := by decide +kernel
theorem dX7_counts_22 : decode cX7_counts 22 = .ok (.aload_n 0, 1) := by decide +kernel
theorem dX7_counts_23 : decode cX7_counts 23 = .ok (.getfield 107, 3) := by decide +kernel
theorem dX7_counts_26 : decode cX7_counts 26 = .ok (.iload_n 3, 1) := by decide +kernel
theorem dX7_counts_27 : decode cX7_counts 27 = .ok (.aload_n 0, 1) := by decide +kernel
theorem dX7_counts_28 : decode cX7_counts 28 = .ok (.getfield 104, 3) := by decide +kernel
theorem dX7_counts_31 : decode cX7_counts 31 = .ok (.iload_n 3, 1) := by decide +kernel
theorem dX7_counts_32 : decode cX7_counts 32 = .ok (.iaload, 1) := by decide +kernel
theorem dX7_counts_33 : decode cX7_counts 33 = .ok (.iastore, 1) := by decide +kernel
theorem dX7_counts_34 : decode cX7_counts 34 = .ok (.iload_n 2, 1) := by decide +kernel
theorem dX7_counts_35 : decode cX7_counts 35 = .ok (.ifCond .eq 22, 3) := by decide +kernel
theorem dX7_counts_38 : decode cX7_counts 38 = .ok (.aload_n 0, 1) := by decide +kernel
theorem dX7_counts_39 : decode cX7_counts 39 = .ok (.getfield 104, 3) := by decide +kernel
theorem dX7_counts_42 : decode cX7_counts 42 = .ok (.iload_n 3, 1) := by decide +kernel
theorem dX7_counts_43 : decode cX7_counts 43 = .ok (.iaload, 1) := by decide +kernel
theorem dX7_counts_44 : decode cX7_counts 44 = .ok (.aload_n 0, 1) := by decide +kernel
theorem dX7_counts_45 : decode cX7_counts 45 = .ok (.getfield 110, 3) := by decide +kernel
theorem dX7_counts_48 : decode cX7_counts 48 = .ok (.iload_n 3, 1) := by decide +kernel
theorem dX7_counts_49 : decode cX7_counts 49 = .ok (.iaload, 1) := by decide +kernel
theorem dX7_counts_50 : decode cX7_counts 50 = .ok (.if_icmp .ne 7, 3) := by decide +kernel
theorem dX7_counts_53 : decode cX7_counts 53 = .ok (.iconst 1, 1) := by decide +kernel
theorem dX7_counts_54 : decode cX7_counts 54 = .ok (.goto 4, 3) := by decide +kernel
theorem dX7_counts_57 : decode cX7_counts 57 = .ok (.iconst 0, 1) := by decide +kernel
theorem dX7_counts_58 : decode cX7_counts 58 = .ok (.istore_n 2, 1) := by decide +kernel
theorem dX7_counts_59 : decode cX7_counts 59 = .ok (.aload_n 0, 1) := by decide +kernel
theorem dX7_counts_60 : decode cX7_counts 60 = .ok (.getfield 104, 3) := by decide +kernel
theorem dX7_counts_63 : decode cX7_counts 63 = .ok (.iload_n 3, 1) := by decide +kernel
theorem dX7_counts_64 : decode cX7_counts 64 = .ok (.iaload, 1) := by decide +kernel
theorem dX7_counts_65 : decode cX7_counts 65 = .ok (.istore 4, 2) := by decide +kernel
theorem dX7_counts_67 : decode cX7_counts 67 = .ok (.iload 4, 2) := by decide +kernel
theorem dX7_counts_69 : decode cX7_counts 69 = .ok (.ifCond .le 43, 3) := by decide +kernel
theorem dX7_counts_72 : decode cX7_counts 72 = .ok (.iload_n 3, 1) := by decide +kernel
theorem dX7_counts_73 : decode cX7_counts 73 = .ok (.iload 4, 2) := by decide +kernel
theorem dX7_counts_75 : decode cX7_counts 75 = .ok (.iadd, 1) := by decide +kernel
theorem dX7_counts_76 : decode cX7_counts 76 = .ok (.aload_n 1, 1) := by decide +kernel
theorem dX7_counts_77 : decode cX7_counts 77 = .ok (.iconst 0, 1) := by decide +kernel
theorem dX7_counts_78 : decode cX7_counts 78 = .ok (.iaload, 1) := by decide +kernel
theorem dX7_counts_79 : decode cX7_counts 79 = .ok (.if_icmp .ge 33, 3) := by decide +kernel
theorem dX7_counts_82 : decode cX7_counts 82 = .ok (.aload_n 0, 1) := by decide +kernel
theorem dX7_counts_83 : decode cX7_counts 83 = .ok (.getfield 104, 3) := by decide +kernel
theorem dX7_counts_86 : decode cX7_counts 86 = .ok (.iload_n 3, 1) := by decide +kernel
theorem dX7_counts_87 : decode cX7_counts 87 = .ok (.iload 4, 2) := by decide +kernel
theorem dX7_counts_89 : decode cX7_counts 89 = .ok (.iadd, 1) := by decide +kernel
theorem dX7_counts_90 : decode cX7_counts 90 = .ok (.iaload, 1) := by decide +kernel
theorem dX7_counts_91 : decode cX7_counts 91 = .ok (.iload 4, 2) := by decide +kernel
theorem dX7_counts_93 : decode cX7_counts 93 = .ok (.if_icmp .ne 19, 3) := by decide +kernel
theorem dX7_counts_96 : decode cX7_counts 96 = .ok (.aload_n 0, 1) := by decide +kernel
theorem dX7_counts_97 : decode cX7_counts 97 = .ok (.getfield 113, 3) := by decide +kernel
theorem dX7_counts_100 : decode cX7_counts 100 = .ok (.bipush 20, 2) := by decide +kernel
theorem dX7_counts_102 : decode cX7_counts 102 = .ok (.iload 4, 2) := by decide +kernel
theorem dX7_counts_104 : decode cX7_counts 104 = .ok (.imul, 1) := by decide +kernel
theorem dX7_counts_105 : decode cX7_counts 105 = .ok (.iload_n 3, 1) := by decide +kernel
theorem dX7_counts_106 : decode cX7_counts 106 = .ok (.iadd, 1) := by decide +kernel
theorem dX7_counts_107 : decode cX7_counts 107 = .ok (.dup2, 1) := by decide +kernel
theorem dX7_counts_108 : decode cX7_counts 108 = .ok (.iaload, 1) := by decide +kernel
theorem dX7_counts_109 : decode cX7_counts 109 = .ok (.iconst 1, 1) := by decide +kernel
theorem dX7_counts_110 : decode cX7_counts 110 = .ok (.iadd, 1) := by decide +kernel
theorem dX7_counts_111 : decode cX7_counts 111 = .ok (.iastore, 1) := by decide +kernel
theorem dX7_counts_112 : decode cX7_counts 112 = .ok (.iinc 3 1, 3) := by decide +kernel
theorem dX7_counts_115 : decode cX7_counts 115 = .ok (.goto (-111), 3) := by decide +kernel
theorem dX7_counts_118 : decode cX7_counts 118 = .ok (.iload_n 2, 1) := by decide +kernel
theorem dX7_counts_119 : decode cX7_counts 119 = .ok (.ifCond .eq 11, 3) := by decide +kernel
theorem dX7_counts_122 : decode cX7_counts 122 = .ok (.aload_n 0, 1) := by decide +kernel
theorem dX7_counts_123 : decode cX7_counts 123 = .ok (.aload_n 0, 1) := by decide +kernel
theorem dX7_counts_124 : decode cX7_counts 124 = .ok (.getfield 199, 3) := by decide +kernel
theorem dX7_counts_127 : decode cX7_counts 127 = .ok (.putfield 205, 3) := by decide +kernel
theorem dX7_counts_130 : decode cX7_counts 130 = .ok (.aload_n 0, 1) := by decide +kernel
theorem dX7_counts_131 : decode cX7_counts 131 = .ok (.dup, 1) := by decide +kernel
theorem dX7_counts_132 : decode cX7_counts 132 = .ok (.getfield 199, 3) := by decide +kernel
theorem dX7_counts_135 : decode cX7_counts 135 = .ok (.iconst 1, 1) := by decide +kernel
theorem dX7_counts_136 : decode cX7_counts 136 = .ok (.iadd, 1) := by decide +kernel
theorem dX7_counts_137 : decode cX7_counts 137 = .ok (.putfield 199, 3) := by decide +kernel
theorem dX7_counts_140 : decode cX7_counts 140 = .ok (.return_, 1) := by decide +kernel
set_option maxRecDepth 20000 in
theorem ggX7_all_X7_isEven : GoodIn wsX7_all wsX7_isEven := goodIn_r _ [10, 11, 12, 9, 13, 14, 15, 16, 17, 18, 19, 20, 21, 22] (by decide +kernel) (by decide +kernel)
set_option maxRecDepth 20000 in
theorem gX7_all_X7_isEven : GoodIn wsX7_all (wsV RX7 208 RX7 yX7_isEven wsX7_isEven) := goodIn_app (goodIn_of _ (by decide +kernel)) ggX7_all_X7_isEven
set_option maxRecDepth 20000 in
theorem ggX7_all_X7_fills : GoodIn wsX7_all wsX7_fills := goodIn_r _ [26, 4, 11, 12, 9, 13, 27, 28, 29, 30, 1, 2, 31, 32, 5, 3, 23, 24, 25, 33, 34, 35, 36, 37, 38, 39, 40, 41, 42, 43, 44, 45, 46, 47, 48, 49, 50, 51, 52, 53, 54, 55, 56, 57, 58, 59, 60, 61, 62, 63] (by decide +kernel) (by decide +kernel)
set_option maxRecDepth 20000 in
theorem gX7_all_X7_fills : GoodIn wsX7_all (wsV RX7 196 RX7 yX7_fills wsX7_fills) := goodIn_app (goodIn_of _ (by decide +kernel)) ggX7_all_X7_fills
theorem dX7_all_0 : decode cX7_all 0 = .ok (.aload_n 0, 1) := by decide +kernel
theorem dX7_all_1 : decode cX7_all 1 = .ok (.iconst 0, 1) := by decide +kernel
theorem dX7_all_2 : decode cX7_all 2 = .ok (.putfield 199, 3) := by decide +kernel
theorem dX7_all_5 : decode cX7_all 5 = .ok (.aload_n 0, 1) := by decide +kernel
theorem dX7_all_6 : decode cX7_all 6 = .ok (.iload_n 2, 1) := by decide +kernel
theorem dX7_all_7 : decode cX7_all 7 = .ok (.putfield 202, 3) := by decide +kernel
theorem dX7_all_10 : decode cX7_all 10 = .ok (.aload_n 0, 1) := by decide +kernel
theorem dX7_all_11 : decode cX7_all 11 = .ok (.iconst (-1), 1) := by decide +kernel
theorem dX7_all_12 : decode cX7_all 12 = .ok (.putfield 205, 3) := by decide +kernel
theorem dX7_all_15 : decode cX7_all 15 = .ok (.iconst 0, 1) := by decide +kernel
theorem dX7_all_16 : decode cX7_all 16 = .ok (.istore_n 3, 1) := by decide +kernel
theorem dX7_all_17 : decode cX7_all 17 = .ok (.iload_n 3, 1) := by decide +kernel
theorem dX7_all_18 : decode cX7_all 18 = .ok (.bipush 18, 2) := by decide +kernel
theorem dX7_all_20 : decode cX7_all 20 = .ok (.if_icmp .ge 16, 3) := by decide +kernel
theorem dX7_all_23 : decode cX7_all 23 = .ok (.aload_n 0, 1) := by decide +kernel
theorem dX7_all_24 : decode cX7_all 24 = .ok (.getfield 104, 3) := by decide +kernel
theorem dX7_all_27 : decode cX7_all 27 = .ok (.iload_n 3, 1) := by decide +kernel
theorem dX7_all_28 : decode cX7_all 28 = .ok (.iconst 0, 1) := by decide +kernel
theorem dX7_all_29 : decode cX7_all 29 = .ok (.iastore, 1) := by decide +kernel
theorem dX7_all_30 : decode cX7_all 30 = .ok (.iinc 3 1, 3) := by decide +kernel
theorem dX7_all_33 : decode cX7_all 33 = .ok (.goto (-16), 3) := by decide +kernel
theorem dX7_all_36 : decode cX7_all 36 = .ok (.iconst 0, 1) := by decide +kernel
theorem dX7_all_37 : decode cX7_all 37 = .ok (.istore_n 3, 1) := by decide +kernel
theorem dX7_all_38 : decode cX7_all 38 = .ok (.iload_n 3, 1) := by decide +kernel
theorem dX7_all_39 : decode cX7_all 39 = .ok (.sipush 320, 3) := by decide +kernel
theorem dX7_all_42 : decode cX7_all 42 = .ok (.if_icmp .ge 16, 3) := by decide +kernel
theorem dX7_all_45 : decode cX7_all 45 = .ok (.aload_n 0, 1) := by decide +kernel
theorem dX7_all_46 : decode cX7_all 46 = .ok (.getfield 113, 3) := by decide +kernel
theorem dX7_all_49 : decode cX7_all 49 = .ok (.iload_n 3, 1) := by decide +kernel
theorem dX7_all_50 : decode cX7_all 50 = .ok (.iconst 0, 1) := by decide +kernel
theorem dX7_all_51 : decode cX7_all 51 = .ok (.iastore, 1) := by decide +kernel
theorem dX7_all_52 : decode cX7_all 52 = .ok (.iinc 3 1, 3) := by decide +kernel
theorem dX7_all_55 : decode cX7_all 55 = .ok (.goto (-17), 3) := by decide +kernel
theorem dX7_all_58 : decode cX7_all 58 = .ok (.aload_n 0, 1) := by decide +kernel
theorem dX7_all_59 : decode cX7_all 59 = .ok (.aload_n 1, 1) := by decide +kernel
theorem dX7_all_60 : decode cX7_all 60 = .ok (.invokevirtual 208, 3) := by decide +kernel
theorem dX7_all_63 : decode cX7_all 63 = .ok (.ifCond .eq 12, 3) := by decide +kernel
theorem dX7_all_66 : decode cX7_all 66 = .ok (.aload_n 0, 1) := by decide +kernel
theorem dX7_all_67 : decode cX7_all 67 = .ok (.aload_n 1, 1) := by decide +kernel
theorem dX7_all_68 : decode cX7_all 68 = .ok (.iconst 1, 1) := by decide +kernel
theorem dX7_all_69 : decode cX7_all 69 = .ok (.aload_n 1, 1) := by decide +kernel
theorem dX7_all_70 : decode cX7_all 70 = .ok (.iconst 2, 1) := by decide +kernel
theorem dX7_all_71 : decode cX7_all 71 = .ok (.iaload, 1) := by decide +kernel
theorem dX7_all_72 : decode cX7_all 72 = .ok (.invokevirtual 196, 3) := by decide +kernel
theorem dX7_all_75 : decode cX7_all 75 = .ok (.aload_n 0, 1) := by decide +kernel
theorem dX7_all_76 : decode cX7_all 76 = .ok (.getfield 199, 3) := by decide +kernel
theorem dX7_all_79 : decode cX7_all 79 = .ok (.ireturn, 1) := by decide +kernel
set_option maxRecDepth 20000 in
theorem ggX7_ways_X7_all : GoodIn wsX7_ways wsX7_all := goodIn_r _ [7, 8, 9, 10, 11, 12, 13, 14, 15, 6, 16, 17, 18, 19, 20, 21, 22, 23, 24, 25, 26, 27, 28, 29, 30, 31, 32, 33, 34, 35, 36, 37, 38, 39, 40, 41, 42, 43, 44, 45, 46, 47, 48, 49, 50, 51, 52, 53, 54, 55, 56, 57, 58, 59, 60, 61, 62, 63, 64, 65, 66, 67, 68, 69] (by decide +kernel) (by decide +kernel)
set_option maxRecDepth 20000 in
theorem gX7_ways_X7_all : GoodIn wsX7_ways (wsV RX7 212 RX7 yX7_all wsX7_all) := goodIn_app (goodIn_of _ (by decide +kernel)) ggX7_ways_X7_all
theorem dX7_ways_0 : decode cX7_ways 0 = .ok (.aload_n 0, 1) := by decide +kernel
theorem dX7_ways_1 : decode cX7_ways 1 = .ok (.iconst 0, 1) := by decide +kernel
theorem dX7_ways_2 : decode cX7_ways 2 = .ok (.putfield 1, 3) := by decide +kernel
theorem dX7_ways_5 : decode cX7_ways 5 = .ok (.aload_n 0, 1) := by decide +kernel
theorem dX7_ways_6 : decode cX7_ways 6 = .ok (.aload_n 0, 1) := by decide +kernel
theorem dX7_ways_7 : decode cX7_ways 7 = .ok (.getfield 79, 3) := by decide +kernel
theorem dX7_ways_10 : decode cX7_ways 10 = .ok (.iconst (-1), 1) := by decide +kernel
theorem dX7_ways_11 : decode cX7_ways 11 = .ok (.invokevirtual 212, 3) := by decide +kernel
theorem dX7_ways_14 : decode cX7_ways 14 = .ok (.ireturn, 1) := by decide +kernel
theorem dX7_looks_0 : decode cX7_looks 0 = .ok (.aload_n 0, 1) := by decide +kernel
theorem dX7_looks_1 : decode cX7_looks 1 = .ok (.iload_n 2, 1) := by decide +kernel
theorem dX7_looks_2 : decode cX7_looks 2 = .ok (.putfield 119, 3) := by decide +kernel
theorem dX7_looks_5 : decode cX7_looks 5 = .ok (.iconst 0, 1) := by decide +kernel
theorem dX7_looks_6 : decode cX7_looks 6 = .ok (.istore_n 3, 1) := by decide +kernel
theorem dX7_looks_7 : decode cX7_looks 7 = .ok (.iload_n 3, 1) := by decide +kernel
theorem dX7_looks_8 : decode cX7_looks 8 = .ok (.iload_n 2, 1) := by decide +kernel
theorem dX7_looks_9 : decode cX7_looks 9 = .ok (.if_icmp .ge 18, 3) := by decide +kernel
theorem dX7_looks_12 : decode cX7_looks 12 = .ok (.aload_n 0, 1) := by decide +kernel
theorem dX7_looks_13 : decode cX7_looks 13 = .ok (.getfield 116, 3) := by decide +kernel
theorem dX7_looks_16 : decode cX7_looks 16 = .ok (.iload_n 3, 1) := by decide +kernel
theorem dX7_looks_17 : decode cX7_looks 17 = .ok (.aload_n 1, 1) := by decide +kernel
theorem dX7_looks_18 : decode cX7_looks 18 = .ok (.iload_n 3, 1) := by decide +kernel
theorem dX7_looks_19 : decode cX7_looks 19 = .ok (.iaload, 1) := by decide +kernel
theorem dX7_looks_20 : decode cX7_looks 20 = .ok (.iastore, 1) := by decide +kernel
theorem dX7_looks_21 : decode cX7_looks 21 = .ok (.iinc 3 1, 3) := by decide +kernel
theorem dX7_looks_24 : decode cX7_looks 24 = .ok (.goto (-17), 3) := by decide +kernel
theorem dX7_looks_27 : decode cX7_looks 27 = .ok (.return_, 1) := by decide +kernel
set_option maxRecDepth 20000 in
theorem ggX7_row_X7_all : GoodIn wsX7_row wsX7_all := goodIn_r _ [10, 11, 12, 13, 14, 15, 16, 17, 18, 9, 19, 20, 21, 22, 23, 24, 25, 26, 27, 28, 29, 30, 31, 32, 33, 34, 35, 36, 37, 38, 39, 3, 40, 49, 50, 51, 52, 53, 54, 55, 56, 57, 58, 59, 60, 61, 62, 63, 64, 65, 66, 67, 68, 69, 70, 71, 72, 73, 74, 75, 76, 77, 78, 79] (by decide +kernel) (by decide +kernel)
set_option maxRecDepth 20000 in
theorem gX7_row_X7_all : GoodIn wsX7_row (wsV RX7 212 RX7 yX7_all wsX7_all) := goodIn_app (goodIn_of _ (by decide +kernel)) ggX7_row_X7_all
set_option maxRecDepth 20000 in
theorem ggX7_row_X7_refuse : GoodIn wsX7_row wsX7_refuse := goodIn_r _ [44, 1, 49, 50, 51, 52, 53, 54, 55, 56, 57, 58, 59, 60, 61, 62, 63, 64, 65, 66, 67, 68, 69, 70, 71, 72, 73, 74, 75, 76, 77, 78, 79] (by decide +kernel) (by decide +kernel)
set_option maxRecDepth 20000 in
theorem gX7_row_X7_refuse : GoodIn wsX7_row (wsV RX7 215 RX7 yX7_refuse wsX7_refuse) := goodIn_app (goodIn_of _ (by decide +kernel)) ggX7_row_X7_refuse
set_option maxRecDepth 20000 in
theorem ggX7_row_X7_looks : GoodIn wsX7_row wsX7_looks := goodIn_r _ [48, 4, 5, 49, 50, 51, 52, 53, 54, 55, 56, 57, 58, 59, 60, 61, 62, 63, 64, 65, 66, 67, 68, 69, 70, 71, 72, 73, 74, 75, 76, 77, 78, 79] (by decide +kernel) (by decide +kernel)
set_option maxRecDepth 20000 in
theorem gX7_row_X7_looks : GoodIn wsX7_row (wsV RX7 219 RX7 yX7_looks wsX7_looks) := goodIn_app (goodIn_of _ (by decide +kernel)) ggX7_row_X7_looks
theorem dX7_row_0 : decode cX7_row 0 = .ok (.aload_n 0, 1) := by decide +kernel
theorem dX7_row_1 : decode cX7_row 1 = .ok (.iconst 0, 1) := by decide +kernel
theorem dX7_row_2 : decode cX7_row 2 = .ok (.putfield 1, 3) := by decide +kernel
theorem dX7_row_5 : decode cX7_row 5 = .ok (.iload_n 1, 1) := by decide +kernel
theorem dX7_row_6 : decode cX7_row 6 = .ok (.ifCond .lt 16, 3) := by decide +kernel
theorem dX7_row_9 : decode cX7_row 9 = .ok (.iload_n 1, 1) := by decide +kernel
theorem dX7_row_10 : decode cX7_row 10 = .ok (.aload_n 0, 1) := by decide +kernel
theorem dX7_row_11 : decode cX7_row 11 = .ok (.aload_n 0, 1) := by decide +kernel
theorem dX7_row_12 : decode cX7_row 12 = .ok (.getfield 79, 3) := by decide +kernel
theorem dX7_row_15 : decode cX7_row 15 = .ok (.iload_n 1, 1) := by decide +kernel
theorem dX7_row_16 : decode cX7_row 16 = .ok (.invokevirtual 212, 3) := by decide +kernel
theorem dX7_row_19 : decode cX7_row 19 = .ok (.if_icmp .lt 8, 3) := by decide +kernel
theorem dX7_row_22 : decode cX7_row 22 = .ok (.aload_n 0, 1) := by decide +kernel
theorem dX7_row_23 : decode cX7_row 23 = .ok (.invokevirtual 215, 3) := by decide +kernel
theorem dX7_row_26 : decode cX7_row 26 = .ok (.ireturn, 1) := by decide +kernel
theorem dX7_row_27 : decode cX7_row 27 = .ok (.aload_n 0, 1) := by decide +kernel
theorem dX7_row_28 : decode cX7_row 28 = .ok (.aload_n 0, 1) := by decide +kernel
theorem dX7_row_29 : decode cX7_row 29 = .ok (.getfield 107, 3) := by decide +kernel
theorem dX7_row_32 : decode cX7_row 32 = .ok (.aload_n 0, 1) := by decide +kernel
theorem dX7_row_33 : decode cX7_row 33 = .ok (.getfield 79, 3) := by decide +kernel
theorem dX7_row_36 : decode cX7_row 36 = .ok (.iconst 0, 1) := by decide +kernel
theorem dX7_row_37 : decode cX7_row 37 = .ok (.iaload, 1) := by decide +kernel
theorem dX7_row_38 : decode cX7_row 38 = .ok (.invokevirtual 219, 3) := by decide +kernel
theorem dX7_row_41 : decode cX7_row 41 = .ok (.aload_n 0, 1) := by decide +kernel
theorem dX7_row_42 : decode cX7_row 42 = .ok (.getfield 119, 3) := by decide +kernel
theorem dX7_row_45 : decode cX7_row 45 = .ok (.ifCond .ne 7, 3) := by decide +kernel
theorem dX7_row_48 : decode cX7_row 48 = .ok (.iconst (-1), 1) := by decide +kernel
theorem dX7_row_49 : decode cX7_row 49 = .ok (.goto 9, 3) := by decide +kernel
theorem dX7_row_52 : decode cX7_row 52 = .ok (.aload_n 0, 1) := by decide +kernel
theorem dX7_row_53 : decode cX7_row 53 = .ok (.getfield 116, 3) := by decide +kernel
theorem dX7_row_56 : decode cX7_row 56 = .ok (.iconst 0, 1) := by decide +kernel
theorem dX7_row_57 : decode cX7_row 57 = .ok (.iaload, 1) := by decide +kernel
theorem dX7_row_58 : decode cX7_row 58 = .ok (.ireturn, 1) := by decide +kernel
set_option maxRecDepth 20000 in
theorem ggX7_at_X7_isIn : GoodIn wsX7_at wsX7_isIn := goodIn_r _ [7] (by decide +kernel) (by decide +kernel)
set_option maxRecDepth 20000 in
theorem gX7_at_X7_isIn : GoodIn wsX7_at (va_wsS RX7 69 yX7_isIn wsX7_isIn) := goodIn_app (goodIn_of _ (by decide +kernel)) ggX7_at_X7_isIn
theorem dX7_at_0 : decode cX7_at 0 = .ok (.aload_n 0, 1) := by decide +kernel
theorem dX7_at_1 : decode cX7_at 1 = .ok (.iconst 0, 1) := by decide +kernel
theorem dX7_at_2 : decode cX7_at 2 = .ok (.putfield 1, 3) := by decide +kernel
theorem dX7_at_5 : decode cX7_at 5 = .ok (.iload_n 1, 1) := by decide +kernel
theorem dX7_at_6 : decode cX7_at 6 = .ok (.iconst 1, 1) := by decide +kernel
theorem dX7_at_7 : decode cX7_at 7 = .ok (.aload_n 0, 1) := by decide +kernel
theorem dX7_at_8 : decode cX7_at 8 = .ok (.getfield 119, 3) := by decide +kernel
theorem dX7_at_11 : decode cX7_at 11 = .ok (.invokestatic 69, 3) := by decide +kernel
theorem dX7_at_14 : decode cX7_at 14 = .ok (.ifCond .eq 14, 3) := by decide +kernel
theorem dX7_at_17 : decode cX7_at 17 = .ok (.aload_n 0, 1) := by decide +kernel
theorem dX7_at_18 : decode cX7_at 18 = .ok (.getfield 116, 3) := by decide +kernel
theorem dX7_at_21 : decode cX7_at 21 = .ok (.iload_n 1, 1) := by decide +kernel
theorem dX7_at_22 : decode cX7_at 22 = .ok (.iconst 1, 1) := by decide +kernel
theorem dX7_at_23 : decode cX7_at 23 = .ok (.isub, 1) := by decide +kernel
theorem dX7_at_24 : decode cX7_at 24 = .ok (.iaload, 1) := by decide +kernel
theorem dX7_at_25 : decode cX7_at 25 = .ok (.goto 4, 3) := by decide +kernel
theorem dX7_at_28 : decode cX7_at 28 = .ok (.iconst (-1), 1) := by decide +kernel
theorem dX7_at_29 : decode cX7_at 29 = .ok (.ireturn, 1) := by decide +kernel
theorem dX7_firstOf_0 : decode cX7_firstOf 0 = .ok (.iconst 0, 1) := by decide +kernel
theorem dX7_firstOf_1 : decode cX7_firstOf 1 = .ok (.istore_n 2, 1) := by decide +kernel
theorem dX7_firstOf_2 : decode cX7_firstOf 2 = .ok (.iload_n 2, 1) := by decide +kernel
theorem dX7_firstOf_3 : decode cX7_firstOf 3 = .ok (.aload_n 0, 1) := by decide +kernel
theorem dX7_firstOf_4 : decode cX7_firstOf 4 = .ok (.getfield 119, 3) := by decide +kernel
theorem dX7_firstOf_7 : decode cX7_firstOf 7 = .ok (.if_icmp .ge 27, 3) := by decide +kernel
theorem dX7_firstOf_10 : decode cX7_firstOf 10 = .ok (.iload_n 1, 1) := by decide +kernel
theorem dX7_firstOf_11 : decode cX7_firstOf 11 = .ok (.ifCond .le 23, 3) := by decide +kernel
theorem dX7_firstOf_14 : decode cX7_firstOf 14 = .ok (.aload_n 0, 1) := by decide +kernel
theorem dX7_firstOf_15 : decode cX7_firstOf 15 = .ok (.getfield 116, 3) := by decide +kernel
theorem dX7_firstOf_18 : decode cX7_firstOf 18 = .ok (.iload_n 2, 1) := by decide +kernel
theorem dX7_firstOf_19 : decode cX7_firstOf 19 = .ok (.iaload, 1) := by decide +kernel
theorem dX7_firstOf_20 : decode cX7_firstOf 20 = .ok (.iload_n 1, 1) := by decide +kernel
theorem dX7_firstOf_21 : decode cX7_firstOf 21 = .ok (.if_icmp .ne 7, 3) := by decide +kernel
theorem dX7_firstOf_24 : decode cX7_firstOf 24 = .ok (.iload_n 2, 1) := by decide +kernel
theorem dX7_firstOf_25 : decode cX7_firstOf 25 = .ok (.iconst 1, 1) := by decide +kernel
theorem dX7_firstOf_26 : decode cX7_firstOf 26 = .ok (.iadd, 1) := by decide +kernel
theorem dX7_firstOf_27 : decode cX7_firstOf 27 = .ok (.ireturn, 1) := by decide +kernel
theorem dX7_firstOf_28 : decode cX7_firstOf 28 = .ok (.iinc 2 1, 3) := by decide +kernel
theorem dX7_firstOf_31 : decode cX7_firstOf 31 = .ok (.goto (-29), 3) := by decide +kernel
theorem dX7_firstOf_34 : decode cX7_firstOf 34 = .ok (.iconst (-1), 1) := by decide +kernel
theorem dX7_firstOf_35 : decode cX7_firstOf 35 = .ok (.ireturn, 1) := by decide +kernel
set_option maxRecDepth 20000 in
theorem ggX7_first_X7_firstOf : GoodIn wsX7_first wsX7_firstOf := goodIn_r _ [6, 7, 8, 9, 10, 11, 12, 13, 14, 15, 16, 17, 18, 19, 20, 21, 22, 23, 24, 25, 26, 27, 28, 29, 30, 31, 32, 33, 34, 35, 36, 37, 38, 39] (by decide +kernel) (by decide +kernel)
set_option maxRecDepth 20000 in
theorem gX7_first_X7_firstOf : GoodIn wsX7_first (wsV RX7 223 RX7 yX7_firstOf wsX7_firstOf) := goodIn_app (goodIn_of _ (by decide +kernel)) ggX7_first_X7_firstOf
theorem dX7_first_0 : decode cX7_first 0 = .ok (.aload_n 0, 1) := by decide +kernel
theorem dX7_first_1 : decode cX7_first 1 = .ok (.iconst 0, 1) := by decide +kernel
theorem dX7_first_2 : decode cX7_first 2 = .ok (.putfield 1, 3) := by decide +kernel
theorem dX7_first_5 : decode cX7_first 5 = .ok (.aload_n 0, 1) := by decide +kernel
theorem dX7_first_6 : decode cX7_first 6 = .ok (.iload_n 1, 1) := by decide +kernel
theorem dX7_first_7 : decode cX7_first 7 = .ok (.invokevirtual 223, 3) := by decide +kernel
theorem dX7_first_10 : decode cX7_first 10 = .ok (.ireturn, 1) := by decide +kernel
set_option maxRecDepth 20000 in
theorem ggX7_ranked_X7_all : GoodIn wsX7_ranked wsX7_all := goodIn_r _ [8, 9, 10, 2, 11, 12, 13, 14, 15, 7, 16, 17, 18, 19, 20, 21, 22, 23, 24, 25, 26, 27, 28, 29, 30, 31, 32, 33, 34, 35, 36, 37, 3, 44, 45, 46, 47, 48, 49, 50, 51, 52, 53, 54, 55, 56, 57, 58, 59, 60, 61, 62, 63, 64, 65, 66, 67, 68, 69, 70, 71, 72, 73, 74] (by decide +kernel) (by decide +kernel)
set_option maxRecDepth 20000 in
theorem gX7_ranked_X7_all : GoodIn wsX7_ranked (wsV RX7 212 RX7 yX7_all wsX7_all) := goodIn_app (goodIn_of _ (by decide +kernel)) ggX7_ranked_X7_all
set_option maxRecDepth 20000 in
theorem ggX7_ranked_X7_looks : GoodIn wsX7_ranked wsX7_looks := goodIn_r _ [41, 42, 43, 44, 45, 46, 47, 48, 49, 50, 51, 52, 53, 54, 55, 56, 57, 58, 59, 60, 61, 62, 63, 64, 65, 66, 67, 68, 69, 70, 71, 72, 73, 74] (by decide +kernel) (by decide +kernel)
set_option maxRecDepth 20000 in
theorem gX7_ranked_X7_looks : GoodIn wsX7_ranked (wsV RX7 219 RX7 yX7_looks wsX7_looks) := goodIn_app (goodIn_of _ (by decide +kernel)) ggX7_ranked_X7_looks
theorem dX7_ranked_0 : decode cX7_ranked 0 = .ok (.aload_n 0, 1) := by decide +kernel
theorem dX7_ranked_1 : decode cX7_ranked 1 = .ok (.aload_n 0, 1) := by decide +kernel
theorem dX7_ranked_2 : decode cX7_ranked 2 = .ok (.getfield 79, 3) := by decide +kernel
theorem dX7_ranked_5 : decode cX7_ranked 5 = .ok (.iconst (-1), 1) := by decide +kernel
theorem dX7_ranked_6 : decode cX7_ranked 6 = .ok (.invokevirtual 212, 3) := by decide +kernel
theorem dX7_ranked_9 : decode cX7_ranked 9 = .ok (.pop, 1) := by decide +kernel
theorem dX7_ranked_10 : decode cX7_ranked 10 = .ok (.aload_n 0, 1) := by decide +kernel
theorem dX7_ranked_11 : decode cX7_ranked 11 = .ok (.getfield 205, 3) := by decide +kernel
theorem dX7_ranked_14 : decode cX7_ranked 14 = .ok (.iconst (-1), 1) := by decide +kernel
theorem dX7_ranked_15 : decode cX7_ranked 15 = .ok (.if_icmp .eq 17, 3) := by decide +kernel
theorem dX7_ranked_18 : decode cX7_ranked 18 = .ok (.aload_n 0, 1) := by decide +kernel
theorem dX7_ranked_19 : decode cX7_ranked 19 = .ok (.aload_n 0, 1) := by decide +kernel
theorem dX7_ranked_20 : decode cX7_ranked 20 = .ok (.getfield 110, 3) := by decide +kernel
theorem dX7_ranked_23 : decode cX7_ranked 23 = .ok (.aload_n 0, 1) := by decide +kernel
theorem dX7_ranked_24 : decode cX7_ranked 24 = .ok (.getfield 79, 3) := by decide +kernel
theorem dX7_ranked_27 : decode cX7_ranked 27 = .ok (.iconst 0, 1) := by decide +kernel
theorem dX7_ranked_28 : decode cX7_ranked 28 = .ok (.iaload, 1) := by decide +kernel
theorem dX7_ranked_29 : decode cX7_ranked 29 = .ok (.invokevirtual 219, 3) := by decide +kernel
theorem dX7_ranked_32 : decode cX7_ranked 32 = .ok (.aload_n 0, 1) := by decide +kernel
theorem dX7_ranked_33 : decode cX7_ranked 33 = .ok (.getfield 205, 3) := by decide +kernel
theorem dX7_ranked_36 : decode cX7_ranked 36 = .ok (.ireturn, 1) := by decide +kernel
set_option maxRecDepth 20000 in
theorem ggX7_rank_X7_ranked : GoodIn wsX7_rank wsX7_ranked := goodIn_r _ [10, 3, 11, 4, 12, 13, 14, 9, 15, 16, 17, 18, 19, 20, 21, 22, 23, 24, 25, 26, 27, 28, 29, 30, 31, 32, 33, 34, 35, 36, 37, 38, 39, 40, 41, 42, 43, 44, 45, 46, 47, 48, 49, 50, 51, 52, 53, 54, 55, 56, 57, 58, 59, 60, 61, 62, 63, 64, 65, 66, 67, 68, 69, 70, 71, 72, 73, 74, 75, 76, 77, 78, 79, 80, 81] (by decide +kernel) (by decide +kernel)
set_option maxRecDepth 20000 in
theorem gX7_rank_X7_ranked : GoodIn wsX7_rank (wsV RX7 226 RX7 yX7_ranked wsX7_ranked) := goodIn_app (goodIn_of _ (by decide +kernel)) ggX7_rank_X7_ranked
theorem dX7_rank_0 : decode cX7_rank 0 = .ok (.aload_n 0, 1) := by decide +kernel
theorem dX7_rank_1 : decode cX7_rank 1 = .ok (.iconst 0, 1) := by decide +kernel
theorem dX7_rank_2 : decode cX7_rank 2 = .ok (.putfield 1, 3) := by decide +kernel
theorem dX7_rank_5 : decode cX7_rank 5 = .ok (.aload_n 0, 1) := by decide +kernel
theorem dX7_rank_6 : decode cX7_rank 6 = .ok (.getfield 11, 3) := by decide +kernel
theorem dX7_rank_9 : decode cX7_rank 9 = .ok (.istore_n 1, 1) := by decide +kernel
theorem dX7_rank_10 : decode cX7_rank 10 = .ok (.aload_n 0, 1) := by decide +kernel
theorem dX7_rank_11 : decode cX7_rank 11 = .ok (.iconst 0, 1) := by decide +kernel
theorem dX7_rank_12 : decode cX7_rank 12 = .ok (.putfield 11, 3) := by decide +kernel
theorem dX7_rank_15 : decode cX7_rank 15 = .ok (.iload_n 1, 1) := by decide +kernel
theorem dX7_rank_16 : decode cX7_rank 16 = .ok (.aload_n 0, 1) := by decide +kernel
theorem dX7_rank_17 : decode cX7_rank 17 = .ok (.getfield 79, 3) := by decide +kernel
theorem dX7_rank_20 : decode cX7_rank 20 = .ok (.iconst 0, 1) := by decide +kernel
theorem dX7_rank_21 : decode cX7_rank 21 = .ok (.iaload, 1) := by decide +kernel
theorem dX7_rank_22 : decode cX7_rank 22 = .ok (.if_icmp .eq 5, 3) := by decide +kernel
theorem dX7_rank_25 : decode cX7_rank 25 = .ok (.iconst (-1), 1) := by decide +kernel
theorem dX7_rank_26 : decode cX7_rank 26 = .ok (.ireturn, 1) := by decide +kernel
theorem dX7_rank_27 : decode cX7_rank 27 = .ok (.iconst 0, 1) := by decide +kernel
theorem dX7_rank_28 : decode cX7_rank 28 = .ok (.istore_n 2, 1) := by decide +kernel
theorem dX7_rank_29 : decode cX7_rank 29 = .ok (.iload_n 2, 1) := by decide +kernel
theorem dX7_rank_30 : decode cX7_rank 30 = .ok (.iload_n 1, 1) := by decide +kernel
theorem dX7_rank_31 : decode cX7_rank 31 = .ok (.if_icmp .ge 21, 3) := by decide +kernel
theorem dX7_rank_34 : decode cX7_rank 34 = .ok (.aload_n 0, 1) := by decide +kernel
theorem dX7_rank_35 : decode cX7_rank 35 = .ok (.getfield 110, 3) := by decide +kernel
theorem dX7_rank_38 : decode cX7_rank 38 = .ok (.iload_n 2, 1) := by decide +kernel
theorem dX7_rank_39 : decode cX7_rank 39 = .ok (.aload_n 0, 1) := by decide +kernel
theorem dX7_rank_40 : decode cX7_rank 40 = .ok (.getfield 7, 3) := by decide +kernel
theorem dX7_rank_43 : decode cX7_rank 43 = .ok (.iload_n 2, 1) := by decide +kernel
theorem dX7_rank_44 : decode cX7_rank 44 = .ok (.iaload, 1) := by decide +kernel
theorem dX7_rank_45 : decode cX7_rank 45 = .ok (.iastore, 1) := by decide +kernel
theorem dX7_rank_46 : decode cX7_rank 46 = .ok (.iinc 2 1, 3) := by decide +kernel
theorem dX7_rank_49 : decode cX7_rank 49 = .ok (.goto (-20), 3) := by decide +kernel
theorem dX7_rank_52 : decode cX7_rank 52 = .ok (.aload_n 0, 1) := by decide +kernel
theorem dX7_rank_53 : decode cX7_rank 53 = .ok (.invokevirtual 226, 3) := by decide +kernel
theorem dX7_rank_56 : decode cX7_rank 56 = .ok (.ireturn, 1) := by decide +kernel
set_option maxRecDepth 20000 in
theorem ggX7_behind_X7_ranked : GoodIn wsX7_behind wsX7_ranked := goodIn_r _ [10, 3, 11, 4, 12, 13, 14, 9, 15, 16, 17, 18, 19, 20, 21, 22, 23, 24, 25, 26, 27, 28, 29, 30, 31, 32, 33, 34, 35, 36, 37, 38, 39, 40, 41, 42, 43, 44, 45, 46, 47, 48, 2, 5, 49, 50, 51, 52, 53, 54, 55, 56, 57, 58, 59, 60, 61, 62, 63, 64, 65, 66, 67, 68, 69, 70, 71, 72, 73, 74, 75, 76, 77, 78, 79] (by decide +kernel) (by decide +kernel)
set_option maxRecDepth 20000 in
theorem gX7_behind_X7_ranked : GoodIn wsX7_behind (wsV RX7 226 RX7 yX7_ranked wsX7_ranked) := goodIn_app (goodIn_of _ (by decide +kernel)) ggX7_behind_X7_ranked
theorem dX7_behind_0 : decode cX7_behind 0 = .ok (.aload_n 0, 1) := by decide +kernel
theorem dX7_behind_1 : decode cX7_behind 1 = .ok (.iconst 0, 1) := by decide +kernel
theorem dX7_behind_2 : decode cX7_behind 2 = .ok (.putfield 1, 3) := by decide +kernel
theorem dX7_behind_5 : decode cX7_behind 5 = .ok (.aload_n 0, 1) := by decide +kernel
theorem dX7_behind_6 : decode cX7_behind 6 = .ok (.getfield 119, 3) := by decide +kernel
theorem dX7_behind_9 : decode cX7_behind 9 = .ok (.aload_n 0, 1) := by decide +kernel
theorem dX7_behind_10 : decode cX7_behind 10 = .ok (.getfield 79, 3) := by decide +kernel
theorem dX7_behind_13 : decode cX7_behind 13 = .ok (.iconst 0, 1) := by decide +kernel
theorem dX7_behind_14 : decode cX7_behind 14 = .ok (.iaload, 1) := by decide +kernel
theorem dX7_behind_15 : decode cX7_behind 15 = .ok (.if_icmp .eq 5, 3) := by decide +kernel
theorem dX7_behind_18 : decode cX7_behind 18 = .ok (.iconst (-1), 1) := by decide +kernel
theorem dX7_behind_19 : decode cX7_behind 19 = .ok (.ireturn, 1) := by decide +kernel
theorem dX7_behind_20 : decode cX7_behind 20 = .ok (.iconst 0, 1) := by decide +kernel
theorem dX7_behind_21 : decode cX7_behind 21 = .ok (.istore_n 1, 1) := by decide +kernel
theorem dX7_behind_22 : decode cX7_behind 22 = .ok (.iload_n 1, 1) := by decide +kernel
theorem dX7_behind_23 : decode cX7_behind 23 = .ok (.aload_n 0, 1) := by decide +kernel
theorem dX7_behind_24 : decode cX7_behind 24 = .ok (.getfield 119, 3) := by decide +kernel
theorem dX7_behind_27 : decode cX7_behind 27 = .ok (.if_icmp .ge 28, 3) := by decide +kernel
theorem dX7_behind_30 : decode cX7_behind 30 = .ok (.aload_n 0, 1) := by decide +kernel
theorem dX7_behind_31 : decode cX7_behind 31 = .ok (.getfield 110, 3) := by decide +kernel
theorem dX7_behind_34 : decode cX7_behind 34 = .ok (.iload_n 1, 1) := by decide +kernel
theorem dX7_behind_35 : decode cX7_behind 35 = .ok (.aload_n 0, 1) := by decide +kernel
theorem dX7_behind_36 : decode cX7_behind 36 = .ok (.getfield 116, 3) := by decide +kernel
theorem dX7_behind_39 : decode cX7_behind 39 = .ok (.aload_n 0, 1) := by decide +kernel
theorem dX7_behind_40 : decode cX7_behind 40 = .ok (.getfield 119, 3) := by decide +kernel
theorem dX7_behind_43 : decode cX7_behind 43 = .ok (.iconst 1, 1) := by decide +kernel
theorem dX7_behind_44 : decode cX7_behind 44 = .ok (.isub, 1) := by decide +kernel
theorem dX7_behind_45 : decode cX7_behind 45 = .ok (.iload_n 1, 1) := by decide +kernel
theorem dX7_behind_46 : decode cX7_behind 46 = .ok (.isub, 1) := by decide +kernel
theorem dX7_behind_47 : decode cX7_behind 47 = .ok (.iaload, 1) := by decide +kernel
theorem dX7_behind_48 : decode cX7_behind 48 = .ok (.iastore, 1) := by decide +kernel
theorem dX7_behind_49 : decode cX7_behind 49 = .ok (.iinc 1 1, 3) := by decide +kernel
theorem dX7_behind_52 : decode cX7_behind 52 = .ok (.goto (-30), 3) := by decide +kernel
theorem dX7_behind_55 : decode cX7_behind 55 = .ok (.aload_n 0, 1) := by decide +kernel
theorem dX7_behind_56 : decode cX7_behind 56 = .ok (.invokevirtual 226, 3) := by decide +kernel
theorem dX7_behind_59 : decode cX7_behind 59 = .ok (.ireturn, 1) := by decide +kernel
set_option maxRecDepth 20000 in
theorem ggX7_standing_X7_isTold : GoodIn wsX7_standing wsX7_isTold := goodIn_r _ [7, 8, 9, 6, 10, 11, 12, 13] (by decide +kernel) (by decide +kernel)
set_option maxRecDepth 20000 in
theorem gX7_standing_X7_isTold : GoodIn wsX7_standing (va_wsS RX7 129 yX7_isTold wsX7_isTold) := goodIn_app (goodIn_of _ (by decide +kernel)) ggX7_standing_X7_isTold
set_option maxRecDepth 20000 in
theorem ggX7_standing_X7_isIn : GoodIn wsX7_standing wsX7_isIn := goodIn_r _ [10] (by decide +kernel) (by decide +kernel)
set_option maxRecDepth 20000 in
theorem gX7_standing_X7_isIn : GoodIn wsX7_standing (va_wsS RX7 69 yX7_isIn wsX7_isIn) := goodIn_app (goodIn_of _ (by decide +kernel)) ggX7_standing_X7_isIn
set_option maxRecDepth 20000 in
theorem ggX7_standing_X7_all : GoodIn wsX7_standing wsX7_all := goodIn_r _ [17, 18, 19, 20, 21, 3, 22, 23, 24, 6, 25, 11, 12, 13, 4, 5, 7, 8, 9, 10, 26, 27, 28, 29, 30, 31, 32, 33, 34, 35, 36, 37, 38, 39, 40, 41, 42, 43, 44, 45, 46, 47, 48, 49, 50, 51, 52, 53, 54, 55, 56, 57, 58, 59, 60, 61, 62, 63, 64, 65, 66, 67, 68, 69] (by decide +kernel) (by decide +kernel)
set_option maxRecDepth 20000 in
theorem gX7_standing_X7_all : GoodIn wsX7_standing (wsV RX7 212 RX7 yX7_all wsX7_all) := goodIn_app (goodIn_of _ (by decide +kernel)) ggX7_standing_X7_all
theorem dX7_standing_0 : decode cX7_standing 0 = .ok (.aload_n 0, 1) := by decide +kernel
theorem dX7_standing_1 : decode cX7_standing 1 = .ok (.iconst 0, 1) := by decide +kernel
theorem dX7_standing_2 : decode cX7_standing 2 = .ok (.putfield 1, 3) := by decide +kernel
theorem dX7_standing_5 : decode cX7_standing 5 = .ok (.aload_n 0, 1) := by decide +kernel
theorem dX7_standing_6 : decode cX7_standing 6 = .ok (.getfield 79, 3) := by decide +kernel
theorem dX7_standing_9 : decode cX7_standing 9 = .ok (.iload_n 1, 1) := by decide +kernel
theorem dX7_standing_10 : decode cX7_standing 10 = .ok (.invokestatic 129, 3) := by decide +kernel
theorem dX7_standing_13 : decode cX7_standing 13 = .ok (.ifCond .eq 17, 3) := by decide +kernel
theorem dX7_standing_16 : decode cX7_standing 16 = .ok (.iload_n 2, 1) := by decide +kernel
theorem dX7_standing_17 : decode cX7_standing 17 = .ok (.iconst 1, 1) := by decide +kernel
theorem dX7_standing_18 : decode cX7_standing 18 = .ok (.aload_n 0, 1) := by decide +kernel
theorem dX7_standing_19 : decode cX7_standing 19 = .ok (.getfield 79, 3) := by decide +kernel
theorem dX7_standing_22 : decode cX7_standing 22 = .ok (.iconst 0, 1) := by decide +kernel
theorem dX7_standing_23 : decode cX7_standing 23 = .ok (.iaload, 1) := by decide +kernel
theorem dX7_standing_24 : decode cX7_standing 24 = .ok (.invokestatic 69, 3) := by decide +kernel
theorem dX7_standing_27 : decode cX7_standing 27 = .ok (.ifCond .ne 5, 3) := by decide +kernel
theorem dX7_standing_30 : decode cX7_standing 30 = .ok (.iconst (-1), 1) := by decide +kernel
theorem dX7_standing_31 : decode cX7_standing 31 = .ok (.ireturn, 1) := by decide +kernel
theorem dX7_standing_32 : decode cX7_standing 32 = .ok (.aload_n 0, 1) := by decide +kernel
theorem dX7_standing_33 : decode cX7_standing 33 = .ok (.aload_n 0, 1) := by decide +kernel
theorem dX7_standing_34 : decode cX7_standing 34 = .ok (.getfield 79, 3) := by decide +kernel
theorem dX7_standing_37 : decode cX7_standing 37 = .ok (.iconst (-1), 1) := by decide +kernel
theorem dX7_standing_38 : decode cX7_standing 38 = .ok (.invokevirtual 212, 3) := by decide +kernel
theorem dX7_standing_41 : decode cX7_standing 41 = .ok (.pop, 1) := by decide +kernel
theorem dX7_standing_42 : decode cX7_standing 42 = .ok (.aload_n 0, 1) := by decide +kernel
theorem dX7_standing_43 : decode cX7_standing 43 = .ok (.getfield 113, 3) := by decide +kernel
theorem dX7_standing_46 : decode cX7_standing 46 = .ok (.bipush 20, 2) := by decide +kernel
theorem dX7_standing_48 : decode cX7_standing 48 = .ok (.iload_n 1, 1) := by decide +kernel
theorem dX7_standing_49 : decode cX7_standing 49 = .ok (.imul, 1) := by decide +kernel
theorem dX7_standing_50 : decode cX7_standing 50 = .ok (.iload_n 2, 1) := by decide +kernel
theorem dX7_standing_51 : decode cX7_standing 51 = .ok (.iadd, 1) := by decide +kernel
theorem dX7_standing_52 : decode cX7_standing 52 = .ok (.iconst 1, 1) := by decide +kernel
theorem dX7_standing_53 : decode cX7_standing 53 = .ok (.isub, 1) := by decide +kernel
theorem dX7_standing_54 : decode cX7_standing 54 = .ok (.iaload, 1) := by decide +kernel
theorem dX7_standing_55 : decode cX7_standing 55 = .ok (.ireturn, 1) := by decide +kernel
set_option maxRecDepth 20000 in
theorem ggX7_may_X7_isTold : GoodIn wsX7_may wsX7_isTold := goodIn_r _ [7, 8, 9, 6, 10, 11, 12, 13] (by decide +kernel) (by decide +kernel)
set_option maxRecDepth 20000 in
theorem gX7_may_X7_isTold : GoodIn wsX7_may (va_wsS RX7 129 yX7_isTold wsX7_isTold) := goodIn_app (goodIn_of _ (by decide +kernel)) ggX7_may_X7_isTold
set_option maxRecDepth 20000 in
theorem ggX7_may_X7_all : GoodIn wsX7_may wsX7_all := goodIn_r _ [17, 18, 19, 20, 21, 3, 22, 23, 24, 6, 25, 11, 12, 13, 4, 5, 7, 8, 9, 10, 26, 27, 28, 29, 30, 31, 32, 33, 34, 35, 36, 37, 38, 39, 40, 41, 42, 43, 44, 45, 46, 47, 48, 49, 50, 51, 52, 53, 54, 55, 56, 57, 58, 59, 60, 61, 62, 63, 64, 65, 66, 67, 68, 69] (by decide +kernel) (by decide +kernel)
set_option maxRecDepth 20000 in
theorem gX7_may_X7_all : GoodIn wsX7_may (wsV RX7 212 RX7 yX7_all wsX7_all) := goodIn_app (goodIn_of _ (by decide +kernel)) ggX7_may_X7_all
theorem dX7_may_0 : decode cX7_may 0 = .ok (.aload_n 0, 1) := by decide +kernel
theorem dX7_may_1 : decode cX7_may 1 = .ok (.iconst 0, 1) := by decide +kernel
theorem dX7_may_2 : decode cX7_may 2 = .ok (.putfield 1, 3) := by decide +kernel
theorem dX7_may_5 : decode cX7_may 5 = .ok (.aload_n 0, 1) := by decide +kernel
theorem dX7_may_6 : decode cX7_may 6 = .ok (.getfield 79, 3) := by decide +kernel
theorem dX7_may_9 : decode cX7_may 9 = .ok (.iload_n 1, 1) := by decide +kernel
theorem dX7_may_10 : decode cX7_may 10 = .ok (.invokestatic 129, 3) := by decide +kernel
theorem dX7_may_13 : decode cX7_may 13 = .ok (.ifCond .ne 5, 3) := by decide +kernel
theorem dX7_may_16 : decode cX7_may 16 = .ok (.iconst (-1), 1) := by decide +kernel
theorem dX7_may_17 : decode cX7_may 17 = .ok (.ireturn, 1) := by decide +kernel
theorem dX7_may_18 : decode cX7_may 18 = .ok (.aload_n 0, 1) := by decide +kernel
theorem dX7_may_19 : decode cX7_may 19 = .ok (.aload_n 0, 1) := by decide +kernel
theorem dX7_may_20 : decode cX7_may 20 = .ok (.getfield 79, 3) := by decide +kernel
theorem dX7_may_23 : decode cX7_may 23 = .ok (.iconst (-1), 1) := by decide +kernel
theorem dX7_may_24 : decode cX7_may 24 = .ok (.invokevirtual 212, 3) := by decide +kernel
theorem dX7_may_27 : decode cX7_may 27 = .ok (.pop, 1) := by decide +kernel
theorem dX7_may_28 : decode cX7_may 28 = .ok (.iconst 0, 1) := by decide +kernel
theorem dX7_may_29 : decode cX7_may 29 = .ok (.istore_n 2, 1) := by decide +kernel
theorem dX7_may_30 : decode cX7_may 30 = .ok (.iconst 0, 1) := by decide +kernel
theorem dX7_may_31 : decode cX7_may 31 = .ok (.istore_n 3, 1) := by decide +kernel
theorem dX7_may_32 : decode cX7_may 32 = .ok (.iload_n 3, 1) := by decide +kernel
theorem dX7_may_33 : decode cX7_may 33 = .ok (.aload_n 0, 1) := by decide +kernel
theorem dX7_may_34 : decode cX7_may 34 = .ok (.getfield 79, 3) := by decide +kernel
theorem dX7_may_37 : decode cX7_may 37 = .ok (.iconst 0, 1) := by decide +kernel
theorem dX7_may_38 : decode cX7_may 38 = .ok (.iaload, 1) := by decide +kernel
theorem dX7_may_39 : decode cX7_may 39 = .ok (.if_icmp .ge 29, 3) := by decide +kernel
theorem dX7_may_42 : decode cX7_may 42 = .ok (.aload_n 0, 1) := by decide +kernel
theorem dX7_may_43 : decode cX7_may 43 = .ok (.getfield 113, 3) := by decide +kernel
theorem dX7_may_46 : decode cX7_may 46 = .ok (.bipush 20, 2) := by decide +kernel
theorem dX7_may_48 : decode cX7_may 48 = .ok (.iload_n 1, 1) := by decide +kernel
theorem dX7_may_49 : decode cX7_may 49 = .ok (.imul, 1) := by decide +kernel
theorem dX7_may_50 : decode cX7_may 50 = .ok (.iload_n 3, 1) := by decide +kernel
theorem dX7_may_51 : decode cX7_may 51 = .ok (.iadd, 1) := by decide +kernel
theorem dX7_may_52 : decode cX7_may 52 = .ok (.iaload, 1) := by decide +kernel
theorem dX7_may_53 : decode cX7_may 53 = .ok (.ifCond .le 9, 3) := by decide +kernel
theorem dX7_may_56 : decode cX7_may 56 = .ok (.iload_n 2, 1) := by decide +kernel
theorem dX7_may_57 : decode cX7_may 57 = .ok (.iconst 1, 1) := by decide +kernel
theorem dX7_may_58 : decode cX7_may 58 = .ok (.iload_n 3, 1) := by decide +kernel
theorem dX7_may_59 : decode cX7_may 59 = .ok (.ishl, 1) := by decide +kernel
theorem dX7_may_60 : decode cX7_may 60 = .ok (.ior, 1) := by decide +kernel
theorem dX7_may_61 : decode cX7_may 61 = .ok (.istore_n 2, 1) := by decide +kernel
theorem dX7_may_62 : decode cX7_may 62 = .ok (.iinc 3 1, 3) := by decide +kernel
theorem dX7_may_65 : decode cX7_may 65 = .ok (.goto (-33), 3) := by decide +kernel
theorem dX7_may_68 : decode cX7_may 68 = .ok (.iload_n 2, 1) := by decide +kernel
theorem dX7_may_69 : decode cX7_may 69 = .ok (.ireturn, 1) := by decide +kernel
set_option maxRecDepth 20000 in
theorem ggX7_sure_X7_all : GoodIn wsX7_sure wsX7_all := goodIn_r _ [8, 9, 10, 11, 12, 3, 13, 14, 15, 7, 16, 17, 18, 19, 20, 21, 22, 23, 24, 25, 26, 27, 28, 29, 30, 31, 32, 33, 34, 35, 36, 37, 38, 39, 40, 41, 42, 43, 44, 45, 46, 47, 48, 49, 50, 51, 52, 53, 54, 55, 56, 57, 58, 59, 60, 61, 62, 63, 64, 65, 66, 67, 68, 69] (by decide +kernel) (by decide +kernel)
set_option maxRecDepth 20000 in
theorem gX7_sure_X7_all : GoodIn wsX7_sure (wsV RX7 212 RX7 yX7_all wsX7_all) := goodIn_app (goodIn_of _ (by decide +kernel)) ggX7_sure_X7_all
theorem dX7_sure_0 : decode cX7_sure 0 = .ok (.aload_n 0, 1) := by decide +kernel
theorem dX7_sure_1 : decode cX7_sure 1 = .ok (.iconst 0, 1) := by decide +kernel
theorem dX7_sure_2 : decode cX7_sure 2 = .ok (.putfield 1, 3) := by decide +kernel
theorem dX7_sure_5 : decode cX7_sure 5 = .ok (.aload_n 0, 1) := by decide +kernel
theorem dX7_sure_6 : decode cX7_sure 6 = .ok (.aload_n 0, 1) := by decide +kernel
theorem dX7_sure_7 : decode cX7_sure 7 = .ok (.getfield 79, 3) := by decide +kernel
theorem dX7_sure_10 : decode cX7_sure 10 = .ok (.iconst (-1), 1) := by decide +kernel
theorem dX7_sure_11 : decode cX7_sure 11 = .ok (.invokevirtual 212, 3) := by decide +kernel
theorem dX7_sure_14 : decode cX7_sure 14 = .ok (.istore_n 1, 1) := by decide +kernel
theorem dX7_sure_15 : decode cX7_sure 15 = .ok (.iconst 0, 1) := by decide +kernel
theorem dX7_sure_16 : decode cX7_sure 16 = .ok (.istore_n 2, 1) := by decide +kernel
theorem dX7_sure_17 : decode cX7_sure 17 = .ok (.iconst 1, 1) := by decide +kernel
theorem dX7_sure_18 : decode cX7_sure 18 = .ok (.istore_n 3, 1) := by decide +kernel
theorem dX7_sure_19 : decode cX7_sure 19 = .ok (.iload_n 3, 1) := by decide +kernel
theorem dX7_sure_20 : decode cX7_sure 20 = .ok (.bipush 15, 2) := by decide +kernel
theorem dX7_sure_22 : decode cX7_sure 22 = .ok (.if_icmp .gt 57, 3) := by decide +kernel
theorem dX7_sure_25 : decode cX7_sure 25 = .ok (.iconst 0, 1) := by decide +kernel
theorem dX7_sure_26 : decode cX7_sure 26 = .ok (.istore 4, 2) := by decide +kernel
theorem dX7_sure_28 : decode cX7_sure 28 = .ok (.iload 4, 2) := by decide +kernel
theorem dX7_sure_30 : decode cX7_sure 30 = .ok (.aload_n 0, 1) := by decide +kernel
theorem dX7_sure_31 : decode cX7_sure 31 = .ok (.getfield 79, 3) := by decide +kernel
theorem dX7_sure_34 : decode cX7_sure 34 = .ok (.iconst 0, 1) := by decide +kernel
theorem dX7_sure_35 : decode cX7_sure 35 = .ok (.iaload, 1) := by decide +kernel
theorem dX7_sure_36 : decode cX7_sure 36 = .ok (.if_icmp .ge 37, 3) := by decide +kernel
theorem dX7_sure_39 : decode cX7_sure 39 = .ok (.iload_n 1, 1) := by decide +kernel
theorem dX7_sure_40 : decode cX7_sure 40 = .ok (.ifCond .le 27, 3) := by decide +kernel
theorem dX7_sure_43 : decode cX7_sure 43 = .ok (.aload_n 0, 1) := by decide +kernel
theorem dX7_sure_44 : decode cX7_sure 44 = .ok (.getfield 113, 3) := by decide +kernel
theorem dX7_sure_47 : decode cX7_sure 47 = .ok (.bipush 20, 2) := by decide +kernel
theorem dX7_sure_49 : decode cX7_sure 49 = .ok (.iload_n 3, 1) := by decide +kernel
theorem dX7_sure_50 : decode cX7_sure 50 = .ok (.imul, 1) := by decide +kernel
theorem dX7_sure_51 : decode cX7_sure 51 = .ok (.iload 4, 2) := by decide +kernel
theorem dX7_sure_53 : decode cX7_sure 53 = .ok (.iadd, 1) := by decide +kernel
theorem dX7_sure_54 : decode cX7_sure 54 = .ok (.iaload, 1) := by decide +kernel
theorem dX7_sure_55 : decode cX7_sure 55 = .ok (.iload_n 1, 1) := by decide +kernel
theorem dX7_sure_56 : decode cX7_sure 56 = .ok (.if_icmp .ne 11, 3) := by decide +kernel
theorem dX7_sure_59 : decode cX7_sure 59 = .ok (.iload_n 2, 1) := by decide +kernel
theorem dX7_sure_60 : decode cX7_sure 60 = .ok (.iconst 1, 1) := by decide +kernel
theorem dX7_sure_61 : decode cX7_sure 61 = .ok (.iload_n 3, 1) := by decide +kernel
theorem dX7_sure_62 : decode cX7_sure 62 = .ok (.iconst 1, 1) := by decide +kernel
theorem dX7_sure_63 : decode cX7_sure 63 = .ok (.isub, 1) := by decide +kernel
theorem dX7_sure_64 : decode cX7_sure 64 = .ok (.ishl, 1) := by decide +kernel
theorem dX7_sure_65 : decode cX7_sure 65 = .ok (.ior, 1) := by decide +kernel
theorem dX7_sure_66 : decode cX7_sure 66 = .ok (.istore_n 2, 1) := by decide +kernel
theorem dX7_sure_67 : decode cX7_sure 67 = .ok (.iinc 4 1, 3) := by decide +kernel
theorem dX7_sure_70 : decode cX7_sure 70 = .ok (.goto (-42), 3) := by decide +kernel
theorem dX7_sure_73 : decode cX7_sure 73 = .ok (.iinc 3 1, 3) := by decide +kernel
theorem dX7_sure_76 : decode cX7_sure 76 = .ok (.goto (-57), 3) := by decide +kernel
theorem dX7_sure_79 : decode cX7_sure 79 = .ok (.iload_n 2, 1) := by decide +kernel
theorem dX7_sure_80 : decode cX7_sure 80 = .ok (.ireturn, 1) := by decide +kernel
set_option maxRecDepth 20000 in
theorem ggX7_extended_X7_isIn : GoodIn wsX7_extended wsX7_isIn := goodIn_r _ [6] (by decide +kernel) (by decide +kernel)
set_option maxRecDepth 20000 in
theorem gX7_extended_X7_isIn : GoodIn wsX7_extended (va_wsS RX7 69 yX7_isIn wsX7_isIn) := goodIn_app (goodIn_of _ (by decide +kernel)) ggX7_extended_X7_isIn
set_option maxRecDepth 20000 in
theorem ggX7_extended_X7_laysKind : GoodIn wsX7_extended wsX7_laysKind := goodIn_r _ [9] (by decide +kernel) (by decide +kernel)
set_option maxRecDepth 20000 in
theorem gX7_extended_X7_laysKind : GoodIn wsX7_extended (va_wsS RX7 188 yX7_laysKind wsX7_laysKind) := goodIn_app (goodIn_of _ (by decide +kernel)) ggX7_extended_X7_laysKind
set_option maxRecDepth 20000 in
theorem ggX7_extended_X7_all : GoodIn wsX7_extended wsX7_all := goodIn_r _ [13, 14, 15, 16, 17, 18, 19, 20, 21, 5, 22, 23, 24, 25, 26, 27, 28, 3, 4, 6, 29, 30, 31, 32, 33, 34, 35, 36, 37, 38, 39, 40, 41, 42, 43, 44, 45, 46, 47, 48, 49, 50, 51, 52, 53, 54, 55, 56, 57, 58, 59, 60, 61, 62, 63, 64, 65, 66, 67, 68, 69, 70, 71, 72] (by decide +kernel) (by decide +kernel)
set_option maxRecDepth 20000 in
theorem gX7_extended_X7_all : GoodIn wsX7_extended (wsV RX7 212 RX7 yX7_all wsX7_all) := goodIn_app (goodIn_of _ (by decide +kernel)) ggX7_extended_X7_all
theorem dX7_extended_0 : decode cX7_extended 0 = .ok (.aload_n 0, 1) := by decide +kernel
theorem dX7_extended_1 : decode cX7_extended 1 = .ok (.iconst 0, 1) := by decide +kernel
theorem dX7_extended_2 : decode cX7_extended 2 = .ok (.putfield 1, 3) := by decide +kernel
theorem dX7_extended_5 : decode cX7_extended 5 = .ok (.iload_n 1, 1) := by decide +kernel
theorem dX7_extended_6 : decode cX7_extended 6 = .ok (.iconst 1, 1) := by decide +kernel
theorem dX7_extended_7 : decode cX7_extended 7 = .ok (.bipush 7, 2) := by decide +kernel
theorem dX7_extended_9 : decode cX7_extended 9 = .ok (.invokestatic 69, 3) := by decide +kernel
theorem dX7_extended_12 : decode cX7_extended 12 = .ok (.ifCond .eq 16, 3) := by decide +kernel
theorem dX7_extended_15 : decode cX7_extended 15 = .ok (.iload_n 2, 1) := by decide +kernel
theorem dX7_extended_16 : decode cX7_extended 16 = .ok (.iconst 1, 1) := by decide +kernel
theorem dX7_extended_17 : decode cX7_extended 17 = .ok (.iconst 2, 1) := by decide +kernel
theorem dX7_extended_18 : decode cX7_extended 18 = .ok (.iload_n 1, 1) := by decide +kernel
theorem dX7_extended_19 : decode cX7_extended 19 = .ok (.imul, 1) := by decide +kernel
theorem dX7_extended_20 : decode cX7_extended 20 = .ok (.iconst 1, 1) := by decide +kernel
theorem dX7_extended_21 : decode cX7_extended 21 = .ok (.iadd, 1) := by decide +kernel
theorem dX7_extended_22 : decode cX7_extended 22 = .ok (.invokestatic 69, 3) := by decide +kernel
theorem dX7_extended_25 : decode cX7_extended 25 = .ok (.ifCond .ne 5, 3) := by decide +kernel
theorem dX7_extended_28 : decode cX7_extended 28 = .ok (.iconst (-1), 1) := by decide +kernel
theorem dX7_extended_29 : decode cX7_extended 29 = .ok (.ireturn, 1) := by decide +kernel
theorem dX7_extended_30 : decode cX7_extended 30 = .ok (.aload_n 0, 1) := by decide +kernel
theorem dX7_extended_31 : decode cX7_extended 31 = .ok (.getfield 97, 3) := by decide +kernel
theorem dX7_extended_34 : decode cX7_extended 34 = .ok (.iconst 3, 1) := by decide +kernel
theorem dX7_extended_35 : decode cX7_extended 35 = .ok (.iload_n 1, 1) := by decide +kernel
theorem dX7_extended_36 : decode cX7_extended 36 = .ok (.invokestatic 188, 3) := by decide +kernel
theorem dX7_extended_39 : decode cX7_extended 39 = .ok (.aload_n 0, 1) := by decide +kernel
theorem dX7_extended_40 : decode cX7_extended 40 = .ok (.getfield 97, 3) := by decide +kernel
theorem dX7_extended_43 : decode cX7_extended 43 = .ok (.iconst 1, 1) := by decide +kernel
theorem dX7_extended_44 : decode cX7_extended 44 = .ok (.iconst 1, 1) := by decide +kernel
theorem dX7_extended_45 : decode cX7_extended 45 = .ok (.iload_n 2, 1) := by decide +kernel
theorem dX7_extended_46 : decode cX7_extended 46 = .ok (.iconst 1, 1) := by decide +kernel
theorem dX7_extended_47 : decode cX7_extended 47 = .ok (.isub, 1) := by decide +kernel
theorem dX7_extended_48 : decode cX7_extended 48 = .ok (.ishl, 1) := by decide +kernel
theorem dX7_extended_49 : decode cX7_extended 49 = .ok (.iastore, 1) := by decide +kernel
theorem dX7_extended_50 : decode cX7_extended 50 = .ok (.aload_n 0, 1) := by decide +kernel
theorem dX7_extended_51 : decode cX7_extended 51 = .ok (.aload_n 0, 1) := by decide +kernel
theorem dX7_extended_52 : decode cX7_extended 52 = .ok (.getfield 97, 3) := by decide +kernel
theorem dX7_extended_55 : decode cX7_extended 55 = .ok (.iconst (-1), 1) := by decide +kernel
theorem dX7_extended_56 : decode cX7_extended 56 = .ok (.invokevirtual 212, 3) := by decide +kernel
theorem dX7_extended_59 : decode cX7_extended 59 = .ok (.ireturn, 1) := by decide +kernel
theorem dX7_two_0 : decode cX7_two 0 = .ok (.iload_n 2, 1) := by decide +kernel
theorem dX7_two_1 : decode cX7_two 1 = .ok (.iload_n 1, 1) := by decide +kernel
theorem dX7_two_2 : decode cX7_two 2 = .ok (.if_icmp .le 9, 3) := by decide +kernel
theorem dX7_two_5 : decode cX7_two 5 = .ok (.iload_n 2, 1) := by decide +kernel
theorem dX7_two_6 : decode cX7_two 6 = .ok (.iload_n 1, 1) := by decide +kernel
theorem dX7_two_7 : decode cX7_two 7 = .ok (.isub, 1) := by decide +kernel
theorem dX7_two_8 : decode cX7_two 8 = .ok (.goto 6, 3) := by decide +kernel
theorem dX7_two_11 : decode cX7_two 11 = .ok (.iload_n 1, 1) := by decide +kernel
theorem dX7_two_12 : decode cX7_two 12 = .ok (.iload_n 2, 1) := by decide +kernel
theorem dX7_two_13 : decode cX7_two 13 = .ok (.isub, 1) := by decide +kernel
theorem dX7_two_14 : decode cX7_two 14 = .ok (.istore_n 3, 1) := by decide +kernel
theorem dX7_two_15 : decode cX7_two 15 = .ok (.aload_n 0, 1) := by decide +kernel
theorem dX7_two_16 : decode cX7_two 16 = .ok (.getfield 122, 3) := by decide +kernel
theorem dX7_two_19 : decode cX7_two 19 = .ok (.iload_n 1, 1) := by decide +kernel
theorem dX7_two_20 : decode cX7_two 20 = .ok (.iconst 1, 1) := by decide +kernel
theorem dX7_two_21 : decode cX7_two 21 = .ok (.isub, 1) := by decide +kernel
theorem dX7_two_22 : decode cX7_two 22 = .ok (.iload_n 3, 1) := by decide +kernel
theorem dX7_two_23 : decode cX7_two 23 = .ok (.iastore, 1) := by decide +kernel
theorem dX7_two_24 : decode cX7_two 24 = .ok (.aload_n 0, 1) := by decide +kernel
theorem dX7_two_25 : decode cX7_two 25 = .ok (.getfield 122, 3) := by decide +kernel
theorem dX7_two_28 : decode cX7_two 28 = .ok (.iload_n 2, 1) := by decide +kernel
theorem dX7_two_29 : decode cX7_two 29 = .ok (.iconst 1, 1) := by decide +kernel
theorem dX7_two_30 : decode cX7_two 30 = .ok (.isub, 1) := by decide +kernel
theorem dX7_two_31 : decode cX7_two 31 = .ok (.iload_n 3, 1) := by decide +kernel
theorem dX7_two_32 : decode cX7_two 32 = .ok (.iastore, 1) := by decide +kernel
theorem dX7_two_33 : decode cX7_two 33 = .ok (.return_, 1) := by decide +kernel
set_option maxRecDepth 20000 in
theorem ggX7_laysFours_X7_two : GoodIn wsX7_laysFours wsX7_two := goodIn_r _ [5, 6, 7, 8, 9, 10, 11, 12, 13, 14, 15, 16, 17, 18, 19, 20, 21, 22, 23, 24, 25, 26, 27, 28, 29, 30, 31, 32, 33, 34, 35, 36, 37] (by decide +kernel) (by decide +kernel)
set_option maxRecDepth 20000 in
theorem gX7_laysFours_X7_two : GoodIn wsX7_laysFours (wsV RX7 229 RX7 yX7_two wsX7_two) := goodIn_app (goodIn_of _ (by decide +kernel)) ggX7_laysFours_X7_two
theorem dX7_laysFours_0 : decode cX7_laysFours 0 = .ok (.iconst 0, 1) := by decide +kernel
theorem dX7_laysFours_1 : decode cX7_laysFours 1 = .ok (.istore_n 2, 1) := by decide +kernel
theorem dX7_laysFours_2 : decode cX7_laysFours 2 = .ok (.iload_n 2, 1) := by decide +kernel
theorem dX7_laysFours_3 : decode cX7_laysFours 3 = .ok (.iconst 2, 1) := by decide +kernel
theorem dX7_laysFours_4 : decode cX7_laysFours 4 = .ok (.iload_n 1, 1) := by decide +kernel
theorem dX7_laysFours_5 : decode cX7_laysFours 5 = .ok (.imul, 1) := by decide +kernel
theorem dX7_laysFours_6 : decode cX7_laysFours 6 = .ok (.if_icmp .ge 24, 3) := by decide +kernel
theorem dX7_laysFours_9 : decode cX7_laysFours 9 = .ok (.aload_n 0, 1) := by decide +kernel
theorem dX7_laysFours_10 : decode cX7_laysFours 10 = .ok (.iconst 4, 1) := by decide +kernel
theorem dX7_laysFours_11 : decode cX7_laysFours 11 = .ok (.iload_n 1, 1) := by decide +kernel
theorem dX7_laysFours_12 : decode cX7_laysFours 12 = .ok (.imul, 1) := by decide +kernel
theorem dX7_laysFours_13 : decode cX7_laysFours 13 = .ok (.iload_n 2, 1) := by decide +kernel
theorem dX7_laysFours_14 : decode cX7_laysFours 14 = .ok (.iadd, 1) := by decide +kernel
theorem dX7_laysFours_15 : decode cX7_laysFours 15 = .ok (.bipush 8, 2) := by decide +kernel
theorem dX7_laysFours_17 : decode cX7_laysFours 17 = .ok (.iload_n 1, 1) := by decide +kernel
theorem dX7_laysFours_18 : decode cX7_laysFours 18 = .ok (.imul, 1) := by decide +kernel
theorem dX7_laysFours_19 : decode cX7_laysFours 19 = .ok (.iload_n 2, 1) := by decide +kernel
theorem dX7_laysFours_20 : decode cX7_laysFours 20 = .ok (.isub, 1) := by decide +kernel
theorem dX7_laysFours_21 : decode cX7_laysFours 21 = .ok (.invokevirtual 229, 3) := by decide +kernel
theorem dX7_laysFours_24 : decode cX7_laysFours 24 = .ok (.iinc 2 1, 3) := by decide +kernel
theorem dX7_laysFours_27 : decode cX7_laysFours 27 = .ok (.goto (-25), 3) := by decide +kernel
theorem dX7_laysFours_30 : decode cX7_laysFours 30 = .ok (.aload_n 0, 1) := by decide +kernel
theorem dX7_laysFours_31 : decode cX7_laysFours 31 = .ok (.iload_n 1, 1) := by decide +kernel
theorem dX7_laysFours_32 : decode cX7_laysFours 32 = .ok (.iload_n 1, 1) := by decide +kernel
theorem dX7_laysFours_33 : decode cX7_laysFours 33 = .ok (.iconst 1, 1) := by decide +kernel
theorem dX7_laysFours_34 : decode cX7_laysFours 34 = .ok (.iadd, 1) := by decide +kernel
theorem dX7_laysFours_35 : decode cX7_laysFours 35 = .ok (.invokevirtual 229, 3) := by decide +kernel
theorem dX7_laysFours_38 : decode cX7_laysFours 38 = .ok (.iconst 0, 1) := by decide +kernel
theorem dX7_laysFours_39 : decode cX7_laysFours 39 = .ok (.istore_n 2, 1) := by decide +kernel
theorem dX7_laysFours_40 : decode cX7_laysFours 40 = .ok (.iload_n 2, 1) := by decide +kernel
theorem dX7_laysFours_41 : decode cX7_laysFours 41 = .ok (.iload_n 1, 1) := by decide +kernel
theorem dX7_laysFours_42 : decode cX7_laysFours 42 = .ok (.iconst 3, 1) := by decide +kernel
theorem dX7_laysFours_43 : decode cX7_laysFours 43 = .ok (.isub, 1) := by decide +kernel
theorem dX7_laysFours_44 : decode cX7_laysFours 44 = .ok (.if_icmp .gt 25, 3) := by decide +kernel
theorem dX7_laysFours_47 : decode cX7_laysFours 47 = .ok (.aload_n 0, 1) := by decide +kernel
theorem dX7_laysFours_48 : decode cX7_laysFours 48 = .ok (.iload_n 1, 1) := by decide +kernel
theorem dX7_laysFours_49 : decode cX7_laysFours 49 = .ok (.iconst 2, 1) := by decide +kernel
theorem dX7_laysFours_50 : decode cX7_laysFours 50 = .ok (.iadd, 1) := by decide +kernel
theorem dX7_laysFours_51 : decode cX7_laysFours 51 = .ok (.iload_n 2, 1) := by decide +kernel
theorem dX7_laysFours_52 : decode cX7_laysFours 52 = .ok (.iadd, 1) := by decide +kernel
theorem dX7_laysFours_53 : decode cX7_laysFours 53 = .ok (.iconst 3, 1) := by decide +kernel
theorem dX7_laysFours_54 : decode cX7_laysFours 54 = .ok (.iload_n 1, 1) := by decide +kernel
theorem dX7_laysFours_55 : decode cX7_laysFours 55 = .ok (.imul, 1) := by decide +kernel
theorem dX7_laysFours_56 : decode cX7_laysFours 56 = .ok (.iconst 1, 1) := by decide +kernel
theorem dX7_laysFours_57 : decode cX7_laysFours 57 = .ok (.isub, 1) := by decide +kernel
theorem dX7_laysFours_58 : decode cX7_laysFours 58 = .ok (.iload_n 2, 1) := by decide +kernel
theorem dX7_laysFours_59 : decode cX7_laysFours 59 = .ok (.isub, 1) := by decide +kernel
theorem dX7_laysFours_60 : decode cX7_laysFours 60 = .ok (.invokevirtual 229, 3) := by decide +kernel
theorem dX7_laysFours_63 : decode cX7_laysFours 63 = .ok (.iinc 2 1, 3) := by decide +kernel
theorem dX7_laysFours_66 : decode cX7_laysFours 66 = .ok (.goto (-26), 3) := by decide +kernel
theorem dX7_laysFours_69 : decode cX7_laysFours 69 = .ok (.iconst 1, 1) := by decide +kernel
theorem dX7_laysFours_70 : decode cX7_laysFours 70 = .ok (.istore_n 2, 1) := by decide +kernel
theorem dX7_laysFours_71 : decode cX7_laysFours 71 = .ok (.iload_n 2, 1) := by decide +kernel
theorem dX7_laysFours_72 : decode cX7_laysFours 72 = .ok (.iload_n 1, 1) := by decide +kernel
theorem dX7_laysFours_73 : decode cX7_laysFours 73 = .ok (.if_icmp .ge 21, 3) := by decide +kernel
theorem dX7_laysFours_76 : decode cX7_laysFours 76 = .ok (.aload_n 0, 1) := by decide +kernel
theorem dX7_laysFours_77 : decode cX7_laysFours 77 = .ok (.iload_n 2, 1) := by decide +kernel
theorem dX7_laysFours_78 : decode cX7_laysFours 78 = .ok (.iconst 4, 1) := by decide +kernel
theorem dX7_laysFours_79 : decode cX7_laysFours 79 = .ok (.iload_n 1, 1) := by decide +kernel
theorem dX7_laysFours_80 : decode cX7_laysFours 80 = .ok (.imul, 1) := by decide +kernel
theorem dX7_laysFours_81 : decode cX7_laysFours 81 = .ok (.iconst 1, 1) := by decide +kernel
theorem dX7_laysFours_82 : decode cX7_laysFours 82 = .ok (.isub, 1) := by decide +kernel
theorem dX7_laysFours_83 : decode cX7_laysFours 83 = .ok (.iload_n 2, 1) := by decide +kernel
theorem dX7_laysFours_84 : decode cX7_laysFours 84 = .ok (.isub, 1) := by decide +kernel
theorem dX7_laysFours_85 : decode cX7_laysFours 85 = .ok (.invokevirtual 229, 3) := by decide +kernel
theorem dX7_laysFours_88 : decode cX7_laysFours 88 = .ok (.iinc 2 1, 3) := by decide +kernel
theorem dX7_laysFours_91 : decode cX7_laysFours 91 = .ok (.goto (-20), 3) := by decide +kernel
theorem dX7_laysFours_94 : decode cX7_laysFours 94 = .ok (.aload_n 0, 1) := by decide +kernel
theorem dX7_laysFours_95 : decode cX7_laysFours 95 = .ok (.iconst 2, 1) := by decide +kernel
theorem dX7_laysFours_96 : decode cX7_laysFours 96 = .ok (.iload_n 1, 1) := by decide +kernel
theorem dX7_laysFours_97 : decode cX7_laysFours 97 = .ok (.imul, 1) := by decide +kernel
theorem dX7_laysFours_98 : decode cX7_laysFours 98 = .ok (.iconst 1, 1) := by decide +kernel
theorem dX7_laysFours_99 : decode cX7_laysFours 99 = .ok (.iadd, 1) := by decide +kernel
theorem dX7_laysFours_100 : decode cX7_laysFours 100 = .ok (.bipush 6, 2) := by decide +kernel
theorem dX7_laysFours_102 : decode cX7_laysFours 102 = .ok (.iload_n 1, 1) := by decide +kernel
theorem dX7_laysFours_103 : decode cX7_laysFours 103 = .ok (.imul, 1) := by decide +kernel
theorem dX7_laysFours_104 : decode cX7_laysFours 104 = .ok (.invokevirtual 229, 3) := by decide +kernel
theorem dX7_laysFours_107 : decode cX7_laysFours 107 = .ok (.aload_n 0, 1) := by decide +kernel
theorem dX7_laysFours_108 : decode cX7_laysFours 108 = .ok (.iconst 2, 1) := by decide +kernel
theorem dX7_laysFours_109 : decode cX7_laysFours 109 = .ok (.iload_n 1, 1) := by decide +kernel
theorem dX7_laysFours_110 : decode cX7_laysFours 110 = .ok (.imul, 1) := by decide +kernel
theorem dX7_laysFours_111 : decode cX7_laysFours 111 = .ok (.iconst 4, 1) := by decide +kernel
theorem dX7_laysFours_112 : decode cX7_laysFours 112 = .ok (.iload_n 1, 1) := by decide +kernel
theorem dX7_laysFours_113 : decode cX7_laysFours 113 = .ok (.imul, 1) := by decide +kernel
theorem dX7_laysFours_114 : decode cX7_laysFours 114 = .ok (.iconst 1, 1) := by decide +kernel
theorem dX7_laysFours_115 : decode cX7_laysFours 115 = .ok (.isub, 1) := by decide +kernel
theorem dX7_laysFours_116 : decode cX7_laysFours 116 = .ok (.invokevirtual 229, 3) := by decide +kernel
theorem dX7_laysFours_119 : decode cX7_laysFours 119 = .ok (.return_, 1) := by decide +kernel
set_option maxRecDepth 20000 in
theorem ggX7_laysOnes_X7_two : GoodIn wsX7_laysOnes wsX7_two := goodIn_r _ [5, 6, 7, 8, 9, 10, 11, 12, 13, 14, 15, 16, 17, 18, 19, 20, 21, 22, 23, 24, 25, 26, 27, 28, 29, 30, 31, 32, 33, 34, 35, 36, 37] (by decide +kernel) (by decide +kernel)
set_option maxRecDepth 20000 in
theorem gX7_laysOnes_X7_two : GoodIn wsX7_laysOnes (wsV RX7 229 RX7 yX7_two wsX7_two) := goodIn_app (goodIn_of _ (by decide +kernel)) ggX7_laysOnes_X7_two
theorem dX7_laysOnes_0 : decode cX7_laysOnes 0 = .ok (.iconst 0, 1) := by decide +kernel
theorem dX7_laysOnes_1 : decode cX7_laysOnes 1 = .ok (.istore_n 2, 1) := by decide +kernel
theorem dX7_laysOnes_2 : decode cX7_laysOnes 2 = .ok (.iload_n 2, 1) := by decide +kernel
theorem dX7_laysOnes_3 : decode cX7_laysOnes 3 = .ok (.iconst 2, 1) := by decide +kernel
theorem dX7_laysOnes_4 : decode cX7_laysOnes 4 = .ok (.iload_n 1, 1) := by decide +kernel
theorem dX7_laysOnes_5 : decode cX7_laysOnes 5 = .ok (.imul, 1) := by decide +kernel
theorem dX7_laysOnes_6 : decode cX7_laysOnes 6 = .ok (.if_icmp .ge 28, 3) := by decide +kernel
theorem dX7_laysOnes_9 : decode cX7_laysOnes 9 = .ok (.aload_n 0, 1) := by decide +kernel
theorem dX7_laysOnes_10 : decode cX7_laysOnes 10 = .ok (.iconst 4, 1) := by decide +kernel
theorem dX7_laysOnes_11 : decode cX7_laysOnes 11 = .ok (.iload_n 1, 1) := by decide +kernel
theorem dX7_laysOnes_12 : decode cX7_laysOnes 12 = .ok (.imul, 1) := by decide +kernel
theorem dX7_laysOnes_13 : decode cX7_laysOnes 13 = .ok (.iconst 2, 1) := by decide +kernel
theorem dX7_laysOnes_14 : decode cX7_laysOnes 14 = .ok (.iadd, 1) := by decide +kernel
theorem dX7_laysOnes_15 : decode cX7_laysOnes 15 = .ok (.iload_n 2, 1) := by decide +kernel
theorem dX7_laysOnes_16 : decode cX7_laysOnes 16 = .ok (.iadd, 1) := by decide +kernel
theorem dX7_laysOnes_17 : decode cX7_laysOnes 17 = .ok (.bipush 8, 2) := by decide +kernel
theorem dX7_laysOnes_19 : decode cX7_laysOnes 19 = .ok (.iload_n 1, 1) := by decide +kernel
theorem dX7_laysOnes_20 : decode cX7_laysOnes 20 = .ok (.imul, 1) := by decide +kernel
theorem dX7_laysOnes_21 : decode cX7_laysOnes 21 = .ok (.iconst 2, 1) := by decide +kernel
theorem dX7_laysOnes_22 : decode cX7_laysOnes 22 = .ok (.iadd, 1) := by decide +kernel
theorem dX7_laysOnes_23 : decode cX7_laysOnes 23 = .ok (.iload_n 2, 1) := by decide +kernel
theorem dX7_laysOnes_24 : decode cX7_laysOnes 24 = .ok (.isub, 1) := by decide +kernel
theorem dX7_laysOnes_25 : decode cX7_laysOnes 25 = .ok (.invokevirtual 229, 3) := by decide +kernel
theorem dX7_laysOnes_28 : decode cX7_laysOnes 28 = .ok (.iinc 2 1, 3) := by decide +kernel
theorem dX7_laysOnes_31 : decode cX7_laysOnes 31 = .ok (.goto (-29), 3) := by decide +kernel
theorem dX7_laysOnes_34 : decode cX7_laysOnes 34 = .ok (.iconst 1, 1) := by decide +kernel
theorem dX7_laysOnes_35 : decode cX7_laysOnes 35 = .ok (.istore_n 2, 1) := by decide +kernel
theorem dX7_laysOnes_36 : decode cX7_laysOnes 36 = .ok (.iload_n 2, 1) := by decide +kernel
theorem dX7_laysOnes_37 : decode cX7_laysOnes 37 = .ok (.iload_n 1, 1) := by decide +kernel
theorem dX7_laysOnes_38 : decode cX7_laysOnes 38 = .ok (.if_icmp .gt 21, 3) := by decide +kernel
theorem dX7_laysOnes_41 : decode cX7_laysOnes 41 = .ok (.aload_n 0, 1) := by decide +kernel
theorem dX7_laysOnes_42 : decode cX7_laysOnes 42 = .ok (.iload_n 2, 1) := by decide +kernel
theorem dX7_laysOnes_43 : decode cX7_laysOnes 43 = .ok (.iconst 4, 1) := by decide +kernel
theorem dX7_laysOnes_44 : decode cX7_laysOnes 44 = .ok (.iload_n 1, 1) := by decide +kernel
theorem dX7_laysOnes_45 : decode cX7_laysOnes 45 = .ok (.imul, 1) := by decide +kernel
theorem dX7_laysOnes_46 : decode cX7_laysOnes 46 = .ok (.iconst 1, 1) := by decide +kernel
theorem dX7_laysOnes_47 : decode cX7_laysOnes 47 = .ok (.iadd, 1) := by decide +kernel
theorem dX7_laysOnes_48 : decode cX7_laysOnes 48 = .ok (.iload_n 2, 1) := by decide +kernel
theorem dX7_laysOnes_49 : decode cX7_laysOnes 49 = .ok (.isub, 1) := by decide +kernel
theorem dX7_laysOnes_50 : decode cX7_laysOnes 50 = .ok (.invokevirtual 229, 3) := by decide +kernel
theorem dX7_laysOnes_53 : decode cX7_laysOnes 53 = .ok (.iinc 2 1, 3) := by decide +kernel
theorem dX7_laysOnes_56 : decode cX7_laysOnes 56 = .ok (.goto (-20), 3) := by decide +kernel
theorem dX7_laysOnes_59 : decode cX7_laysOnes 59 = .ok (.aload_n 0, 1) := by decide +kernel
theorem dX7_laysOnes_60 : decode cX7_laysOnes 60 = .ok (.iconst 2, 1) := by decide +kernel
theorem dX7_laysOnes_61 : decode cX7_laysOnes 61 = .ok (.iload_n 1, 1) := by decide +kernel
theorem dX7_laysOnes_62 : decode cX7_laysOnes 62 = .ok (.imul, 1) := by decide +kernel
theorem dX7_laysOnes_63 : decode cX7_laysOnes 63 = .ok (.iconst 1, 1) := by decide +kernel
theorem dX7_laysOnes_64 : decode cX7_laysOnes 64 = .ok (.iadd, 1) := by decide +kernel
theorem dX7_laysOnes_65 : decode cX7_laysOnes 65 = .ok (.bipush 6, 2) := by decide +kernel
theorem dX7_laysOnes_67 : decode cX7_laysOnes 67 = .ok (.iload_n 1, 1) := by decide +kernel
theorem dX7_laysOnes_68 : decode cX7_laysOnes 68 = .ok (.imul, 1) := by decide +kernel
theorem dX7_laysOnes_69 : decode cX7_laysOnes 69 = .ok (.iconst 2, 1) := by decide +kernel
theorem dX7_laysOnes_70 : decode cX7_laysOnes 70 = .ok (.iadd, 1) := by decide +kernel
theorem dX7_laysOnes_71 : decode cX7_laysOnes 71 = .ok (.invokevirtual 229, 3) := by decide +kernel
theorem dX7_laysOnes_74 : decode cX7_laysOnes 74 = .ok (.aload_n 0, 1) := by decide +kernel
theorem dX7_laysOnes_75 : decode cX7_laysOnes 75 = .ok (.iconst 2, 1) := by decide +kernel
theorem dX7_laysOnes_76 : decode cX7_laysOnes 76 = .ok (.iload_n 1, 1) := by decide +kernel
theorem dX7_laysOnes_77 : decode cX7_laysOnes 77 = .ok (.imul, 1) := by decide +kernel
theorem dX7_laysOnes_78 : decode cX7_laysOnes 78 = .ok (.iconst 2, 1) := by decide +kernel
theorem dX7_laysOnes_79 : decode cX7_laysOnes 79 = .ok (.iadd, 1) := by decide +kernel
theorem dX7_laysOnes_80 : decode cX7_laysOnes 80 = .ok (.iconst 4, 1) := by decide +kernel
theorem dX7_laysOnes_81 : decode cX7_laysOnes 81 = .ok (.iload_n 1, 1) := by decide +kernel
theorem dX7_laysOnes_82 : decode cX7_laysOnes 82 = .ok (.imul, 1) := by decide +kernel
theorem dX7_laysOnes_83 : decode cX7_laysOnes 83 = .ok (.iconst 1, 1) := by decide +kernel
theorem dX7_laysOnes_84 : decode cX7_laysOnes 84 = .ok (.iadd, 1) := by decide +kernel
theorem dX7_laysOnes_85 : decode cX7_laysOnes 85 = .ok (.invokevirtual 229, 3) := by decide +kernel
theorem dX7_laysOnes_88 : decode cX7_laysOnes 88 = .ok (.aload_n 0, 1) := by decide +kernel
theorem dX7_laysOnes_89 : decode cX7_laysOnes 89 = .ok (.iload_n 1, 1) := by decide +kernel
theorem dX7_laysOnes_90 : decode cX7_laysOnes 90 = .ok (.iconst 1, 1) := by decide +kernel
theorem dX7_laysOnes_91 : decode cX7_laysOnes 91 = .ok (.iadd, 1) := by decide +kernel
theorem dX7_laysOnes_92 : decode cX7_laysOnes 92 = .ok (.iload_n 1, 1) := by decide +kernel
theorem dX7_laysOnes_93 : decode cX7_laysOnes 93 = .ok (.iconst 2, 1) := by decide +kernel
theorem dX7_laysOnes_94 : decode cX7_laysOnes 94 = .ok (.iadd, 1) := by decide +kernel
theorem dX7_laysOnes_95 : decode cX7_laysOnes 95 = .ok (.invokevirtual 229, 3) := by decide +kernel
theorem dX7_laysOnes_98 : decode cX7_laysOnes 98 = .ok (.iconst 1, 1) := by decide +kernel
theorem dX7_laysOnes_99 : decode cX7_laysOnes 99 = .ok (.istore_n 2, 1) := by decide +kernel
theorem dX7_laysOnes_100 : decode cX7_laysOnes 100 = .ok (.iload_n 2, 1) := by decide +kernel
theorem dX7_laysOnes_101 : decode cX7_laysOnes 101 = .ok (.iload_n 1, 1) := by decide +kernel
theorem dX7_laysOnes_102 : decode cX7_laysOnes 102 = .ok (.iconst 2, 1) := by decide +kernel
theorem dX7_laysOnes_103 : decode cX7_laysOnes 103 = .ok (.isub, 1) := by decide +kernel
theorem dX7_laysOnes_104 : decode cX7_laysOnes 104 = .ok (.if_icmp .gt 25, 3) := by decide +kernel
theorem dX7_laysOnes_107 : decode cX7_laysOnes 107 = .ok (.aload_n 0, 1) := by decide +kernel
theorem dX7_laysOnes_108 : decode cX7_laysOnes 108 = .ok (.iload_n 1, 1) := by decide +kernel
theorem dX7_laysOnes_109 : decode cX7_laysOnes 109 = .ok (.iconst 2, 1) := by decide +kernel
theorem dX7_laysOnes_110 : decode cX7_laysOnes 110 = .ok (.iadd, 1) := by decide +kernel
theorem dX7_laysOnes_111 : decode cX7_laysOnes 111 = .ok (.iload_n 2, 1) := by decide +kernel
theorem dX7_laysOnes_112 : decode cX7_laysOnes 112 = .ok (.iadd, 1) := by decide +kernel
theorem dX7_laysOnes_113 : decode cX7_laysOnes 113 = .ok (.iconst 3, 1) := by decide +kernel
theorem dX7_laysOnes_114 : decode cX7_laysOnes 114 = .ok (.iload_n 1, 1) := by decide +kernel
theorem dX7_laysOnes_115 : decode cX7_laysOnes 115 = .ok (.imul, 1) := by decide +kernel
theorem dX7_laysOnes_116 : decode cX7_laysOnes 116 = .ok (.iconst 1, 1) := by decide +kernel
theorem dX7_laysOnes_117 : decode cX7_laysOnes 117 = .ok (.iadd, 1) := by decide +kernel
theorem dX7_laysOnes_118 : decode cX7_laysOnes 118 = .ok (.iload_n 2, 1) := by decide +kernel
theorem dX7_laysOnes_119 : decode cX7_laysOnes 119 = .ok (.isub, 1) := by decide +kernel
theorem dX7_laysOnes_120 : decode cX7_laysOnes 120 = .ok (.invokevirtual 229, 3) := by decide +kernel
theorem dX7_laysOnes_123 : decode cX7_laysOnes 123 = .ok (.iinc 2 1, 3) := by decide +kernel
theorem dX7_laysOnes_126 : decode cX7_laysOnes 126 = .ok (.goto (-26), 3) := by decide +kernel
theorem dX7_laysOnes_129 : decode cX7_laysOnes 129 = .ok (.return_, 1) := by decide +kernel
set_option maxRecDepth 20000 in
theorem ggX7_laysTwos_X7_two : GoodIn wsX7_laysTwos wsX7_two := goodIn_r _ [5, 6, 7, 8, 9, 10, 11, 12, 13, 14, 15, 16, 17, 18, 19, 20, 21, 22, 23, 24, 25, 26, 27, 28, 29, 30, 31, 32, 33, 34, 35, 36, 37] (by decide +kernel) (by decide +kernel)
set_option maxRecDepth 20000 in
theorem gX7_laysTwos_X7_two : GoodIn wsX7_laysTwos (wsV RX7 229 RX7 yX7_two wsX7_two) := goodIn_app (goodIn_of _ (by decide +kernel)) ggX7_laysTwos_X7_two
theorem dX7_laysTwos_0 : decode cX7_laysTwos 0 = .ok (.iconst 1, 1) := by decide +kernel
theorem dX7_laysTwos_1 : decode cX7_laysTwos 1 = .ok (.istore_n 2, 1) := by decide +kernel
theorem dX7_laysTwos_2 : decode cX7_laysTwos 2 = .ok (.iload_n 2, 1) := by decide +kernel
theorem dX7_laysTwos_3 : decode cX7_laysTwos 3 = .ok (.iconst 2, 1) := by decide +kernel
theorem dX7_laysTwos_4 : decode cX7_laysTwos 4 = .ok (.iload_n 1, 1) := by decide +kernel
theorem dX7_laysTwos_5 : decode cX7_laysTwos 5 = .ok (.imul, 1) := by decide +kernel
theorem dX7_laysTwos_6 : decode cX7_laysTwos 6 = .ok (.if_icmp .gt 21, 3) := by decide +kernel
theorem dX7_laysTwos_9 : decode cX7_laysTwos 9 = .ok (.aload_n 0, 1) := by decide +kernel
theorem dX7_laysTwos_10 : decode cX7_laysTwos 10 = .ok (.iload_n 2, 1) := by decide +kernel
theorem dX7_laysTwos_11 : decode cX7_laysTwos 11 = .ok (.iconst 4, 1) := by decide +kernel
theorem dX7_laysTwos_12 : decode cX7_laysTwos 12 = .ok (.iload_n 1, 1) := by decide +kernel
theorem dX7_laysTwos_13 : decode cX7_laysTwos 13 = .ok (.imul, 1) := by decide +kernel
theorem dX7_laysTwos_14 : decode cX7_laysTwos 14 = .ok (.iconst 2, 1) := by decide +kernel
theorem dX7_laysTwos_15 : decode cX7_laysTwos 15 = .ok (.iadd, 1) := by decide +kernel
theorem dX7_laysTwos_16 : decode cX7_laysTwos 16 = .ok (.iload_n 2, 1) := by decide +kernel
theorem dX7_laysTwos_17 : decode cX7_laysTwos 17 = .ok (.isub, 1) := by decide +kernel
theorem dX7_laysTwos_18 : decode cX7_laysTwos 18 = .ok (.invokevirtual 229, 3) := by decide +kernel
theorem dX7_laysTwos_21 : decode cX7_laysTwos 21 = .ok (.iinc 2 1, 3) := by decide +kernel
theorem dX7_laysTwos_24 : decode cX7_laysTwos 24 = .ok (.goto (-22), 3) := by decide +kernel
theorem dX7_laysTwos_27 : decode cX7_laysTwos 27 = .ok (.aload_n 0, 1) := by decide +kernel
theorem dX7_laysTwos_28 : decode cX7_laysTwos 28 = .ok (.iconst 2, 1) := by decide +kernel
theorem dX7_laysTwos_29 : decode cX7_laysTwos 29 = .ok (.iload_n 1, 1) := by decide +kernel
theorem dX7_laysTwos_30 : decode cX7_laysTwos 30 = .ok (.imul, 1) := by decide +kernel
theorem dX7_laysTwos_31 : decode cX7_laysTwos 31 = .ok (.iconst 1, 1) := by decide +kernel
theorem dX7_laysTwos_32 : decode cX7_laysTwos 32 = .ok (.iadd, 1) := by decide +kernel
theorem dX7_laysTwos_33 : decode cX7_laysTwos 33 = .ok (.bipush 6, 2) := by decide +kernel
theorem dX7_laysTwos_35 : decode cX7_laysTwos 35 = .ok (.iload_n 1, 1) := by decide +kernel
theorem dX7_laysTwos_36 : decode cX7_laysTwos 36 = .ok (.imul, 1) := by decide +kernel
theorem dX7_laysTwos_37 : decode cX7_laysTwos 37 = .ok (.iconst 2, 1) := by decide +kernel
theorem dX7_laysTwos_38 : decode cX7_laysTwos 38 = .ok (.iadd, 1) := by decide +kernel
theorem dX7_laysTwos_39 : decode cX7_laysTwos 39 = .ok (.invokevirtual 229, 3) := by decide +kernel
theorem dX7_laysTwos_42 : decode cX7_laysTwos 42 = .ok (.aload_n 0, 1) := by decide +kernel
theorem dX7_laysTwos_43 : decode cX7_laysTwos 43 = .ok (.iconst 4, 1) := by decide +kernel
theorem dX7_laysTwos_44 : decode cX7_laysTwos 44 = .ok (.iload_n 1, 1) := by decide +kernel
theorem dX7_laysTwos_45 : decode cX7_laysTwos 45 = .ok (.imul, 1) := by decide +kernel
theorem dX7_laysTwos_46 : decode cX7_laysTwos 46 = .ok (.iconst 2, 1) := by decide +kernel
theorem dX7_laysTwos_47 : decode cX7_laysTwos 47 = .ok (.iadd, 1) := by decide +kernel
theorem dX7_laysTwos_48 : decode cX7_laysTwos 48 = .ok (.bipush 6, 2) := by decide +kernel
theorem dX7_laysTwos_50 : decode cX7_laysTwos 50 = .ok (.iload_n 1, 1) := by decide +kernel
theorem dX7_laysTwos_51 : decode cX7_laysTwos 51 = .ok (.imul, 1) := by decide +kernel
theorem dX7_laysTwos_52 : decode cX7_laysTwos 52 = .ok (.iconst 3, 1) := by decide +kernel
theorem dX7_laysTwos_53 : decode cX7_laysTwos 53 = .ok (.iadd, 1) := by decide +kernel
theorem dX7_laysTwos_54 : decode cX7_laysTwos 54 = .ok (.invokevirtual 229, 3) := by decide +kernel
theorem dX7_laysTwos_57 : decode cX7_laysTwos 57 = .ok (.aload_n 0, 1) := by decide +kernel
theorem dX7_laysTwos_58 : decode cX7_laysTwos 58 = .ok (.iconst 4, 1) := by decide +kernel
theorem dX7_laysTwos_59 : decode cX7_laysTwos 59 = .ok (.iload_n 1, 1) := by decide +kernel
theorem dX7_laysTwos_60 : decode cX7_laysTwos 60 = .ok (.imul, 1) := by decide +kernel
theorem dX7_laysTwos_61 : decode cX7_laysTwos 61 = .ok (.iconst 3, 1) := by decide +kernel
theorem dX7_laysTwos_62 : decode cX7_laysTwos 62 = .ok (.iadd, 1) := by decide +kernel
theorem dX7_laysTwos_63 : decode cX7_laysTwos 63 = .ok (.bipush 8, 2) := by decide +kernel
theorem dX7_laysTwos_65 : decode cX7_laysTwos 65 = .ok (.iload_n 1, 1) := by decide +kernel
theorem dX7_laysTwos_66 : decode cX7_laysTwos 66 = .ok (.imul, 1) := by decide +kernel
theorem dX7_laysTwos_67 : decode cX7_laysTwos 67 = .ok (.iconst 5, 1) := by decide +kernel
theorem dX7_laysTwos_68 : decode cX7_laysTwos 68 = .ok (.iadd, 1) := by decide +kernel
theorem dX7_laysTwos_69 : decode cX7_laysTwos 69 = .ok (.invokevirtual 229, 3) := by decide +kernel
theorem dX7_laysTwos_72 : decode cX7_laysTwos 72 = .ok (.iconst 1, 1) := by decide +kernel
