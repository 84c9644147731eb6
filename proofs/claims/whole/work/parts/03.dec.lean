theorem dX0_init_0 : decode cX0_init 0 = .ok (.aload_n 0, 1) := by decide +kernel
theorem dX0_init_1 : decode cX0_init 1 = .ok (.invokespecial 3, 3) := by decide +kernel
theorem dX0_init_4 : decode cX0_init 4 = .ok (.aload_n 0, 1) := by decide +kernel
theorem dX0_init_5 : decode cX0_init 5 = .ok (.iconst 0, 1) := by decide +kernel
theorem dX0_init_6 : decode cX0_init 6 = .ok (.putfield 9, 3) := by decide +kernel
theorem dX0_init_9 : decode cX0_init 9 = .ok (.return_, 1) := by decide +kernel
theorem dX0_draw_0 : decode cX0_draw 0 = .ok (.aload_n 0, 1) := by decide +kernel
theorem dX0_draw_1 : decode cX0_draw 1 = .ok (.aload_n 0, 1) := by decide +kernel
theorem dX0_draw_2 : decode cX0_draw 2 = .ok (.getfield 9, 3) := by decide +kernel
theorem dX0_draw_5 : decode cX0_draw 5 = .ok (.ldc 15, 2) := by decide +kernel
theorem dX0_draw_7 : decode cX0_draw 7 = .ok (.imul, 1) := by decide +kernel
theorem dX0_draw_8 : decode cX0_draw 8 = .ok (.sipush 12345, 3) := by decide +kernel
theorem dX0_draw_11 : decode cX0_draw 11 = .ok (.iadd, 1) := by decide +kernel
theorem dX0_draw_12 : decode cX0_draw 12 = .ok (.putfield 9, 3) := by decide +kernel
theorem dX0_draw_15 : decode cX0_draw 15 = .ok (.iload_n 1, 1) := by decide +kernel
theorem dX0_draw_16 : decode cX0_draw 16 = .ok (.iconst 1, 1) := by decide +kernel
theorem dX0_draw_17 : decode cX0_draw 17 = .ok (.if_icmp .ge 7, 3) := by decide +kernel
theorem dX0_draw_20 : decode cX0_draw 20 = .ok (.iconst 0, 1) := by decide +kernel
theorem dX0_draw_21 : decode cX0_draw 21 = .ok (.goto 12, 3) := by decide +kernel
theorem dX0_draw_24 : decode cX0_draw 24 = .ok (.aload_n 0, 1) := by decide +kernel
theorem dX0_draw_25 : decode cX0_draw 25 = .ok (.getfield 9, 3) := by decide +kernel
theorem dX0_draw_28 : decode cX0_draw 28 = .ok (.bipush 8, 2) := by decide +kernel
theorem dX0_draw_30 : decode cX0_draw 30 = .ok (.iushr, 1) := by decide +kernel
theorem dX0_draw_31 : decode cX0_draw 31 = .ok (.iload_n 1, 1) := by decide +kernel
theorem dX0_draw_32 : decode cX0_draw 32 = .ok (.irem, 1) := by decide +kernel
theorem dX0_draw_33 : decode cX0_draw 33 = .ok (.ireturn, 1) := by decide +kernel
set_option maxRecDepth 20000 in
theorem ggX0_doDeed_X0_draw : GoodIn wsX0_doDeed wsX0_draw := goodIn_r _ [5, 6, 7, 66] (by decide +kernel) (by decide +kernel)
set_option maxRecDepth 20000 in
theorem gX0_doDeed_X0_draw : GoodIn wsX0_doDeed (wsV RX0 16 RX0 yX0_draw wsX0_draw) := goodIn_app (goodIn_of _ (by decide +kernel)) ggX0_doDeed_X0_draw
set_option maxRecDepth 20000 in
theorem ggX0_doDeed_X2_hasHole : GoodIn wsX0_doDeed wsX2_hasHole := goodIn_r _ [12, 13, 14, 15, 16, 11, 17, 18, 19, 20, 21, 62, 63, 64, 65] (by decide +kernel) (by decide +kernel)
set_option maxRecDepth 20000 in
theorem gX0_doDeed_X2_hasHole : GoodIn wsX0_doDeed (wsV RX0 25 RX2 yX2_hasHole wsX2_hasHole) := goodIn_app (goodIn_of _ (by decide +kernel)) ggX0_doDeed_X2_hasHole
set_option maxRecDepth 20000 in
theorem ggX0_doDeed_X2_setHole : GoodIn wsX0_doDeed wsX2_setHole := goodIn_r _ [25, 13, 14, 15, 16, 11, 17, 18, 26, 9, 10, 12, 19, 20, 21, 27, 28, 29, 30, 31, 32, 33, 34, 35, 36, 37, 38, 62, 63, 64, 65] (by decide +kernel) (by decide +kernel)
set_option maxRecDepth 20000 in
theorem gX0_doDeed_X2_setHole : GoodIn wsX0_doDeed (wsV RX0 29 RX2 yX2_setHole wsX2_setHole) := goodIn_app (goodIn_of _ (by decide +kernel)) ggX0_doDeed_X2_setHole
set_option maxRecDepth 20000 in
theorem ggX0_doDeed_X2_hasPair : GoodIn wsX0_doDeed wsX2_hasPair := goodIn_r _ [42, 43, 19, 20, 21, 62, 63, 64, 65] (by decide +kernel) (by decide +kernel)
set_option maxRecDepth 20000 in
theorem gX0_doDeed_X2_hasPair : GoodIn wsX0_doDeed (wsV RX0 33 RX2 yX2_hasPair wsX2_hasPair) := goodIn_app (goodIn_of _ (by decide +kernel)) ggX0_doDeed_X2_hasPair
set_option maxRecDepth 20000 in
theorem ggX0_doDeed_X2_setPair : GoodIn wsX0_doDeed wsX2_setPair := goodIn_r _ [47, 43, 31, 48, 40, 41, 11, 42, 19, 20, 21, 32, 33, 34, 35, 36, 37, 38, 62, 63, 64, 65] (by decide +kernel) (by decide +kernel)
set_option maxRecDepth 20000 in
theorem gX0_doDeed_X2_setPair : GoodIn wsX0_doDeed (wsV RX0 36 RX2 yX2_setPair wsX2_setPair) := goodIn_app (goodIn_of _ (by decide +kernel)) ggX0_doDeed_X2_setPair
set_option maxRecDepth 20000 in
theorem ggX0_doDeed_X0_doPin : GoodIn wsX0_doDeed wsX0_doPin := goodIn_r _ [52, 53, 33, 34, 35, 36, 37, 38, 1, 2, 3, 4, 5, 6, 7, 54, 55, 56, 11, 57, 48, 40, 41, 42, 43, 19, 20, 21, 39, 58, 59, 60, 61, 31, 13, 14, 15, 16, 17, 18, 27, 28, 29, 30, 62, 63, 64, 65, 66] (by decide +kernel) (by decide +kernel)
set_option maxRecDepth 20000 in
theorem gX0_doDeed_X0_doPin : GoodIn wsX0_doDeed (wsV RX0 39 RX0 yX0_doPin wsX0_doPin) := goodIn_app (goodIn_of _ (by decide +kernel)) ggX0_doDeed_X0_doPin
theorem dX0_doDeed_0 : decode cX0_doDeed 0 = .ok (.aload_n 0, 1) := by decide +kernel
theorem dX0_doDeed_1 : decode cX0_doDeed 1 = .ok (.iconst 4, 1) := by decide +kernel
theorem dX0_doDeed_2 : decode cX0_doDeed 2 = .ok (.invokevirtual 16, 3) := by decide +kernel
theorem dX0_doDeed_5 : decode cX0_doDeed 5 = .ok (.istore_n 2, 1) := by decide +kernel
theorem dX0_doDeed_6 : decode cX0_doDeed 6 = .ok (.aload_n 1, 1) := by decide +kernel
theorem dX0_doDeed_7 : decode cX0_doDeed 7 = .ok (.getfield 20, 3) := by decide +kernel
theorem dX0_doDeed_10 : decode cX0_doDeed 10 = .ok (.ifCond .ne 5, 3) := by decide +kernel
theorem dX0_doDeed_13 : decode cX0_doDeed 13 = .ok (.iconst 0, 1) := by decide +kernel
theorem dX0_doDeed_14 : decode cX0_doDeed 14 = .ok (.ireturn, 1) := by decide +kernel
theorem dX0_doDeed_15 : decode cX0_doDeed 15 = .ok (.iload_n 2, 1) := by decide +kernel
theorem dX0_doDeed_16 : decode cX0_doDeed 16 = .ok (.ifCond .ne 42, 3) := by decide +kernel
theorem dX0_doDeed_19 : decode cX0_doDeed 19 = .ok (.aload_n 0, 1) := by decide +kernel
theorem dX0_doDeed_20 : decode cX0_doDeed 20 = .ok (.aload_n 1, 1) := by decide +kernel
theorem dX0_doDeed_21 : decode cX0_doDeed 21 = .ok (.getfield 20, 3) := by decide +kernel
theorem dX0_doDeed_24 : decode cX0_doDeed 24 = .ok (.invokevirtual 16, 3) := by decide +kernel
theorem dX0_doDeed_27 : decode cX0_doDeed 27 = .ok (.iconst 1, 1) := by decide +kernel
theorem dX0_doDeed_28 : decode cX0_doDeed 28 = .ok (.iadd, 1) := by decide +kernel
theorem dX0_doDeed_29 : decode cX0_doDeed 29 = .ok (.istore_n 3, 1) := by decide +kernel
theorem dX0_doDeed_30 : decode cX0_doDeed 30 = .ok (.aload_n 1, 1) := by decide +kernel
theorem dX0_doDeed_31 : decode cX0_doDeed 31 = .ok (.iload_n 3, 1) := by decide +kernel
theorem dX0_doDeed_32 : decode cX0_doDeed 32 = .ok (.aload_n 1, 1) := by decide +kernel
theorem dX0_doDeed_33 : decode cX0_doDeed 33 = .ok (.iload_n 3, 1) := by decide +kernel
theorem dX0_doDeed_34 : decode cX0_doDeed 34 = .ok (.invokevirtual 25, 3) := by decide +kernel
theorem dX0_doDeed_37 : decode cX0_doDeed 37 = .ok (.ifCond .ne 7, 3) := by decide +kernel
theorem dX0_doDeed_40 : decode cX0_doDeed 40 = .ok (.iconst 1, 1) := by decide +kernel
theorem dX0_doDeed_41 : decode cX0_doDeed 41 = .ok (.goto 4, 3) := by decide +kernel
theorem dX0_doDeed_44 : decode cX0_doDeed 44 = .ok (.iconst 0, 1) := by decide +kernel
theorem dX0_doDeed_45 : decode cX0_doDeed 45 = .ok (.invokevirtual 29, 3) := by decide +kernel
theorem dX0_doDeed_48 : decode cX0_doDeed 48 = .ok (.iconst (-1), 1) := by decide +kernel
theorem dX0_doDeed_49 : decode cX0_doDeed 49 = .ok (.if_icmp .eq 7, 3) := by decide +kernel
theorem dX0_doDeed_52 : decode cX0_doDeed 52 = .ok (.iconst 1, 1) := by decide +kernel
theorem dX0_doDeed_53 : decode cX0_doDeed 53 = .ok (.goto 4, 3) := by decide +kernel
theorem dX0_doDeed_56 : decode cX0_doDeed 56 = .ok (.iconst 0, 1) := by decide +kernel
theorem dX0_doDeed_57 : decode cX0_doDeed 57 = .ok (.ireturn, 1) := by decide +kernel
theorem dX0_doDeed_58 : decode cX0_doDeed 58 = .ok (.iload_n 2, 1) := by decide +kernel
theorem dX0_doDeed_59 : decode cX0_doDeed 59 = .ok (.iconst 1, 1) := by decide +kernel
theorem dX0_doDeed_60 : decode cX0_doDeed 60 = .ok (.if_icmp .ne 40, 3) := by decide +kernel
theorem dX0_doDeed_63 : decode cX0_doDeed 63 = .ok (.aload_n 0, 1) := by decide +kernel
theorem dX0_doDeed_64 : decode cX0_doDeed 64 = .ok (.bipush 15, 2) := by decide +kernel
theorem dX0_doDeed_66 : decode cX0_doDeed 66 = .ok (.invokevirtual 16, 3) := by decide +kernel
theorem dX0_doDeed_69 : decode cX0_doDeed 69 = .ok (.iconst 1, 1) := by decide +kernel
theorem dX0_doDeed_70 : decode cX0_doDeed 70 = .ok (.iadd, 1) := by decide +kernel
theorem dX0_doDeed_71 : decode cX0_doDeed 71 = .ok (.istore_n 3, 1) := by decide +kernel
theorem dX0_doDeed_72 : decode cX0_doDeed 72 = .ok (.aload_n 1, 1) := by decide +kernel
theorem dX0_doDeed_73 : decode cX0_doDeed 73 = .ok (.iload_n 3, 1) := by decide +kernel
theorem dX0_doDeed_74 : decode cX0_doDeed 74 = .ok (.aload_n 1, 1) := by decide +kernel
theorem dX0_doDeed_75 : decode cX0_doDeed 75 = .ok (.iload_n 3, 1) := by decide +kernel
theorem dX0_doDeed_76 : decode cX0_doDeed 76 = .ok (.invokevirtual 33, 3) := by decide +kernel
theorem dX0_doDeed_79 : decode cX0_doDeed 79 = .ok (.ifCond .ne 7, 3) := by decide +kernel
theorem dX0_doDeed_82 : decode cX0_doDeed 82 = .ok (.iconst 1, 1) := by decide +kernel
theorem dX0_doDeed_83 : decode cX0_doDeed 83 = .ok (.goto 4, 3) := by decide +kernel
theorem dX0_doDeed_86 : decode cX0_doDeed 86 = .ok (.iconst 0, 1) := by decide +kernel
theorem dX0_doDeed_87 : decode cX0_doDeed 87 = .ok (.invokevirtual 36, 3) := by decide +kernel
theorem dX0_doDeed_90 : decode cX0_doDeed 90 = .ok (.iconst (-1), 1) := by decide +kernel
theorem dX0_doDeed_91 : decode cX0_doDeed 91 = .ok (.if_icmp .eq 7, 3) := by decide +kernel
theorem dX0_doDeed_94 : decode cX0_doDeed 94 = .ok (.iconst 1, 1) := by decide +kernel
theorem dX0_doDeed_95 : decode cX0_doDeed 95 = .ok (.goto 4, 3) := by decide +kernel
theorem dX0_doDeed_98 : decode cX0_doDeed 98 = .ok (.iconst 0, 1) := by decide +kernel
theorem dX0_doDeed_99 : decode cX0_doDeed 99 = .ok (.ireturn, 1) := by decide +kernel
theorem dX0_doDeed_100 : decode cX0_doDeed 100 = .ok (.aload_n 0, 1) := by decide +kernel
theorem dX0_doDeed_101 : decode cX0_doDeed 101 = .ok (.aload_n 1, 1) := by decide +kernel
theorem dX0_doDeed_102 : decode cX0_doDeed 102 = .ok (.invokevirtual 39, 3) := by decide +kernel
theorem dX0_doDeed_105 : decode cX0_doDeed 105 = .ok (.ireturn, 1) := by decide +kernel
set_option maxRecDepth 20000 in
theorem ggX0_doPin_J6_bitCount_0f7a4 : GoodIn wsX0_doPin wsJ6_bitCount_0f7a4 := goodIn_r _ [4, 5, 6, 7] (by decide +kernel) (by decide +kernel)
set_option maxRecDepth 20000 in
theorem gX0_doPin_J6_bitCount_0f7a4 : GoodIn wsX0_doPin (va_wsS RX0 46 yJ6_bitCount_0f7a4 wsJ6_bitCount_0f7a4) := goodIn_app (goodIn_of _ (by decide +kernel)) ggX0_doPin_J6_bitCount_0f7a4
set_option maxRecDepth 20000 in
theorem ggX0_doPin_X0_draw : GoodIn wsX0_doPin wsX0_draw := goodIn_r _ [12, 13, 14, 48] (by decide +kernel) (by decide +kernel)
set_option maxRecDepth 20000 in
theorem gX0_doPin_X0_draw : GoodIn wsX0_doPin (wsV RX0 16 RX0 yX0_draw wsX0_draw) := goodIn_app (goodIn_of _ (by decide +kernel)) ggX0_doPin_X0_draw
set_option maxRecDepth 20000 in
theorem ggX0_doPin_X2_distanceOf : GoodIn wsX0_doPin wsX2_distanceOf := goodIn_r _ [19, 20, 21, 22, 18, 23, 24, 25, 26, 27, 44, 45, 46, 47] (by decide +kernel) (by decide +kernel)
set_option maxRecDepth 20000 in
theorem gX0_doPin_X2_distanceOf : GoodIn wsX0_doPin (wsV RX0 51 RX2 yX2_distanceOf wsX2_distanceOf) := goodIn_app (goodIn_of _ (by decide +kernel)) ggX0_doPin_X2_distanceOf
set_option maxRecDepth 20000 in
theorem ggX0_doPin_X2_hasPair : GoodIn wsX0_doPin wsX2_hasPair := goodIn_r _ [23, 24, 25, 26, 27, 44, 45, 46, 47] (by decide +kernel) (by decide +kernel)
set_option maxRecDepth 20000 in
theorem gX0_doPin_X2_hasPair : GoodIn wsX0_doPin (wsV RX0 33 RX2 yX2_hasPair wsX2_hasPair) := goodIn_app (goodIn_of _ (by decide +kernel)) ggX0_doPin_X2_hasPair
set_option maxRecDepth 20000 in
theorem ggX0_doPin_X2_setPin : GoodIn wsX0_doPin wsX2_setPin := goodIn_r _ [32, 33, 34, 20, 21, 22, 18, 23, 24, 25, 26, 27, 35, 36, 37, 38, 39, 40, 41, 42, 43, 44, 45, 46, 47] (by decide +kernel) (by decide +kernel)
set_option maxRecDepth 20000 in
theorem gX0_doPin_X2_setPin : GoodIn wsX0_doPin (wsV RX0 58 RX2 yX2_setPin wsX2_setPin) := goodIn_app (goodIn_of _ (by decide +kernel)) ggX0_doPin_X2_setPin
theorem dX0_doPin_0 : decode cX0_doPin 0 = .ok (.aload_n 1, 1) := by decide +kernel
theorem dX0_doPin_1 : decode cX0_doPin 1 = .ok (.getfield 43, 3) := by decide +kernel
theorem dX0_doPin_4 : decode cX0_doPin 4 = .ok (.invokestatic 46, 3) := by decide +kernel
theorem dX0_doPin_7 : decode cX0_doPin 7 = .ok (.istore_n 2, 1) := by decide +kernel
theorem dX0_doPin_8 : decode cX0_doPin 8 = .ok (.iload_n 2, 1) := by decide +kernel
theorem dX0_doPin_9 : decode cX0_doPin 9 = .ok (.ifCond .ne 5, 3) := by decide +kernel
theorem dX0_doPin_12 : decode cX0_doPin 12 = .ok (.iconst 0, 1) := by decide +kernel
theorem dX0_doPin_13 : decode cX0_doPin 13 = .ok (.ireturn, 1) := by decide +kernel
theorem dX0_doPin_14 : decode cX0_doPin 14 = .ok (.aload_n 1, 1) := by decide +kernel
theorem dX0_doPin_15 : decode cX0_doPin 15 = .ok (.aload_n 0, 1) := by decide +kernel
theorem dX0_doPin_16 : decode cX0_doPin 16 = .ok (.iload_n 2, 1) := by decide +kernel
theorem dX0_doPin_17 : decode cX0_doPin 17 = .ok (.invokevirtual 16, 3) := by decide +kernel
theorem dX0_doPin_20 : decode cX0_doPin 20 = .ok (.invokevirtual 51, 3) := by decide +kernel
theorem dX0_doPin_23 : decode cX0_doPin 23 = .ok (.istore_n 3, 1) := by decide +kernel
theorem dX0_doPin_24 : decode cX0_doPin 24 = .ok (.aload_n 0, 1) := by decide +kernel
theorem dX0_doPin_25 : decode cX0_doPin 25 = .ok (.aload_n 1, 1) := by decide +kernel
theorem dX0_doPin_26 : decode cX0_doPin 26 = .ok (.getfield 20, 3) := by decide +kernel
theorem dX0_doPin_29 : decode cX0_doPin 29 = .ok (.invokevirtual 16, 3) := by decide +kernel
theorem dX0_doPin_32 : decode cX0_doPin 32 = .ok (.iconst 1, 1) := by decide +kernel
theorem dX0_doPin_33 : decode cX0_doPin 33 = .ok (.iadd, 1) := by decide +kernel
theorem dX0_doPin_34 : decode cX0_doPin 34 = .ok (.istore 4, 2) := by decide +kernel
theorem dX0_doPin_36 : decode cX0_doPin 36 = .ok (.aload_n 1, 1) := by decide +kernel
theorem dX0_doPin_37 : decode cX0_doPin 37 = .ok (.iload_n 3, 1) := by decide +kernel
theorem dX0_doPin_38 : decode cX0_doPin 38 = .ok (.invokevirtual 33, 3) := by decide +kernel
theorem dX0_doPin_41 : decode cX0_doPin 41 = .ok (.ifCond .eq 16, 3) := by decide +kernel
theorem dX0_doPin_44 : decode cX0_doPin 44 = .ok (.aload_n 1, 1) := by decide +kernel
theorem dX0_doPin_45 : decode cX0_doPin 45 = .ok (.getfield 54, 3) := by decide +kernel
theorem dX0_doPin_48 : decode cX0_doPin 48 = .ok (.iload_n 3, 1) := by decide +kernel
theorem dX0_doPin_49 : decode cX0_doPin 49 = .ok (.iaload, 1) := by decide +kernel
theorem dX0_doPin_50 : decode cX0_doPin 50 = .ok (.ifCond .eq 7, 3) := by decide +kernel
theorem dX0_doPin_53 : decode cX0_doPin 53 = .ok (.iconst 1, 1) := by decide +kernel
theorem dX0_doPin_54 : decode cX0_doPin 54 = .ok (.goto 4, 3) := by decide +kernel
theorem dX0_doPin_57 : decode cX0_doPin 57 = .ok (.iconst 0, 1) := by decide +kernel
theorem dX0_doPin_58 : decode cX0_doPin 58 = .ok (.istore 5, 2) := by decide +kernel
theorem dX0_doPin_60 : decode cX0_doPin 60 = .ok (.aload_n 1, 1) := by decide +kernel
theorem dX0_doPin_61 : decode cX0_doPin 61 = .ok (.iload_n 3, 1) := by decide +kernel
theorem dX0_doPin_62 : decode cX0_doPin 62 = .ok (.iload 5, 2) := by decide +kernel
theorem dX0_doPin_64 : decode cX0_doPin 64 = .ok (.ifCond .eq 7, 3) := by decide +kernel
theorem dX0_doPin_67 : decode cX0_doPin 67 = .ok (.iconst 0, 1) := by decide +kernel
theorem dX0_doPin_68 : decode cX0_doPin 68 = .ok (.goto 5, 3) := by decide +kernel
theorem dX0_doPin_71 : decode cX0_doPin 71 = .ok (.iload 4, 2) := by decide +kernel
theorem dX0_doPin_73 : decode cX0_doPin 73 = .ok (.invokevirtual 58, 3) := by decide +kernel
theorem dX0_doPin_76 : decode cX0_doPin 76 = .ok (.ifCond .ne 7, 3) := by decide +kernel
theorem dX0_doPin_79 : decode cX0_doPin 79 = .ok (.iconst 1, 1) := by decide +kernel
theorem dX0_doPin_80 : decode cX0_doPin 80 = .ok (.goto 4, 3) := by decide +kernel
theorem dX0_doPin_83 : decode cX0_doPin 83 = .ok (.iconst 0, 1) := by decide +kernel
theorem dX0_doPin_84 : decode cX0_doPin 84 = .ok (.ireturn, 1) := by decide +kernel
theorem dX1_init_0 : decode cX1_init 0 = .ok (.aload_n 0, 1) := by decide +kernel
theorem dX1_init_1 : decode cX1_init 1 = .ok (.invokespecial 3, 3) := by decide +kernel
theorem dX1_init_4 : decode cX1_init 4 = .ok (.aload_n 0, 1) := by decide +kernel
theorem dX1_init_5 : decode cX1_init 5 = .ok (.bipush 19, 2) := by decide +kernel
theorem dX1_init_7 : decode cX1_init 7 = .ok (.newarray .long, 2) := by decide +kernel
theorem dX1_init_9 : decode cX1_init 9 = .ok (.putfield 9, 3) := by decide +kernel
theorem dX1_init_12 : decode cX1_init 12 = .ok (.aload_n 0, 1) := by decide +kernel
theorem dX1_init_13 : decode cX1_init 13 = .ok (.bipush 16, 2) := by decide +kernel
theorem dX1_init_15 : decode cX1_init 15 = .ok (.newarray .int, 2) := by decide +kernel
theorem dX1_init_17 : decode cX1_init 17 = .ok (.putfield 15, 3) := by decide +kernel
theorem dX1_init_20 : decode cX1_init 20 = .ok (.aload_n 0, 1) := by decide +kernel
theorem dX1_init_21 : decode cX1_init 21 = .ok (.bipush 10, 2) := by decide +kernel
theorem dX1_init_23 : decode cX1_init 23 = .ok (.newarray .int, 2) := by decide +kernel
theorem dX1_init_25 : decode cX1_init 25 = .ok (.putfield 19, 3) := by decide +kernel
theorem dX1_init_28 : decode cX1_init 28 = .ok (.aload_n 0, 1) := by decide +kernel
theorem dX1_init_29 : decode cX1_init 29 = .ok (.bipush 16, 2) := by decide +kernel
theorem dX1_init_31 : decode cX1_init 31 = .ok (.bipush 19, 2) := by decide +kernel
theorem dX1_init_33 : decode cX1_init 33 = .ok (.multianewarray 22 2, 4) := by decide +kernel
theorem dX1_init_37 : decode cX1_init 37 = .ok (.putfield 24, 3) := by decide +kernel
theorem dX1_init_40 : decode cX1_init 40 = .ok (.aload_n 0, 1) := by decide +kernel
theorem dX1_init_41 : decode cX1_init 41 = .ok (.iconst 0, 1) := by decide +kernel
theorem dX1_init_42 : decode cX1_init 42 = .ok (.putfield 27, 3) := by decide +kernel
theorem dX1_init_45 : decode cX1_init 45 = .ok (.aload_n 0, 1) := by decide +kernel
theorem dX1_init_46 : decode cX1_init 46 = .ok (.iconst 0, 1) := by decide +kernel
theorem dX1_init_47 : decode cX1_init 47 = .ok (.putfield 31, 3) := by decide +kernel
theorem dX1_init_50 : decode cX1_init 50 = .ok (.aload_n 0, 1) := by decide +kernel
theorem dX1_init_51 : decode cX1_init 51 = .ok (.iconst 0, 1) := by decide +kernel
theorem dX1_init_52 : decode cX1_init 52 = .ok (.putfield 35, 3) := by decide +kernel
theorem dX1_init_55 : decode cX1_init 55 = .ok (.aload_n 0, 1) := by decide +kernel
theorem dX1_init_56 : decode cX1_init 56 = .ok (.iload_n 1, 1) := by decide +kernel
theorem dX1_init_57 : decode cX1_init 57 = .ok (.iconst 0, 1) := by decide +kernel
theorem dX1_init_58 : decode cX1_init 58 = .ok (.invokestatic 38, 3) := by decide +kernel
theorem dX1_init_61 : decode cX1_init 61 = .ok (.newarray .long, 2) := by decide +kernel
theorem dX1_init_63 : decode cX1_init 63 = .ok (.putfield 44, 3) := by decide +kernel
theorem dX1_init_66 : decode cX1_init 66 = .ok (.return_, 1) := by decide +kernel
set_option maxRecDepth 20000 in
theorem ggX1_countAll_J7_fill_53178 : GoodIn wsX1_countAll wsJ7_fill_53178 := goodIn_r _ [7] (by decide +kernel) (by decide +kernel)
set_option maxRecDepth 20000 in
theorem gX1_countAll_J7_fill_53178 : GoodIn wsX1_countAll (va_wsS RX1 47 yJ7_fill_53178 wsJ7_fill_53178) := goodIn_app (goodIn_of _ (by decide +kernel)) ggX1_countAll_J7_fill_53178
set_option maxRecDepth 20000 in
theorem ggX1_countAll_X1_nameDigits : GoodIn wsX1_countAll wsX1_nameDigits := goodIn_r _ [12, 13, 14, 15, 16, 17, 18, 19, 20, 21, 22, 23, 79, 80, 81, 82, 83, 84, 85, 86, 87, 88, 89, 90] (by decide +kernel) (by decide +kernel)
set_option maxRecDepth 20000 in
theorem gX1_countAll_X1_nameDigits : GoodIn wsX1_countAll (wsV RX1 53 RX1 yX1_nameDigits wsX1_nameDigits) := goodIn_app (goodIn_of _ (by decide +kernel)) ggX1_countAll_X1_nameDigits
set_option maxRecDepth 20000 in
theorem ggX1_countAll_X1_weighPlaces : GoodIn wsX1_countAll wsX1_weighPlaces := goodIn_r _ [27, 28, 29, 30, 31, 32, 33, 34, 87, 88, 89, 90, 79, 80, 81, 82, 83, 84, 85, 86] (by decide +kernel) (by decide +kernel)
set_option maxRecDepth 20000 in
theorem gX1_countAll_X1_weighPlaces : GoodIn wsX1_countAll (wsV RX1 57 RX1 yX1_weighPlaces wsX1_weighPlaces) := goodIn_app (goodIn_of _ (by decide +kernel)) ggX1_countAll_X1_weighPlaces
set_option maxRecDepth 20000 in
theorem ggX1_countAll_X2_isEven : GoodIn wsX1_countAll wsX2_isEven := goodIn_r _ [38, 20, 39, 40, 41, 18, 42, 43, 44, 45, 46, 47, 48, 49, 50, 51, 52, 53, 54, 21, 22, 23, 87, 88, 89, 90] (by decide +kernel) (by decide +kernel)
set_option maxRecDepth 20000 in
theorem gX1_countAll_X2_isEven : GoodIn wsX1_countAll (wsV RX1 60 RX2 yX2_isEven wsX2_isEven) := goodIn_app (goodIn_of _ (by decide +kernel)) ggX1_countAll_X2_isEven
set_option maxRecDepth 20000 in
theorem ggX1_countAll_X2_placesToFill : GoodIn wsX1_countAll wsX2_placesToFill := goodIn_r _ [42, 43, 44, 87, 88, 89, 90] (by decide +kernel) (by decide +kernel)
set_option maxRecDepth 20000 in
theorem gX1_countAll_X2_placesToFill : GoodIn wsX1_countAll (wsV RX1 66 RX2 yX2_placesToFill wsX2_placesToFill) := goodIn_app (goodIn_of _ (by decide +kernel)) ggX1_countAll_X2_placesToFill
set_option maxRecDepth 20000 in
theorem ggX1_countAll_X2_pinnedPlaces : GoodIn wsX1_countAll wsX2_pinnedPlaces := goodIn_r _ [59, 60, 21, 22, 23, 87, 88, 89, 90] (by decide +kernel) (by decide +kernel)
set_option maxRecDepth 20000 in
theorem gX1_countAll_X2_pinnedPlaces : GoodIn wsX1_countAll (wsV RX1 70 RX2 yX2_pinnedPlaces wsX2_pinnedPlaces) := goodIn_app (goodIn_of _ (by decide +kernel)) ggX1_countAll_X2_pinnedPlaces
set_option maxRecDepth 20000 in
theorem ggX1_countAll_X2_pinnedPairs : GoodIn wsX1_countAll wsX2_pinnedPairs := goodIn_r _ [64, 60, 21, 22, 23, 87, 88, 89, 90] (by decide +kernel) (by decide +kernel)
set_option maxRecDepth 20000 in
theorem gX1_countAll_X2_pinnedPairs : GoodIn wsX1_countAll (wsV RX1 77 RX2 yX2_pinnedPairs wsX2_pinnedPairs) := goodIn_app (goodIn_of _ (by decide +kernel)) ggX1_countAll_X2_pinnedPairs
set_option maxRecDepth 20000 in
theorem ggX1_countAll_X1_fill : GoodIn wsX1_countAll wsX1_fill := goodIn_r _ [68, 32, 2, 21, 22, 23, 69, 70, 71, 11, 72, 73, 65, 66, 67, 74, 46, 47, 48, 49, 50, 51, 75, 76, 77, 78, 3, 13, 33, 79, 80, 81, 82, 83, 84, 85, 86] (by decide +kernel) (by decide +kernel)
set_option maxRecDepth 20000 in
theorem gX1_countAll_X1_fill : GoodIn wsX1_countAll (wsV RX1 80 RX1 yX1_fill wsX1_fill) := goodIn_app (goodIn_of _ (by decide +kernel)) ggX1_countAll_X1_fill
set_option maxRecDepth 20000 in
theorem ggX1_countAll_X1_stand : GoodIn wsX1_countAll wsX1_stand := goodIn_r _ [78, 32, 3, 2, 13, 33, 73, 79, 80, 81, 82, 83, 84, 85, 86] (by decide +kernel) (by decide +kernel)
set_option maxRecDepth 20000 in
theorem gX1_countAll_X1_stand : GoodIn wsX1_countAll (wsV RX1 86 RX1 yX1_stand wsX1_stand) := goodIn_app (goodIn_of _ (by decide +kernel)) ggX1_countAll_X1_stand
theorem dX1_countAll_0 : decode cX1_countAll 0 = .ok (.aload_n 0, 1) := by decide +kernel
theorem dX1_countAll_1 : decode cX1_countAll 1 = .ok (.iconst 1, 1) := by decide +kernel
theorem dX1_countAll_2 : decode cX1_countAll 2 = .ok (.putfield 27, 3) := by decide +kernel
theorem dX1_countAll_5 : decode cX1_countAll 5 = .ok (.aload_n 0, 1) := by decide +kernel
theorem dX1_countAll_6 : decode cX1_countAll 6 = .ok (.iconst 0, 1) := by decide +kernel
theorem dX1_countAll_7 : decode cX1_countAll 7 = .ok (.putfield 35, 3) := by decide +kernel
theorem dX1_countAll_10 : decode cX1_countAll 10 = .ok (.iconst 1, 1) := by decide +kernel
theorem dX1_countAll_11 : decode cX1_countAll 11 = .ok (.istore_n 2, 1) := by decide +kernel
theorem dX1_countAll_12 : decode cX1_countAll 12 = .ok (.iload_n 2, 1) := by decide +kernel
theorem dX1_countAll_13 : decode cX1_countAll 13 = .ok (.bipush 15, 2) := by decide +kernel
theorem dX1_countAll_15 : decode cX1_countAll 15 = .ok (.if_icmp .gt 19, 3) := by decide +kernel
theorem dX1_countAll_18 : decode cX1_countAll 18 = .ok (.aload_n 0, 1) := by decide +kernel
theorem dX1_countAll_19 : decode cX1_countAll 19 = .ok (.getfield 24, 3) := by decide +kernel
theorem dX1_countAll_22 : decode cX1_countAll 22 = .ok (.iload_n 2, 1) := by decide +kernel
theorem dX1_countAll_23 : decode cX1_countAll 23 = .ok (.aaload, 1) := by decide +kernel
theorem dX1_countAll_24 : decode cX1_countAll 24 = .ok (.iconst 0, 1) := by decide +kernel
theorem dX1_countAll_25 : decode cX1_countAll 25 = .ok (.invokestatic 47, 3) := by decide +kernel
theorem dX1_countAll_28 : decode cX1_countAll 28 = .ok (.iinc 2 1, 3) := by decide +kernel
theorem dX1_countAll_31 : decode cX1_countAll 31 = .ok (.goto (-19), 3) := by decide +kernel
theorem dX1_countAll_34 : decode cX1_countAll 34 = .ok (.aload_n 0, 1) := by decide +kernel
theorem dX1_countAll_35 : decode cX1_countAll 35 = .ok (.aload_n 1, 1) := by decide +kernel
theorem dX1_countAll_36 : decode cX1_countAll 36 = .ok (.invokevirtual 53, 3) := by decide +kernel
theorem dX1_countAll_39 : decode cX1_countAll 39 = .ok (.aload_n 0, 1) := by decide +kernel
theorem dX1_countAll_40 : decode cX1_countAll 40 = .ok (.aload_n 1, 1) := by decide +kernel
theorem dX1_countAll_41 : decode cX1_countAll 41 = .ok (.invokevirtual 57, 3) := by decide +kernel
theorem dX1_countAll_44 : decode cX1_countAll 44 = .ok (.aload_n 1, 1) := by decide +kernel
theorem dX1_countAll_45 : decode cX1_countAll 45 = .ok (.invokevirtual 60, 3) := by decide +kernel
theorem dX1_countAll_48 : decode cX1_countAll 48 = .ok (.ifCond .ne 4, 3) := by decide +kernel
theorem dX1_countAll_51 : decode cX1_countAll 51 = .ok (.return_, 1) := by decide +kernel
theorem dX1_countAll_52 : decode cX1_countAll 52 = .ok (.aload_n 0, 1) := by decide +kernel
theorem dX1_countAll_53 : decode cX1_countAll 53 = .ok (.iconst 1, 1) := by decide +kernel
theorem dX1_countAll_54 : decode cX1_countAll 54 = .ok (.aload_n 1, 1) := by decide +kernel
theorem dX1_countAll_55 : decode cX1_countAll 55 = .ok (.invokevirtual 66, 3) := by decide +kernel
theorem dX1_countAll_58 : decode cX1_countAll 58 = .ok (.aload_n 1, 1) := by decide +kernel
theorem dX1_countAll_59 : decode cX1_countAll 59 = .ok (.iconst 0, 1) := by decide +kernel
theorem dX1_countAll_60 : decode cX1_countAll 60 = .ok (.invokevirtual 70, 3) := by decide +kernel
theorem dX1_countAll_63 : decode cX1_countAll 63 = .ok (.iconst (-1), 1) := by decide +kernel
theorem dX1_countAll_64 : decode cX1_countAll 64 = .ok (.ixor, 1) := by decide +kernel
theorem dX1_countAll_65 : decode cX1_countAll 65 = .ok (.iand, 1) := by decide +kernel
theorem dX1_countAll_66 : decode cX1_countAll 66 = .ok (.aload_n 1, 1) := by decide +kernel
theorem dX1_countAll_67 : decode cX1_countAll 67 = .ok (.getfield 74, 3) := by decide +kernel
theorem dX1_countAll_70 : decode cX1_countAll 70 = .ok (.aload_n 1, 1) := by decide +kernel
theorem dX1_countAll_71 : decode cX1_countAll 71 = .ok (.invokevirtual 77, 3) := by decide +kernel
theorem dX1_countAll_74 : decode cX1_countAll 74 = .ok (.iconst (-1), 1) := by decide +kernel
theorem dX1_countAll_75 : decode cX1_countAll 75 = .ok (.ixor, 1) := by decide +kernel
theorem dX1_countAll_76 : decode cX1_countAll 76 = .ok (.iand, 1) := by decide +kernel
theorem dX1_countAll_77 : decode cX1_countAll 77 = .ok (.invokevirtual 80, 3) := by decide +kernel
theorem dX1_countAll_80 : decode cX1_countAll 80 = .ok (.iconst 1, 1) := by decide +kernel
theorem dX1_countAll_81 : decode cX1_countAll 81 = .ok (.istore_n 2, 1) := by decide +kernel
theorem dX1_countAll_82 : decode cX1_countAll 82 = .ok (.iload_n 2, 1) := by decide +kernel
theorem dX1_countAll_83 : decode cX1_countAll 83 = .ok (.bipush 15, 2) := by decide +kernel
theorem dX1_countAll_85 : decode cX1_countAll 85 = .ok (.if_icmp .gt 30, 3) := by decide +kernel
theorem dX1_countAll_88 : decode cX1_countAll 88 = .ok (.aload_n 1, 1) := by decide +kernel
theorem dX1_countAll_89 : decode cX1_countAll 89 = .ok (.getfield 83, 3) := by decide +kernel
theorem dX1_countAll_92 : decode cX1_countAll 92 = .ok (.iload_n 2, 1) := by decide +kernel
theorem dX1_countAll_93 : decode cX1_countAll 93 = .ok (.iaload, 1) := by decide +kernel
theorem dX1_countAll_94 : decode cX1_countAll 94 = .ok (.ifCond .eq 15, 3) := by decide +kernel
theorem dX1_countAll_97 : decode cX1_countAll 97 = .ok (.aload_n 0, 1) := by decide +kernel
theorem dX1_countAll_98 : decode cX1_countAll 98 = .ok (.iload_n 2, 1) := by decide +kernel
theorem dX1_countAll_99 : decode cX1_countAll 99 = .ok (.aload_n 1, 1) := by decide +kernel
theorem dX1_countAll_100 : decode cX1_countAll 100 = .ok (.getfield 83, 3) := by decide +kernel
theorem dX1_countAll_103 : decode cX1_countAll 103 = .ok (.iload_n 2, 1) := by decide +kernel
theorem dX1_countAll_104 : decode cX1_countAll 104 = .ok (.iaload, 1) := by decide +kernel
theorem dX1_countAll_105 : decode cX1_countAll 105 = .ok (.iconst 0, 1) := by decide +kernel
theorem dX1_countAll_106 : decode cX1_countAll 106 = .ok (.invokevirtual 86, 3) := by decide +kernel
theorem dX1_countAll_109 : decode cX1_countAll 109 = .ok (.iinc 2 1, 3) := by decide +kernel
theorem dX1_countAll_112 : decode cX1_countAll 112 = .ok (.goto (-30), 3) := by decide +kernel
theorem dX1_countAll_115 : decode cX1_countAll 115 = .ok (.return_, 1) := by decide +kernel
set_option maxRecDepth 20000 in
theorem ggX1_nameDigits_X2_hasPair : GoodIn wsX1_nameDigits wsX2_hasPair := goodIn_r _ [7, 8, 9, 10, 11, 20, 21, 22, 23] (by decide +kernel) (by decide +kernel)
set_option maxRecDepth 20000 in
theorem gX1_nameDigits_X2_hasPair : GoodIn wsX1_nameDigits (wsV RX1 89 RX2 yX2_hasPair wsX2_hasPair) := goodIn_app (goodIn_of _ (by decide +kernel)) ggX1_nameDigits_X2_hasPair
theorem dX1_nameDigits_0 : decode cX1_nameDigits 0 = .ok (.iconst 0, 1) := by decide +kernel
theorem dX1_nameDigits_1 : decode cX1_nameDigits 1 = .ok (.istore_n 2, 1) := by decide +kernel
theorem dX1_nameDigits_2 : decode cX1_nameDigits 2 = .ok (.iconst 1, 1) := by decide +kernel
theorem dX1_nameDigits_3 : decode cX1_nameDigits 3 = .ok (.istore_n 3, 1) := by decide +kernel
theorem dX1_nameDigits_4 : decode cX1_nameDigits 4 = .ok (.iload_n 3, 1) := by decide +kernel
theorem dX1_nameDigits_5 : decode cX1_nameDigits 5 = .ok (.bipush 15, 2) := by decide +kernel
theorem dX1_nameDigits_7 : decode cX1_nameDigits 7 = .ok (.if_icmp .gt 47, 3) := by decide +kernel
theorem dX1_nameDigits_10 : decode cX1_nameDigits 10 = .ok (.aload_n 0, 1) := by decide +kernel
theorem dX1_nameDigits_11 : decode cX1_nameDigits 11 = .ok (.getfield 15, 3) := by decide +kernel
theorem dX1_nameDigits_14 : decode cX1_nameDigits 14 = .ok (.iload_n 3, 1) := by decide +kernel
theorem dX1_nameDigits_15 : decode cX1_nameDigits 15 = .ok (.iconst 0, 1) := by decide +kernel
theorem dX1_nameDigits_16 : decode cX1_nameDigits 16 = .ok (.iastore, 1) := by decide +kernel
theorem dX1_nameDigits_17 : decode cX1_nameDigits 17 = .ok (.aload_n 1, 1) := by decide +kernel
theorem dX1_nameDigits_18 : decode cX1_nameDigits 18 = .ok (.iload_n 3, 1) := by decide +kernel
theorem dX1_nameDigits_19 : decode cX1_nameDigits 19 = .ok (.invokevirtual 89, 3) := by decide +kernel
theorem dX1_nameDigits_22 : decode cX1_nameDigits 22 = .ok (.ifCond .eq 26, 3) := by decide +kernel
theorem dX1_nameDigits_25 : decode cX1_nameDigits 25 = .ok (.iload_n 2, 1) := by decide +kernel
theorem dX1_nameDigits_26 : decode cX1_nameDigits 26 = .ok (.bipush 9, 2) := by decide +kernel
theorem dX1_nameDigits_28 : decode cX1_nameDigits 28 = .ok (.if_icmp .ge 20, 3) := by decide +kernel
theorem dX1_nameDigits_31 : decode cX1_nameDigits 31 = .ok (.iinc 2 1, 3) := by decide +kernel
theorem dX1_nameDigits_34 : decode cX1_nameDigits 34 = .ok (.aload_n 0, 1) := by decide +kernel
theorem dX1_nameDigits_35 : decode cX1_nameDigits 35 = .ok (.getfield 15, 3) := by decide +kernel
theorem dX1_nameDigits_38 : decode cX1_nameDigits 38 = .ok (.iload_n 3, 1) := by decide +kernel
theorem dX1_nameDigits_39 : decode cX1_nameDigits 39 = .ok (.iload_n 2, 1) := by decide +kernel
theorem dX1_nameDigits_40 : decode cX1_nameDigits 40 = .ok (.iastore, 1) := by decide +kernel
theorem dX1_nameDigits_41 : decode cX1_nameDigits 41 = .ok (.aload_n 0, 1) := by decide +kernel
theorem dX1_nameDigits_42 : decode cX1_nameDigits 42 = .ok (.getfield 19, 3) := by decide +kernel
theorem dX1_nameDigits_45 : decode cX1_nameDigits 45 = .ok (.iload_n 2, 1) := by decide +kernel
theorem dX1_nameDigits_46 : decode cX1_nameDigits 46 = .ok (.iload_n 3, 1) := by decide +kernel
theorem dX1_nameDigits_47 : decode cX1_nameDigits 47 = .ok (.iastore, 1) := by decide +kernel
theorem dX1_nameDigits_48 : decode cX1_nameDigits 48 = .ok (.iinc 3 1, 3) := by decide +kernel
theorem dX1_nameDigits_51 : decode cX1_nameDigits 51 = .ok (.goto (-47), 3) := by decide +kernel
theorem dX1_nameDigits_54 : decode cX1_nameDigits 54 = .ok (.return_, 1) := by decide +kernel
theorem dX1_weighPlaces_0 : decode cX1_weighPlaces 0 = .ok (.aload_n 0, 1) := by decide +kernel
theorem dX1_weighPlaces_1 : decode cX1_weighPlaces 1 = .ok (.aload_n 1, 1) := by decide +kernel
theorem dX1_weighPlaces_2 : decode cX1_weighPlaces 2 = .ok (.getfield 93, 3) := by decide +kernel
theorem dX1_weighPlaces_5 : decode cX1_weighPlaces 5 = .ok (.bipush 18, 2) := by decide +kernel
theorem dX1_weighPlaces_7 : decode cX1_weighPlaces 7 = .ok (.invokestatic 94, 3) := by decide +kernel
theorem dX1_weighPlaces_10 : decode cX1_weighPlaces 10 = .ok (.putfield 31, 3) := by decide +kernel
theorem dX1_weighPlaces_13 : decode cX1_weighPlaces 13 = .ok (.lconst 1, 1) := by decide +kernel
theorem dX1_weighPlaces_14 : decode cX1_weighPlaces 14 = .ok (.lstore_n 2, 1) := by decide +kernel
theorem dX1_weighPlaces_15 : decode cX1_weighPlaces 15 = .ok (.aload_n 0, 1) := by decide +kernel
theorem dX1_weighPlaces_16 : decode cX1_weighPlaces 16 = .ok (.getfield 31, 3) := by decide +kernel
theorem dX1_weighPlaces_19 : decode cX1_weighPlaces 19 = .ok (.istore 4, 2) := by decide +kernel
theorem dX1_weighPlaces_21 : decode cX1_weighPlaces 21 = .ok (.iload 4, 2) := by decide +kernel
theorem dX1_weighPlaces_23 : decode cX1_weighPlaces 23 = .ok (.iconst 1, 1) := by decide +kernel
theorem dX1_weighPlaces_24 : decode cX1_weighPlaces 24 = .ok (.if_icmp .lt 23, 3) := by decide +kernel
theorem dX1_weighPlaces_27 : decode cX1_weighPlaces 27 = .ok (.aload_n 0, 1) := by decide +kernel
theorem dX1_weighPlaces_28 : decode cX1_weighPlaces 28 = .ok (.getfield 9, 3) := by decide +kernel
theorem dX1_weighPlaces_31 : decode cX1_weighPlaces 31 = .ok (.iload 4, 2) := by decide +kernel
theorem dX1_weighPlaces_33 : decode cX1_weighPlaces 33 = .ok (.lload_n 2, 1) := by decide +kernel
theorem dX1_weighPlaces_34 : decode cX1_weighPlaces 34 = .ok (.lastore, 1) := by decide +kernel
theorem dX1_weighPlaces_35 : decode cX1_weighPlaces 35 = .ok (.lload_n 2, 1) := by decide +kernel
theorem dX1_weighPlaces_36 : decode cX1_weighPlaces 36 = .ok (.ldc2_w 97, 3) := by decide +kernel
theorem dX1_weighPlaces_39 : decode cX1_weighPlaces 39 = .ok (.lmul, 1) := by decide +kernel
theorem dX1_weighPlaces_40 : decode cX1_weighPlaces 40 = .ok (.lstore_n 2, 1) := by decide +kernel
theorem dX1_weighPlaces_41 : decode cX1_weighPlaces 41 = .ok (.iinc 4 (-1), 3) := by decide +kernel
theorem dX1_weighPlaces_44 : decode cX1_weighPlaces 44 = .ok (.goto (-23), 3) := by decide +kernel
theorem dX1_weighPlaces_47 : decode cX1_weighPlaces 47 = .ok (.return_, 1) := by decide +kernel
set_option maxRecDepth 20000 in
theorem ggX1_fill_X6_bit : GoodIn wsX1_fill wsX6_bit := goodIn_r _ [5] (by decide +kernel) (by decide +kernel)
set_option maxRecDepth 20000 in
theorem gX1_fill_X6_bit_n99 : GoodIn wsX1_fill (wsX6_bit) := ggX1_fill_X6_bit
set_option maxRecDepth 20000 in
theorem ggX1_fill_X1_keep : GoodIn wsX1_fill wsX1_keep := goodIn_r _ [10, 2, 11, 29, 30, 31, 32, 33, 34, 35, 36] (by decide +kernel) (by decide +kernel)
set_option maxRecDepth 20000 in
theorem gX1_fill_X1_keep : GoodIn wsX1_fill (wsV RX1 102 RX1 yX1_keep wsX1_keep) := goodIn_app (goodIn_of _ (by decide +kernel)) ggX1_fill_X1_keep
set_option maxRecDepth 20000 in
theorem ggX1_fill_X1_fill : GoodIn wsX1_fill wsX1_fill := goodIn_r _ [0, 1, 2, 3, 4, 5, 6, 7, 8, 9, 10, 11, 12, 13, 14, 15, 16, 17, 18, 19, 20, 21, 22, 23, 24, 25, 26, 27, 28, 29, 30, 31, 32, 33, 34, 35, 36] (by decide +kernel) (by decide +kernel)
set_option maxRecDepth 20000 in
theorem gX1_fill_X1_fill : GoodIn wsX1_fill (wsV RX1 80 RX1 yX1_fill wsX1_fill) := goodIn_app (goodIn_of _ (by decide +kernel)) ggX1_fill_X1_fill
set_option maxRecDepth 20000 in
theorem ggX1_fill_J6_bitCount_0f7a4 : GoodIn wsX1_fill wsJ6_bitCount_0f7a4 := goodIn_r _ [18, 19, 20, 21] (by decide +kernel) (by decide +kernel)
set_option maxRecDepth 20000 in
theorem gX1_fill_J6_bitCount_0f7a4 : GoodIn wsX1_fill (va_wsS RX1 105 yJ6_bitCount_0f7a4 wsJ6_bitCount_0f7a4) := goodIn_app (goodIn_of _ (by decide +kernel)) ggX1_fill_J6_bitCount_0f7a4
set_option maxRecDepth 20000 in
theorem ggX1_fill_X1_stand : GoodIn wsX1_fill wsX1_stand := goodIn_r _ [25, 1, 26, 2, 27, 28, 11, 29, 30, 31, 32, 33, 34, 35, 36] (by decide +kernel) (by decide +kernel)
set_option maxRecDepth 20000 in
theorem gX1_fill_X1_stand : GoodIn wsX1_fill (wsV RX1 86 RX1 yX1_stand wsX1_stand) := goodIn_app (goodIn_of _ (by decide +kernel)) ggX1_fill_X1_stand
theorem dX1_fill_0 : decode cX1_fill 0 = .ok (.iload_n 1, 1) := by decide +kernel
theorem dX1_fill_1 : decode cX1_fill 1 = .ok (.istore 4, 2) := by decide +kernel
theorem dX1_fill_3 : decode cX1_fill 3 = .ok (.iload 4, 2) := by decide +kernel
theorem dX1_fill_5 : decode cX1_fill 5 = .ok (.aload_n 0, 1) := by decide +kernel
theorem dX1_fill_6 : decode cX1_fill 6 = .ok (.getfield 31, 3) := by decide +kernel
theorem dX1_fill_9 : decode cX1_fill 9 = .ok (.if_icmp .gt 19, 3) := by decide +kernel
theorem dX1_fill_12 : decode cX1_fill 12 = .ok (.iload_n 2, 1) := by decide +kernel
theorem dX1_fill_13 : decode cX1_fill 13 = .ok (.iload 4, 2) := by decide +kernel
theorem dX1_fill_15 : decode cX1_fill 15 = .ok (.invokestatic 99, 3) := by decide +kernel
theorem dX1_fill_18 : decode cX1_fill 18 = .ok (.iand, 1) := by decide +kernel
theorem dX1_fill_19 : decode cX1_fill 19 = .ok (.ifCond .ne 9, 3) := by decide +kernel
theorem dX1_fill_22 : decode cX1_fill 22 = .ok (.iinc 4 1, 3) := by decide +kernel
theorem dX1_fill_25 : decode cX1_fill 25 = .ok (.goto (-22), 3) := by decide +kernel
theorem dX1_fill_28 : decode cX1_fill 28 = .ok (.iload 4, 2) := by decide +kernel
theorem dX1_fill_30 : decode cX1_fill 30 = .ok (.aload_n 0, 1) := by decide +kernel
theorem dX1_fill_31 : decode cX1_fill 31 = .ok (.getfield 31, 3) := by decide +kernel
theorem dX1_fill_34 : decode cX1_fill 34 = .ok (.if_icmp .le 8, 3) := by decide +kernel
theorem dX1_fill_37 : decode cX1_fill 37 = .ok (.aload_n 0, 1) := by decide +kernel
theorem dX1_fill_38 : decode cX1_fill 38 = .ok (.invokevirtual 102, 3) := by decide +kernel
theorem dX1_fill_41 : decode cX1_fill 41 = .ok (.return_, 1) := by decide +kernel
theorem dX1_fill_42 : decode cX1_fill 42 = .ok (.iload_n 3, 1) := by decide +kernel
theorem dX1_fill_43 : decode cX1_fill 43 = .ok (.aload_n 0, 1) := by decide +kernel
theorem dX1_fill_44 : decode cX1_fill 44 = .ok (.getfield 31, 3) := by decide +kernel
theorem dX1_fill_47 : decode cX1_fill 47 = .ok (.iload 4, 2) := by decide +kernel
theorem dX1_fill_49 : decode cX1_fill 49 = .ok (.isub, 1) := by decide +kernel
theorem dX1_fill_50 : decode cX1_fill 50 = .ok (.iushr, 1) := by decide +kernel
theorem dX1_fill_51 : decode cX1_fill 51 = .ok (.ifCond .eq 4, 3) := by decide +kernel
theorem dX1_fill_54 : decode cX1_fill 54 = .ok (.return_, 1) := by decide +kernel
theorem dX1_fill_55 : decode cX1_fill 55 = .ok (.iload_n 2, 1) := by decide +kernel
theorem dX1_fill_56 : decode cX1_fill 56 = .ok (.iload 4, 2) := by decide +kernel
theorem dX1_fill_58 : decode cX1_fill 58 = .ok (.invokestatic 99, 3) := by decide +kernel
theorem dX1_fill_61 : decode cX1_fill 61 = .ok (.iconst (-1), 1) := by decide +kernel
theorem dX1_fill_62 : decode cX1_fill 62 = .ok (.ixor, 1) := by decide +kernel
theorem dX1_fill_63 : decode cX1_fill 63 = .ok (.iand, 1) := by decide +kernel
theorem dX1_fill_64 : decode cX1_fill 64 = .ok (.istore 5, 2) := by decide +kernel
theorem dX1_fill_66 : decode cX1_fill 66 = .ok (.iload_n 3, 1) := by decide +kernel
theorem dX1_fill_67 : decode cX1_fill 67 = .ok (.iload 5, 2) := by decide +kernel
theorem dX1_fill_69 : decode cX1_fill 69 = .ok (.iload 4, 2) := by decide +kernel
theorem dX1_fill_71 : decode cX1_fill 71 = .ok (.iushr, 1) := by decide +kernel
theorem dX1_fill_72 : decode cX1_fill 72 = .ok (.iand, 1) := by decide +kernel
theorem dX1_fill_73 : decode cX1_fill 73 = .ok (.istore 6, 2) := by decide +kernel
theorem dX1_fill_75 : decode cX1_fill 75 = .ok (.iconst 0, 1) := by decide +kernel
theorem dX1_fill_76 : decode cX1_fill 76 = .ok (.istore 7, 2) := by decide +kernel
theorem dX1_fill_78 : decode cX1_fill 78 = .ok (.iload 7, 2) := by decide +kernel
theorem dX1_fill_80 : decode cX1_fill 80 = .ok (.bipush 9, 2) := by decide +kernel
theorem dX1_fill_82 : decode cX1_fill 82 = .ok (.if_icmp .ge 87, 3) := by decide +kernel
theorem dX1_fill_85 : decode cX1_fill 85 = .ok (.iload 6, 2) := by decide +kernel
theorem dX1_fill_87 : decode cX1_fill 87 = .ok (.ifCond .eq 82, 3) := by decide +kernel
theorem dX1_fill_90 : decode cX1_fill 90 = .ok (.iload 6, 2) := by decide +kernel
theorem dX1_fill_92 : decode cX1_fill 92 = .ok (.iload 6, 2) := by decide +kernel
theorem dX1_fill_94 : decode cX1_fill 94 = .ok (.ineg, 1) := by decide +kernel
theorem dX1_fill_95 : decode cX1_fill 95 = .ok (.iand, 1) := by decide +kernel
theorem dX1_fill_96 : decode cX1_fill 96 = .ok (.istore 8, 2) := by decide +kernel
theorem dX1_fill_98 : decode cX1_fill 98 = .ok (.aload_n 0, 1) := by decide +kernel
theorem dX1_fill_99 : decode cX1_fill 99 = .ok (.getfield 35, 3) := by decide +kernel
theorem dX1_fill_102 : decode cX1_fill 102 = .ok (.istore 9, 2) := by decide +kernel
theorem dX1_fill_104 : decode cX1_fill 104 = .ok (.aload_n 0, 1) := by decide +kernel
theorem dX1_fill_105 : decode cX1_fill 105 = .ok (.iload 4, 2) := by decide +kernel
theorem dX1_fill_107 : decode cX1_fill 107 = .ok (.iconst 1, 1) := by decide +kernel
theorem dX1_fill_108 : decode cX1_fill 108 = .ok (.iadd, 1) := by decide +kernel
theorem dX1_fill_109 : decode cX1_fill 109 = .ok (.iload 5, 2) := by decide +kernel
theorem dX1_fill_111 : decode cX1_fill 111 = .ok (.iload 8, 2) := by decide +kernel
theorem dX1_fill_113 : decode cX1_fill 113 = .ok (.iload 4, 2) := by decide +kernel
theorem dX1_fill_115 : decode cX1_fill 115 = .ok (.ishl, 1) := by decide +kernel
theorem dX1_fill_116 : decode cX1_fill 116 = .ok (.iconst (-1), 1) := by decide +kernel
theorem dX1_fill_117 : decode cX1_fill 117 = .ok (.ixor, 1) := by decide +kernel
theorem dX1_fill_118 : decode cX1_fill 118 = .ok (.iand, 1) := by decide +kernel
theorem dX1_fill_119 : decode cX1_fill 119 = .ok (.iload_n 3, 1) := by decide +kernel
theorem dX1_fill_120 : decode cX1_fill 120 = .ok (.iload 8, 2) := by decide +kernel
theorem dX1_fill_122 : decode cX1_fill 122 = .ok (.iconst (-1), 1) := by decide +kernel
theorem dX1_fill_123 : decode cX1_fill 123 = .ok (.ixor, 1) := by decide +kernel
theorem dX1_fill_124 : decode cX1_fill 124 = .ok (.iand, 1) := by decide +kernel
theorem dX1_fill_125 : decode cX1_fill 125 = .ok (.invokevirtual 80, 3) := by decide +kernel
theorem dX1_fill_128 : decode cX1_fill 128 = .ok (.aload_n 0, 1) := by decide +kernel
theorem dX1_fill_129 : decode cX1_fill 129 = .ok (.getfield 35, 3) := by decide +kernel
theorem dX1_fill_132 : decode cX1_fill 132 = .ok (.iload 9, 2) := by decide +kernel
theorem dX1_fill_134 : decode cX1_fill 134 = .ok (.if_icmp .le 20, 3) := by decide +kernel
theorem dX1_fill_137 : decode cX1_fill 137 = .ok (.aload_n 0, 1) := by decide +kernel
theorem dX1_fill_138 : decode cX1_fill 138 = .ok (.iload 8, 2) := by decide +kernel
theorem dX1_fill_140 : decode cX1_fill 140 = .ok (.iconst 1, 1) := by decide +kernel
theorem dX1_fill_141 : decode cX1_fill 141 = .ok (.isub, 1) := by decide +kernel
theorem dX1_fill_142 : decode cX1_fill 142 = .ok (.invokestatic 105, 3) := by decide +kernel
theorem dX1_fill_145 : decode cX1_fill 145 = .ok (.iconst 1, 1) := by decide +kernel
theorem dX1_fill_146 : decode cX1_fill 146 = .ok (.iadd, 1) := by decide +kernel
theorem dX1_fill_147 : decode cX1_fill 147 = .ok (.iload 4, 2) := by decide +kernel
theorem dX1_fill_149 : decode cX1_fill 149 = .ok (.iload 9, 2) := by decide +kernel
theorem dX1_fill_151 : decode cX1_fill 151 = .ok (.invokevirtual 86, 3) := by decide +kernel
theorem dX1_fill_154 : decode cX1_fill 154 = .ok (.iload 6, 2) := by decide +kernel
theorem dX1_fill_156 : decode cX1_fill 156 = .ok (.iload 8, 2) := by decide +kernel
theorem dX1_fill_158 : decode cX1_fill 158 = .ok (.iconst (-1), 1) := by decide +kernel
theorem dX1_fill_159 : decode cX1_fill 159 = .ok (.ixor, 1) := by decide +kernel
theorem dX1_fill_160 : decode cX1_fill 160 = .ok (.iand, 1) := by decide +kernel
theorem dX1_fill_161 : decode cX1_fill 161 = .ok (.istore 6, 2) := by decide +kernel
theorem dX1_fill_163 : decode cX1_fill 163 = .ok (.iinc 7 1, 3) := by decide +kernel
theorem dX1_fill_166 : decode cX1_fill 166 = .ok (.goto (-88), 3) := by decide +kernel
theorem dX1_fill_169 : decode cX1_fill 169 = .ok (.return_, 1) := by decide +kernel
theorem dX1_keep_0 : decode cX1_keep 0 = .ok (.aload_n 0, 1) := by decide +kernel
theorem dX1_keep_1 : decode cX1_keep 1 = .ok (.getfield 35, 3) := by decide +kernel
theorem dX1_keep_4 : decode cX1_keep 4 = .ok (.aload_n 0, 1) := by decide +kernel
theorem dX1_keep_5 : decode cX1_keep 5 = .ok (.getfield 44, 3) := by decide +kernel
theorem dX1_keep_8 : decode cX1_keep 8 = .ok (.arraylength, 1) := by decide +kernel
theorem dX1_keep_9 : decode cX1_keep 9 = .ok (.if_icmp .ge 13, 3) := by decide +kernel
theorem dX1_keep_12 : decode cX1_keep 12 = .ok (.aload_n 0, 1) := by decide +kernel
theorem dX1_keep_13 : decode cX1_keep 13 = .ok (.getfield 44, 3) := by decide +kernel
theorem dX1_keep_16 : decode cX1_keep 16 = .ok (.aload_n 0, 1) := by decide +kernel
theorem dX1_keep_17 : decode cX1_keep 17 = .ok (.getfield 35, 3) := by decide +kernel
theorem dX1_keep_20 : decode cX1_keep 20 = .ok (.lconst 0, 1) := by decide +kernel
theorem dX1_keep_21 : decode cX1_keep 21 = .ok (.lastore, 1) := by decide +kernel
theorem dX1_keep_22 : decode cX1_keep 22 = .ok (.aload_n 0, 1) := by decide +kernel
theorem dX1_keep_23 : decode cX1_keep 23 = .ok (.dup, 1) := by decide +kernel
theorem dX1_keep_24 : decode cX1_keep 24 = .ok (.getfield 35, 3) := by decide +kernel
theorem dX1_keep_27 : decode cX1_keep 27 = .ok (.iconst 1, 1) := by decide +kernel
theorem dX1_keep_28 : decode cX1_keep 28 = .ok (.iadd, 1) := by decide +kernel
theorem dX1_keep_29 : decode cX1_keep 29 = .ok (.putfield 35, 3) := by decide +kernel
theorem dX1_keep_32 : decode cX1_keep 32 = .ok (.return_, 1) := by decide +kernel
theorem dX1_stand_0 : decode cX1_stand 0 = .ok (.iload_n 1, 1) := by decide +kernel
theorem dX1_stand_1 : decode cX1_stand 1 = .ok (.iconst 1, 1) := by decide +kernel
theorem dX1_stand_2 : decode cX1_stand 2 = .ok (.if_icmp .lt 24, 3) := by decide +kernel
theorem dX1_stand_5 : decode cX1_stand 5 = .ok (.iload_n 1, 1) := by decide +kernel
theorem dX1_stand_6 : decode cX1_stand 6 = .ok (.bipush 15, 2) := by decide +kernel
theorem dX1_stand_8 : decode cX1_stand 8 = .ok (.if_icmp .gt 18, 3) := by decide +kernel
theorem dX1_stand_11 : decode cX1_stand 11 = .ok (.iload_n 2, 1) := by decide +kernel
theorem dX1_stand_12 : decode cX1_stand 12 = .ok (.iconst 1, 1) := by decide +kernel
theorem dX1_stand_13 : decode cX1_stand 13 = .ok (.if_icmp .lt 13, 3) := by decide +kernel
theorem dX1_stand_16 : decode cX1_stand 16 = .ok (.iload_n 2, 1) := by decide +kernel
theorem dX1_stand_17 : decode cX1_stand 17 = .ok (.iload_n 1, 1) := by decide +kernel
theorem dX1_stand_18 : decode cX1_stand 18 = .ok (.iadd, 1) := by decide +kernel
theorem dX1_stand_19 : decode cX1_stand 19 = .ok (.aload_n 0, 1) := by decide +kernel
theorem dX1_stand_20 : decode cX1_stand 20 = .ok (.getfield 31, 3) := by decide +kernel
theorem dX1_stand_23 : decode cX1_stand 23 = .ok (.if_icmp .le 4, 3) := by decide +kernel
theorem dX1_stand_26 : decode cX1_stand 26 = .ok (.return_, 1) := by decide +kernel
theorem dX1_stand_27 : decode cX1_stand 27 = .ok (.aload_n 0, 1) := by decide +kernel
theorem dX1_stand_28 : decode cX1_stand 28 = .ok (.getfield 24, 3) := by decide +kernel
theorem dX1_stand_31 : decode cX1_stand 31 = .ok (.iload_n 1, 1) := by decide +kernel
theorem dX1_stand_32 : decode cX1_stand 32 = .ok (.aaload, 1) := by decide +kernel
theorem dX1_stand_33 : decode cX1_stand 33 = .ok (.iload_n 2, 1) := by decide +kernel
theorem dX1_stand_34 : decode cX1_stand 34 = .ok (.dup2, 1) := by decide +kernel
theorem dX1_stand_35 : decode cX1_stand 35 = .ok (.iaload, 1) := by decide +kernel
theorem dX1_stand_36 : decode cX1_stand 36 = .ok (.aload_n 0, 1) := by decide +kernel
theorem dX1_stand_37 : decode cX1_stand 37 = .ok (.getfield 35, 3) := by decide +kernel
theorem dX1_stand_40 : decode cX1_stand 40 = .ok (.iload_n 3, 1) := by decide +kernel
theorem dX1_stand_41 : decode cX1_stand 41 = .ok (.isub, 1) := by decide +kernel
theorem dX1_stand_42 : decode cX1_stand 42 = .ok (.iadd, 1) := by decide +kernel
theorem dX1_stand_43 : decode cX1_stand 43 = .ok (.iastore, 1) := by decide +kernel
theorem dX1_stand_44 : decode cX1_stand 44 = .ok (.aload_n 0, 1) := by decide +kernel
theorem dX1_stand_45 : decode cX1_stand 45 = .ok (.getfield 15, 3) := by decide +kernel
theorem dX1_stand_48 : decode cX1_stand 48 = .ok (.iload_n 1, 1) := by decide +kernel
theorem dX1_stand_49 : decode cX1_stand 49 = .ok (.iaload, 1) := by decide +kernel
theorem dX1_stand_50 : decode cX1_stand 50 = .ok (.i2l, 1) := by decide +kernel
theorem dX1_stand_51 : decode cX1_stand 51 = .ok (.aload_n 0, 1) := by decide +kernel
theorem dX1_stand_52 : decode cX1_stand 52 = .ok (.getfield 9, 3) := by decide +kernel
theorem dX1_stand_55 : decode cX1_stand 55 = .ok (.iload_n 2, 1) := by decide +kernel
theorem dX1_stand_56 : decode cX1_stand 56 = .ok (.laload, 1) := by decide +kernel
theorem dX1_stand_57 : decode cX1_stand 57 = .ok (.aload_n 0, 1) := by decide +kernel
theorem dX1_stand_58 : decode cX1_stand 58 = .ok (.getfield 9, 3) := by decide +kernel
theorem dX1_stand_61 : decode cX1_stand 61 = .ok (.iload_n 2, 1) := by decide +kernel
theorem dX1_stand_62 : decode cX1_stand 62 = .ok (.iload_n 1, 1) := by decide +kernel
theorem dX1_stand_63 : decode cX1_stand 63 = .ok (.iadd, 1) := by decide +kernel
theorem dX1_stand_64 : decode cX1_stand 64 = .ok (.laload, 1) := by decide +kernel
theorem dX1_stand_65 : decode cX1_stand 65 = .ok (.ladd, 1) := by decide +kernel
theorem dX1_stand_66 : decode cX1_stand 66 = .ok (.lmul, 1) := by decide +kernel
theorem dX1_stand_67 : decode cX1_stand 67 = .ok (.lstore 4, 2) := by decide +kernel
theorem dX1_stand_69 : decode cX1_stand 69 = .ok (.iload_n 3, 1) := by decide +kernel
theorem dX1_stand_70 : decode cX1_stand 70 = .ok (.istore 6, 2) := by decide +kernel
theorem dX1_stand_72 : decode cX1_stand 72 = .ok (.iload 6, 2) := by decide +kernel
theorem dX1_stand_74 : decode cX1_stand 74 = .ok (.aload_n 0, 1) := by decide +kernel
theorem dX1_stand_75 : decode cX1_stand 75 = .ok (.getfield 35, 3) := by decide +kernel
theorem dX1_stand_78 : decode cX1_stand 78 = .ok (.if_icmp .ge 31, 3) := by decide +kernel
theorem dX1_stand_81 : decode cX1_stand 81 = .ok (.iload 6, 2) := by decide +kernel
theorem dX1_stand_83 : decode cX1_stand 83 = .ok (.aload_n 0, 1) := by decide +kernel
theorem dX1_stand_84 : decode cX1_stand 84 = .ok (.getfield 44, 3) := by decide +kernel
theorem dX1_stand_87 : decode cX1_stand 87 = .ok (.arraylength, 1) := by decide +kernel
theorem dX1_stand_88 : decode cX1_stand 88 = .ok (.if_icmp .ge 21, 3) := by decide +kernel
theorem dX1_stand_91 : decode cX1_stand 91 = .ok (.aload_n 0, 1) := by decide +kernel
theorem dX1_stand_92 : decode cX1_stand 92 = .ok (.getfield 44, 3) := by decide +kernel
theorem dX1_stand_95 : decode cX1_stand 95 = .ok (.iload 6, 2) := by decide +kernel
theorem dX1_stand_97 : decode cX1_stand 97 = .ok (.dup2, 1) := by decide +kernel
theorem dX1_stand_98 : decode cX1_stand 98 = .ok (.laload, 1) := by decide +kernel
theorem dX1_stand_99 : decode cX1_stand 99 = .ok (.lload 4, 2) := by decide +kernel
theorem dX1_stand_101 : decode cX1_stand 101 = .ok (.ladd, 1) := by decide +kernel
theorem dX1_stand_102 : decode cX1_stand 102 = .ok (.lastore, 1) := by decide +kernel
theorem dX1_stand_103 : decode cX1_stand 103 = .ok (.iinc 6 1, 3) := by decide +kernel
theorem dX1_stand_106 : decode cX1_stand 106 = .ok (.goto (-34), 3) := by decide +kernel
theorem dX1_stand_109 : decode cX1_stand 109 = .ok (.return_, 1) := by decide +kernel
theorem dX1_hasRank_0 : decode cX1_hasRank 0 = .ok (.iload_n 1, 1) := by decide +kernel
theorem dX1_hasRank_1 : decode cX1_hasRank 1 = .ok (.ifCond .lt 24, 3) := by decide +kernel
theorem dX1_hasRank_4 : decode cX1_hasRank 4 = .ok (.iload_n 1, 1) := by decide +kernel
theorem dX1_hasRank_5 : decode cX1_hasRank 5 = .ok (.aload_n 0, 1) := by decide +kernel
theorem dX1_hasRank_6 : decode cX1_hasRank 6 = .ok (.getfield 35, 3) := by decide +kernel
theorem dX1_hasRank_9 : decode cX1_hasRank 9 = .ok (.if_icmp .ge 16, 3) := by decide +kernel
theorem dX1_hasRank_12 : decode cX1_hasRank 12 = .ok (.iload_n 1, 1) := by decide +kernel
theorem dX1_hasRank_13 : decode cX1_hasRank 13 = .ok (.aload_n 0, 1) := by decide +kernel
theorem dX1_hasRank_14 : decode cX1_hasRank 14 = .ok (.getfield 44, 3) := by decide +kernel
theorem dX1_hasRank_17 : decode cX1_hasRank 17 = .ok (.arraylength, 1) := by decide +kernel
theorem dX1_hasRank_18 : decode cX1_hasRank 18 = .ok (.if_icmp .ge 7, 3) := by decide +kernel
theorem dX1_hasRank_21 : decode cX1_hasRank 21 = .ok (.iconst 1, 1) := by decide +kernel
theorem dX1_hasRank_22 : decode cX1_hasRank 22 = .ok (.goto 4, 3) := by decide +kernel
theorem dX1_hasRank_25 : decode cX1_hasRank 25 = .ok (.iconst 0, 1) := by decide +kernel
theorem dX1_hasRank_26 : decode cX1_hasRank 26 = .ok (.ireturn, 1) := by decide +kernel
set_option maxRecDepth 20000 in
theorem ggX1_tell_X1_hasRank : GoodIn wsX1_tell wsX1_hasRank := goodIn_r _ [9, 10, 2, 11, 12, 13, 14, 15, 16, 17, 18] (by decide +kernel) (by decide +kernel)
set_option maxRecDepth 20000 in
theorem gX1_tell_X1_hasRank : GoodIn wsX1_tell (wsV RX1 110 RX1 yX1_hasRank wsX1_hasRank) := goodIn_app (goodIn_of _ (by decide +kernel)) ggX1_tell_X1_hasRank
theorem dX1_tell_0 : decode cX1_tell 0 = .ok (.aload_n 0, 1) := by decide +kernel
theorem dX1_tell_1 : decode cX1_tell 1 = .ok (.iload_n 1, 1) := by decide +kernel
theorem dX1_tell_2 : decode cX1_tell 2 = .ok (.invokevirtual 110, 3) := by decide +kernel
theorem dX1_tell_5 : decode cX1_tell 5 = .ok (.ifCond .eq 12, 3) := by decide +kernel
theorem dX1_tell_8 : decode cX1_tell 8 = .ok (.aload_n 0, 1) := by decide +kernel
theorem dX1_tell_9 : decode cX1_tell 9 = .ok (.getfield 31, 3) := by decide +kernel
theorem dX1_tell_12 : decode cX1_tell 12 = .ok (.aload_n 2, 1) := by decide +kernel
theorem dX1_tell_13 : decode cX1_tell 13 = .ok (.arraylength, 1) := by decide +kernel
theorem dX1_tell_14 : decode cX1_tell 14 = .ok (.if_icmp .lt 4, 3) := by decide +kernel
theorem dX1_tell_17 : decode cX1_tell 17 = .ok (.return_, 1) := by decide +kernel
theorem dX1_tell_18 : decode cX1_tell 18 = .ok (.aload_n 0, 1) := by decide +kernel
theorem dX1_tell_19 : decode cX1_tell 19 = .ok (.getfield 44, 3) := by decide +kernel
theorem dX1_tell_22 : decode cX1_tell 22 = .ok (.iload_n 1, 1) := by decide +kernel
theorem dX1_tell_23 : decode cX1_tell 23 = .ok (.laload, 1) := by decide +kernel
theorem dX1_tell_24 : decode cX1_tell 24 = .ok (.lstore_n 3, 1) := by decide +kernel
theorem dX1_tell_25 : decode cX1_tell 25 = .ok (.aload_n 0, 1) := by decide +kernel
theorem dX1_tell_26 : decode cX1_tell 26 = .ok (.getfield 31, 3) := by decide +kernel
theorem dX1_tell_29 : decode cX1_tell 29 = .ok (.istore 5, 2) := by decide +kernel
theorem dX1_tell_31 : decode cX1_tell 31 = .ok (.iload 5, 2) := by decide +kernel
theorem dX1_tell_33 : decode cX1_tell 33 = .ok (.iconst 1, 1) := by decide +kernel
theorem dX1_tell_34 : decode cX1_tell 34 = .ok (.if_icmp .lt 51, 3) := by decide +kernel
theorem dX1_tell_37 : decode cX1_tell 37 = .ok (.lload_n 3, 1) := by decide +kernel
theorem dX1_tell_38 : decode cX1_tell 38 = .ok (.ldc2_w 97, 3) := by decide +kernel
theorem dX1_tell_41 : decode cX1_tell 41 = .ok (.lrem, 1) := by decide +kernel
theorem dX1_tell_42 : decode cX1_tell 42 = .ok (.l2i, 1) := by decide +kernel
theorem dX1_tell_43 : decode cX1_tell 43 = .ok (.istore 6, 2) := by decide +kernel
theorem dX1_tell_45 : decode cX1_tell 45 = .ok (.aload_n 2, 1) := by decide +kernel
theorem dX1_tell_46 : decode cX1_tell 46 = .ok (.iload 5, 2) := by decide +kernel
theorem dX1_tell_48 : decode cX1_tell 48 = .ok (.iload 6, 2) := by decide +kernel
theorem dX1_tell_50 : decode cX1_tell 50 = .ok (.iconst 1, 1) := by decide +kernel
theorem dX1_tell_51 : decode cX1_tell 51 = .ok (.if_icmp .lt 20, 3) := by decide +kernel
theorem dX1_tell_54 : decode cX1_tell 54 = .ok (.iload 6, 2) := by decide +kernel
theorem dX1_tell_56 : decode cX1_tell 56 = .ok (.bipush 9, 2) := by decide +kernel
theorem dX1_tell_58 : decode cX1_tell 58 = .ok (.if_icmp .gt 13, 3) := by decide +kernel
theorem dX1_tell_61 : decode cX1_tell 61 = .ok (.aload_n 0, 1) := by decide +kernel
theorem dX1_tell_62 : decode cX1_tell 62 = .ok (.getfield 19, 3) := by decide +kernel
theorem dX1_tell_65 : decode cX1_tell 65 = .ok (.iload 6, 2) := by decide +kernel
theorem dX1_tell_67 : decode cX1_tell 67 = .ok (.iaload, 1) := by decide +kernel
theorem dX1_tell_68 : decode cX1_tell 68 = .ok (.goto 4, 3) := by decide +kernel
theorem dX1_tell_71 : decode cX1_tell 71 = .ok (.iconst 0, 1) := by decide +kernel
theorem dX1_tell_72 : decode cX1_tell 72 = .ok (.iastore, 1) := by decide +kernel
theorem dX1_tell_73 : decode cX1_tell 73 = .ok (.lload_n 3, 1) := by decide +kernel
theorem dX1_tell_74 : decode cX1_tell 74 = .ok (.ldc2_w 97, 3) := by decide +kernel
theorem dX1_tell_77 : decode cX1_tell 77 = .ok (.ldiv, 1) := by decide +kernel
theorem dX1_tell_78 : decode cX1_tell 78 = .ok (.lstore_n 3, 1) := by decide +kernel
theorem dX1_tell_79 : decode cX1_tell 79 = .ok (.iinc 5 (-1), 3) := by decide +kernel
theorem dX1_tell_82 : decode cX1_tell 82 = .ok (.goto (-51), 3) := by decide +kernel
theorem dX1_tell_85 : decode cX1_tell 85 = .ok (.return_, 1) := by decide +kernel
set_option maxRecDepth 20000 in
theorem ggX1_rankOf_X1_rankOfNumber : GoodIn wsX1_rankOf wsX1_rankOfNumber := goodIn_r _ [8, 9, 10, 11, 12, 13, 14, 15, 16, 17, 18, 19, 20, 21, 22] (by decide +kernel) (by decide +kernel)
set_option maxRecDepth 20000 in
theorem gX1_rankOf_X1_rankOfNumber : GoodIn wsX1_rankOf (wsV RX1 113 RX1 yX1_rankOfNumber wsX1_rankOfNumber) := goodIn_app (goodIn_of _ (by decide +kernel)) ggX1_rankOf_X1_rankOfNumber
theorem dX1_rankOf_0 : decode cX1_rankOf 0 = .ok (.aload_n 0, 1) := by decide +kernel
theorem dX1_rankOf_1 : decode cX1_rankOf 1 = .ok (.getfield 31, 3) := by decide +kernel
theorem dX1_rankOf_4 : decode cX1_rankOf 4 = .ok (.aload_n 1, 1) := by decide +kernel
theorem dX1_rankOf_5 : decode cX1_rankOf 5 = .ok (.arraylength, 1) := by decide +kernel
theorem dX1_rankOf_6 : decode cX1_rankOf 6 = .ok (.if_icmp .lt 5, 3) := by decide +kernel
theorem dX1_rankOf_9 : decode cX1_rankOf 9 = .ok (.iconst (-1), 1) := by decide +kernel
theorem dX1_rankOf_10 : decode cX1_rankOf 10 = .ok (.ireturn, 1) := by decide +kernel
theorem dX1_rankOf_11 : decode cX1_rankOf 11 = .ok (.lconst 0, 1) := by decide +kernel
theorem dX1_rankOf_12 : decode cX1_rankOf 12 = .ok (.lstore_n 2, 1) := by decide +kernel
theorem dX1_rankOf_13 : decode cX1_rankOf 13 = .ok (.iconst 1, 1) := by decide +kernel
theorem dX1_rankOf_14 : decode cX1_rankOf 14 = .ok (.istore 4, 2) := by decide +kernel
theorem dX1_rankOf_16 : decode cX1_rankOf 16 = .ok (.iload 4, 2) := by decide +kernel
theorem dX1_rankOf_18 : decode cX1_rankOf 18 = .ok (.aload_n 0, 1) := by decide +kernel
theorem dX1_rankOf_19 : decode cX1_rankOf 19 = .ok (.getfield 31, 3) := by decide +kernel
theorem dX1_rankOf_22 : decode cX1_rankOf 22 = .ok (.if_icmp .gt 68, 3) := by decide +kernel
theorem dX1_rankOf_25 : decode cX1_rankOf 25 = .ok (.aload_n 1, 1) := by decide +kernel
theorem dX1_rankOf_26 : decode cX1_rankOf 26 = .ok (.iload 4, 2) := by decide +kernel
theorem dX1_rankOf_28 : decode cX1_rankOf 28 = .ok (.iaload, 1) := by decide +kernel
theorem dX1_rankOf_29 : decode cX1_rankOf 29 = .ok (.istore 5, 2) := by decide +kernel
theorem dX1_rankOf_31 : decode cX1_rankOf 31 = .ok (.iload 5, 2) := by decide +kernel
theorem dX1_rankOf_33 : decode cX1_rankOf 33 = .ok (.ifCond .lt 25, 3) := by decide +kernel
theorem dX1_rankOf_36 : decode cX1_rankOf 36 = .ok (.iload 5, 2) := by decide +kernel
theorem dX1_rankOf_38 : decode cX1_rankOf 38 = .ok (.bipush 15, 2) := by decide +kernel
theorem dX1_rankOf_40 : decode cX1_rankOf 40 = .ok (.if_icmp .gt 18, 3) := by decide +kernel
theorem dX1_rankOf_43 : decode cX1_rankOf 43 = .ok (.iload 5, 2) := by decide +kernel
theorem dX1_rankOf_45 : decode cX1_rankOf 45 = .ok (.ifCond .eq 15, 3) := by decide +kernel
theorem dX1_rankOf_48 : decode cX1_rankOf 48 = .ok (.aload_n 0, 1) := by decide +kernel
theorem dX1_rankOf_49 : decode cX1_rankOf 49 = .ok (.getfield 15, 3) := by decide +kernel
theorem dX1_rankOf_52 : decode cX1_rankOf 52 = .ok (.iload 5, 2) := by decide +kernel
theorem dX1_rankOf_54 : decode cX1_rankOf 54 = .ok (.iaload, 1) := by decide +kernel
theorem dX1_rankOf_55 : decode cX1_rankOf 55 = .ok (.ifCond .ne 5, 3) := by decide +kernel
theorem dX1_rankOf_58 : decode cX1_rankOf 58 = .ok (.iconst (-1), 1) := by decide +kernel
theorem dX1_rankOf_59 : decode cX1_rankOf 59 = .ok (.ireturn, 1) := by decide +kernel
theorem dX1_rankOf_60 : decode cX1_rankOf 60 = .ok (.lload_n 2, 1) := by decide +kernel
theorem dX1_rankOf_61 : decode cX1_rankOf 61 = .ok (.ldc2_w 97, 3) := by decide +kernel
theorem dX1_rankOf_64 : decode cX1_rankOf 64 = .ok (.lmul, 1) := by decide +kernel
theorem dX1_rankOf_65 : decode cX1_rankOf 65 = .ok (.iload 5, 2) := by decide +kernel
theorem dX1_rankOf_67 : decode cX1_rankOf 67 = .ok (.ifCond .ne 7, 3) := by decide +kernel
theorem dX1_rankOf_70 : decode cX1_rankOf 70 = .ok (.iconst 0, 1) := by decide +kernel
theorem dX1_rankOf_71 : decode cX1_rankOf 71 = .ok (.goto 10, 3) := by decide +kernel
theorem dX1_rankOf_74 : decode cX1_rankOf 74 = .ok (.aload_n 0, 1) := by decide +kernel
theorem dX1_rankOf_75 : decode cX1_rankOf 75 = .ok (.getfield 15, 3) := by decide +kernel
theorem dX1_rankOf_78 : decode cX1_rankOf 78 = .ok (.iload 5, 2) := by decide +kernel
theorem dX1_rankOf_80 : decode cX1_rankOf 80 = .ok (.iaload, 1) := by decide +kernel
theorem dX1_rankOf_81 : decode cX1_rankOf 81 = .ok (.i2l, 1) := by decide +kernel
theorem dX1_rankOf_82 : decode cX1_rankOf 82 = .ok (.ladd, 1) := by decide +kernel
theorem dX1_rankOf_83 : decode cX1_rankOf 83 = .ok (.lstore_n 2, 1) := by decide +kernel
theorem dX1_rankOf_84 : decode cX1_rankOf 84 = .ok (.iinc 4 1, 3) := by decide +kernel
theorem dX1_rankOf_87 : decode cX1_rankOf 87 = .ok (.goto (-71), 3) := by decide +kernel
theorem dX1_rankOf_90 : decode cX1_rankOf 90 = .ok (.aload_n 0, 1) := by decide +kernel
theorem dX1_rankOf_91 : decode cX1_rankOf 91 = .ok (.lload_n 2, 1) := by decide +kernel
theorem dX1_rankOf_92 : decode cX1_rankOf 92 = .ok (.invokevirtual 113, 3) := by decide +kernel
theorem dX1_rankOf_95 : decode cX1_rankOf 95 = .ok (.ireturn, 1) := by decide +kernel
theorem dX1_rankOfNumber_0 : decode cX1_rankOfNumber 0 = .ok (.iconst 0, 1) := by decide +kernel
theorem dX1_rankOfNumber_1 : decode cX1_rankOfNumber 1 = .ok (.istore_n 3, 1) := by decide +kernel
theorem dX1_rankOfNumber_2 : decode cX1_rankOfNumber 2 = .ok (.aload_n 0, 1) := by decide +kernel
theorem dX1_rankOfNumber_3 : decode cX1_rankOfNumber 3 = .ok (.getfield 35, 3) := by decide +kernel
theorem dX1_rankOfNumber_6 : decode cX1_rankOfNumber 6 = .ok (.aload_n 0, 1) := by decide +kernel
theorem dX1_rankOfNumber_7 : decode cX1_rankOfNumber 7 = .ok (.getfield 44, 3) := by decide +kernel
theorem dX1_rankOfNumber_10 : decode cX1_rankOfNumber 10 = .ok (.arraylength, 1) := by decide +kernel
theorem dX1_rankOfNumber_11 : decode cX1_rankOfNumber 11 = .ok (.invokestatic 94, 3) := by decide +kernel
theorem dX1_rankOfNumber_14 : decode cX1_rankOfNumber 14 = .ok (.iconst 1, 1) := by decide +kernel
theorem dX1_rankOfNumber_15 : decode cX1_rankOfNumber 15 = .ok (.isub, 1) := by decide +kernel
theorem dX1_rankOfNumber_16 : decode cX1_rankOfNumber 16 = .ok (.istore 4, 2) := by decide +kernel
theorem dX1_rankOfNumber_18 : decode cX1_rankOfNumber 18 = .ok (.iconst 0, 1) := by decide +kernel
theorem dX1_rankOfNumber_19 : decode cX1_rankOfNumber 19 = .ok (.istore 5, 2) := by decide +kernel
theorem dX1_rankOfNumber_21 : decode cX1_rankOfNumber 21 = .ok (.iload 5, 2) := by decide +kernel
theorem dX1_rankOfNumber_23 : decode cX1_rankOfNumber 23 = .ok (.sipush 2656, 3) := by decide +kernel
theorem dX1_rankOfNumber_26 : decode cX1_rankOfNumber 26 = .ok (.if_icmp .gt 64, 3) := by decide +kernel
theorem dX1_rankOfNumber_29 : decode cX1_rankOfNumber 29 = .ok (.iload_n 3, 1) := by decide +kernel
theorem dX1_rankOfNumber_30 : decode cX1_rankOfNumber 30 = .ok (.iload 4, 2) := by decide +kernel
theorem dX1_rankOfNumber_32 : decode cX1_rankOfNumber 32 = .ok (.if_icmp .gt 58, 3) := by decide +kernel
theorem dX1_rankOfNumber_35 : decode cX1_rankOfNumber 35 = .ok (.iload_n 3, 1) := by decide +kernel
theorem dX1_rankOfNumber_36 : decode cX1_rankOfNumber 36 = .ok (.iload 4, 2) := by decide +kernel
theorem dX1_rankOfNumber_38 : decode cX1_rankOfNumber 38 = .ok (.iadd, 1) := by decide +kernel
theorem dX1_rankOfNumber_39 : decode cX1_rankOfNumber 39 = .ok (.iconst 2, 1) := by decide +kernel
theorem dX1_rankOfNumber_40 : decode cX1_rankOfNumber 40 = .ok (.idiv, 1) := by decide +kernel
theorem dX1_rankOfNumber_41 : decode cX1_rankOfNumber 41 = .ok (.istore 6, 2) := by decide +kernel
theorem dX1_rankOfNumber_43 : decode cX1_rankOfNumber 43 = .ok (.aload_n 0, 1) := by decide +kernel
theorem dX1_rankOfNumber_44 : decode cX1_rankOfNumber 44 = .ok (.getfield 44, 3) := by decide +kernel
theorem dX1_rankOfNumber_47 : decode cX1_rankOfNumber 47 = .ok (.iload 6, 2) := by decide +kernel
theorem dX1_rankOfNumber_49 : decode cX1_rankOfNumber 49 = .ok (.laload, 1) := by decide +kernel
theorem dX1_rankOfNumber_50 : decode cX1_rankOfNumber 50 = .ok (.lload_n 1, 1) := by decide +kernel
theorem dX1_rankOfNumber_51 : decode cX1_rankOfNumber 51 = .ok (.lcmp, 1) := by decide +kernel
theorem dX1_rankOfNumber_52 : decode cX1_rankOfNumber 52 = .ok (.ifCond .ne 6, 3) := by decide +kernel
theorem dX1_rankOfNumber_55 : decode cX1_rankOfNumber 55 = .ok (.iload 6, 2) := by decide +kernel
theorem dX1_rankOfNumber_57 : decode cX1_rankOfNumber 57 = .ok (.ireturn, 1) := by decide +kernel
theorem dX1_rankOfNumber_58 : decode cX1_rankOfNumber 58 = .ok (.aload_n 0, 1) := by decide +kernel
theorem dX1_rankOfNumber_59 : decode cX1_rankOfNumber 59 = .ok (.getfield 44, 3) := by decide +kernel
theorem dX1_rankOfNumber_62 : decode cX1_rankOfNumber 62 = .ok (.iload 6, 2) := by decide +kernel
theorem dX1_rankOfNumber_64 : decode cX1_rankOfNumber 64 = .ok (.laload, 1) := by decide +kernel
theorem dX1_rankOfNumber_65 : decode cX1_rankOfNumber 65 = .ok (.lload_n 1, 1) := by decide +kernel
theorem dX1_rankOfNumber_66 : decode cX1_rankOfNumber 66 = .ok (.lcmp, 1) := by decide +kernel
theorem dX1_rankOfNumber_67 : decode cX1_rankOfNumber 67 = .ok (.ifCond .ge 11, 3) := by decide +kernel
theorem dX1_rankOfNumber_70 : decode cX1_rankOfNumber 70 = .ok (.iload 6, 2) := by decide +kernel
theorem dX1_rankOfNumber_72 : decode cX1_rankOfNumber 72 = .ok (.iconst 1, 1) := by decide +kernel
theorem dX1_rankOfNumber_73 : decode cX1_rankOfNumber 73 = .ok (.iadd, 1) := by decide +kernel
theorem dX1_rankOfNumber_74 : decode cX1_rankOfNumber 74 = .ok (.istore_n 3, 1) := by decide +kernel
theorem dX1_rankOfNumber_75 : decode cX1_rankOfNumber 75 = .ok (.goto 9, 3) := by decide +kernel
theorem dX1_rankOfNumber_78 : decode cX1_rankOfNumber 78 = .ok (.iload 6, 2) := by decide +kernel
theorem dX1_rankOfNumber_80 : decode cX1_rankOfNumber 80 = .ok (.iconst 1, 1) := by decide +kernel
theorem dX1_rankOfNumber_81 : decode cX1_rankOfNumber 81 = .ok (.isub, 1) := by decide +kernel
theorem dX1_rankOfNumber_82 : decode cX1_rankOfNumber 82 = .ok (.istore 4, 2) := by decide +kernel
theorem dX1_rankOfNumber_84 : decode cX1_rankOfNumber 84 = .ok (.iinc 5 1, 3) := by decide +kernel
theorem dX1_rankOfNumber_87 : decode cX1_rankOfNumber 87 = .ok (.goto (-66), 3) := by decide +kernel
theorem dX1_rankOfNumber_90 : decode cX1_rankOfNumber 90 = .ok (.iconst (-1), 1) := by decide +kernel
theorem dX1_rankOfNumber_91 : decode cX1_rankOfNumber 91 = .ok (.ireturn, 1) := by decide +kernel
set_option maxRecDepth 20000 in
theorem ggX1_placesOf_X6_bit : GoodIn wsX1_placesOf wsX6_bit := goodIn_r _ [5] (by decide +kernel) (by decide +kernel)
set_option maxRecDepth 20000 in
theorem gX1_placesOf_X6_bit_n99 : GoodIn wsX1_placesOf (wsX6_bit) := ggX1_placesOf_X6_bit
theorem dX1_placesOf_0 : decode cX1_placesOf 0 = .ok (.iconst 0, 1) := by decide +kernel
theorem dX1_placesOf_1 : decode cX1_placesOf 1 = .ok (.istore_n 2, 1) := by decide +kernel
theorem dX1_placesOf_2 : decode cX1_placesOf 2 = .ok (.iconst 1, 1) := by decide +kernel
theorem dX1_placesOf_3 : decode cX1_placesOf 3 = .ok (.istore_n 3, 1) := by decide +kernel
theorem dX1_placesOf_4 : decode cX1_placesOf 4 = .ok (.iload_n 3, 1) := by decide +kernel
theorem dX1_placesOf_5 : decode cX1_placesOf 5 = .ok (.aload_n 0, 1) := by decide +kernel
theorem dX1_placesOf_6 : decode cX1_placesOf 6 = .ok (.getfield 31, 3) := by decide +kernel
theorem dX1_placesOf_9 : decode cX1_placesOf 9 = .ok (.if_icmp .gt 27, 3) := by decide +kernel
theorem dX1_placesOf_12 : decode cX1_placesOf 12 = .ok (.aload_n 0, 1) := by decide +kernel
theorem dX1_placesOf_13 : decode cX1_placesOf 13 = .ok (.getfield 24, 3) := by decide +kernel
theorem dX1_placesOf_16 : decode cX1_placesOf 16 = .ok (.iload_n 1, 1) := by decide +kernel
theorem dX1_placesOf_17 : decode cX1_placesOf 17 = .ok (.aaload, 1) := by decide +kernel
theorem dX1_placesOf_18 : decode cX1_placesOf 18 = .ok (.iload_n 3, 1) := by decide +kernel
theorem dX1_placesOf_19 : decode cX1_placesOf 19 = .ok (.iaload, 1) := by decide +kernel
theorem dX1_placesOf_20 : decode cX1_placesOf 20 = .ok (.ifCond .le 10, 3) := by decide +kernel
theorem dX1_placesOf_23 : decode cX1_placesOf 23 = .ok (.iload_n 2, 1) := by decide +kernel
theorem dX1_placesOf_24 : decode cX1_placesOf 24 = .ok (.iload_n 3, 1) := by decide +kernel
theorem dX1_placesOf_25 : decode cX1_placesOf 25 = .ok (.invokestatic 99, 3) := by decide +kernel
theorem dX1_placesOf_28 : decode cX1_placesOf 28 = .ok (.ior, 1) := by decide +kernel
theorem dX1_placesOf_29 : decode cX1_placesOf 29 = .ok (.istore_n 2, 1) := by decide +kernel
theorem dX1_placesOf_30 : decode cX1_placesOf 30 = .ok (.iinc 3 1, 3) := by decide +kernel
theorem dX1_placesOf_33 : decode cX1_placesOf 33 = .ok (.goto (-29), 3) := by decide +kernel
theorem dX1_placesOf_36 : decode cX1_placesOf 36 = .ok (.iload_n 2, 1) := by decide +kernel
theorem dX1_placesOf_37 : decode cX1_placesOf 37 = .ok (.ireturn, 1) := by decide +kernel
set_option maxRecDepth 20000 in
theorem ggX1_isSure_X1_placesOf : GoodIn wsX1_isSure wsX1_placesOf := goodIn_r _ [5, 6, 7, 8, 9, 10, 18, 19, 20, 21, 22, 23, 24, 25] (by decide +kernel) (by decide +kernel)
set_option maxRecDepth 20000 in
theorem gX1_isSure_X1_placesOf : GoodIn wsX1_isSure (wsV RX1 117 RX1 yX1_placesOf wsX1_placesOf) := goodIn_app (goodIn_of _ (by decide +kernel)) ggX1_isSure_X1_placesOf
set_option maxRecDepth 20000 in
theorem ggX1_isSure_J6_bitCount_0f7a4 : GoodIn wsX1_isSure wsJ6_bitCount_0f7a4 := goodIn_r _ [14, 15, 16, 17] (by decide +kernel) (by decide +kernel)
set_option maxRecDepth 20000 in
theorem gX1_isSure_J6_bitCount_0f7a4 : GoodIn wsX1_isSure (va_wsS RX1 105 yJ6_bitCount_0f7a4 wsJ6_bitCount_0f7a4) := goodIn_app (goodIn_of _ (by decide +kernel)) ggX1_isSure_J6_bitCount_0f7a4
theorem dX1_isSure_0 : decode cX1_isSure 0 = .ok (.aload_n 0, 1) := by decide +kernel
theorem dX1_isSure_1 : decode cX1_isSure 1 = .ok (.iload_n 1, 1) := by decide +kernel
theorem dX1_isSure_2 : decode cX1_isSure 2 = .ok (.invokevirtual 117, 3) := by decide +kernel
theorem dX1_isSure_5 : decode cX1_isSure 5 = .ok (.invokestatic 105, 3) := by decide +kernel
theorem dX1_isSure_8 : decode cX1_isSure 8 = .ok (.iconst 1, 1) := by decide +kernel
theorem dX1_isSure_9 : decode cX1_isSure 9 = .ok (.if_icmp .ne 7, 3) := by decide +kernel
theorem dX1_isSure_12 : decode cX1_isSure 12 = .ok (.iconst 1, 1) := by decide +kernel
theorem dX1_isSure_13 : decode cX1_isSure 13 = .ok (.goto 4, 3) := by decide +kernel
theorem dX1_isSure_16 : decode cX1_isSure 16 = .ok (.iconst 0, 1) := by decide +kernel
theorem dX1_isSure_17 : decode cX1_isSure 17 = .ok (.ireturn, 1) := by decide +kernel
theorem dX2_init_0 : decode cX2_init 0 = .ok (.aload_n 0, 1) := by decide +kernel
theorem dX2_init_1 : decode cX2_init 1 = .ok (.invokespecial 3, 3) := by decide +kernel
theorem dX2_init_4 : decode cX2_init 4 = .ok (.aload_n 0, 1) := by decide +kernel
theorem dX2_init_5 : decode cX2_init 5 = .ok (.iconst 0, 1) := by decide +kernel
theorem dX2_init_6 : decode cX2_init 6 = .ok (.putfield 9, 3) := by decide +kernel
theorem dX2_init_9 : decode cX2_init 9 = .ok (.aload_n 0, 1) := by decide +kernel
theorem dX2_init_10 : decode cX2_init 10 = .ok (.iconst 0, 1) := by decide +kernel
theorem dX2_init_11 : decode cX2_init 11 = .ok (.putfield 15, 3) := by decide +kernel
theorem dX2_init_14 : decode cX2_init 14 = .ok (.aload_n 0, 1) := by decide +kernel
theorem dX2_init_15 : decode cX2_init 15 = .ok (.iconst 0, 1) := by decide +kernel
theorem dX2_init_16 : decode cX2_init 16 = .ok (.putfield 18, 3) := by decide +kernel
theorem dX2_init_19 : decode cX2_init 19 = .ok (.aload_n 0, 1) := by decide +kernel
theorem dX2_init_20 : decode cX2_init 20 = .ok (.bipush 16, 2) := by decide +kernel
theorem dX2_init_22 : decode cX2_init 22 = .ok (.newarray .int, 2) := by decide +kernel
theorem dX2_init_24 : decode cX2_init 24 = .ok (.putfield 21, 3) := by decide +kernel
theorem dX2_init_27 : decode cX2_init 27 = .ok (.return_, 1) := by decide +kernel
set_option maxRecDepth 20000 in
theorem ggX2_begin_J7_fill_53178 : GoodIn wsX2_begin wsJ7_fill_53178 := goodIn_r _ [8] (by decide +kernel) (by decide +kernel)
set_option maxRecDepth 20000 in
theorem gX2_begin_J7_fill_53178 : GoodIn wsX2_begin (va_wsS RX2 25 yJ7_fill_53178 wsJ7_fill_53178) := goodIn_app (goodIn_of _ (by decide +kernel)) ggX2_begin_J7_fill_53178
theorem dX2_begin_0 : decode cX2_begin 0 = .ok (.aload_n 0, 1) := by decide +kernel
theorem dX2_begin_1 : decode cX2_begin 1 = .ok (.iload_n 1, 1) := by decide +kernel
theorem dX2_begin_2 : decode cX2_begin 2 = .ok (.putfield 9, 3) := by decide +kernel
theorem dX2_begin_5 : decode cX2_begin 5 = .ok (.aload_n 0, 1) := by decide +kernel
theorem dX2_begin_6 : decode cX2_begin 6 = .ok (.iload_n 2, 1) := by decide +kernel
theorem dX2_begin_7 : decode cX2_begin 7 = .ok (.putfield 15, 3) := by decide +kernel
theorem dX2_begin_10 : decode cX2_begin 10 = .ok (.aload_n 0, 1) := by decide +kernel
theorem dX2_begin_11 : decode cX2_begin 11 = .ok (.iload_n 3, 1) := by decide +kernel
theorem dX2_begin_12 : decode cX2_begin 12 = .ok (.putfield 18, 3) := by decide +kernel
theorem dX2_begin_15 : decode cX2_begin 15 = .ok (.aload_n 0, 1) := by decide +kernel
theorem dX2_begin_16 : decode cX2_begin 16 = .ok (.getfield 21, 3) := by decide +kernel
theorem dX2_begin_19 : decode cX2_begin 19 = .ok (.iconst 0, 1) := by decide +kernel
theorem dX2_begin_20 : decode cX2_begin 20 = .ok (.invokestatic 25, 3) := by decide +kernel
theorem dX2_begin_23 : decode cX2_begin 23 = .ok (.return_, 1) := by decide +kernel
theorem dX2_copy_0 : decode cX2_copy 0 = .ok (.aload_n 0, 1) := by decide +kernel
theorem dX2_copy_1 : decode cX2_copy 1 = .ok (.aload_n 1, 1) := by decide +kernel
theorem dX2_copy_2 : decode cX2_copy 2 = .ok (.getfield 9, 3) := by decide +kernel
theorem dX2_copy_5 : decode cX2_copy 5 = .ok (.putfield 9, 3) := by decide +kernel
theorem dX2_copy_8 : decode cX2_copy 8 = .ok (.aload_n 0, 1) := by decide +kernel
theorem dX2_copy_9 : decode cX2_copy 9 = .ok (.aload_n 1, 1) := by decide +kernel
theorem dX2_copy_10 : decode cX2_copy 10 = .ok (.getfield 15, 3) := by decide +kernel
theorem dX2_copy_13 : decode cX2_copy 13 = .ok (.putfield 15, 3) := by decide +kernel
theorem dX2_copy_16 : decode cX2_copy 16 = .ok (.aload_n 0, 1) := by decide +kernel
theorem dX2_copy_17 : decode cX2_copy 17 = .ok (.aload_n 1, 1) := by decide +kernel
theorem dX2_copy_18 : decode cX2_copy 18 = .ok (.getfield 18, 3) := by decide +kernel
theorem dX2_copy_21 : decode cX2_copy 21 = .ok (.putfield 18, 3) := by decide +kernel
theorem dX2_copy_24 : decode cX2_copy 24 = .ok (.aload_n 1, 1) := by decide +kernel
theorem dX2_copy_25 : decode cX2_copy 25 = .ok (.getfield 21, 3) := by decide +kernel
theorem dX2_copy_28 : decode cX2_copy 28 = .ok (.iconst 0, 1) := by decide +kernel
theorem dX2_copy_29 : decode cX2_copy 29 = .ok (.aload_n 0, 1) := by decide +kernel
theorem dX2_copy_30 : decode cX2_copy 30 = .ok (.getfield 21, 3) := by decide +kernel
theorem dX2_copy_33 : decode cX2_copy 33 = .ok (.iconst 0, 1) := by decide +kernel
theorem dX2_copy_34 : decode cX2_copy 34 = .ok (.aload_n 0, 1) := by decide +kernel
theorem dX2_copy_35 : decode cX2_copy 35 = .ok (.getfield 21, 3) := by decide +kernel
theorem dX2_copy_38 : decode cX2_copy 38 = .ok (.arraylength, 1) := by decide +kernel
theorem dX2_copy_39 : decode cX2_copy 39 = .ok (.invokestatic 31, 3) := by decide +kernel
theorem dX2_copy_42 : decode cX2_copy 42 = .ok (.return_, 1) := by decide +kernel
theorem dX2_hasPlace_0 : decode cX2_hasPlace 0 = .ok (.iload_n 1, 1) := by decide +kernel
theorem dX2_hasPlace_1 : decode cX2_hasPlace 1 = .ok (.iconst 1, 1) := by decide +kernel
theorem dX2_hasPlace_2 : decode cX2_hasPlace 2 = .ok (.if_icmp .lt 15, 3) := by decide +kernel
theorem dX2_hasPlace_5 : decode cX2_hasPlace 5 = .ok (.iload_n 1, 1) := by decide +kernel
theorem dX2_hasPlace_6 : decode cX2_hasPlace 6 = .ok (.aload_n 0, 1) := by decide +kernel
theorem dX2_hasPlace_7 : decode cX2_hasPlace 7 = .ok (.getfield 9, 3) := by decide +kernel
theorem dX2_hasPlace_10 : decode cX2_hasPlace 10 = .ok (.if_icmp .gt 7, 3) := by decide +kernel
theorem dX2_hasPlace_13 : decode cX2_hasPlace 13 = .ok (.iconst 1, 1) := by decide +kernel
theorem dX2_hasPlace_14 : decode cX2_hasPlace 14 = .ok (.goto 4, 3) := by decide +kernel
theorem dX2_hasPlace_17 : decode cX2_hasPlace 17 = .ok (.iconst 0, 1) := by decide +kernel
theorem dX2_hasPlace_18 : decode cX2_hasPlace 18 = .ok (.ireturn, 1) := by decide +kernel
set_option maxRecDepth 20000 in
theorem ggX2_hasHole_X2_hasPlace : GoodIn wsX2_hasHole wsX2_hasPlace := goodIn_r _ [6, 7, 11, 12, 13, 14] (by decide +kernel) (by decide +kernel)
set_option maxRecDepth 20000 in
theorem gX2_hasHole_X2_hasPlace : GoodIn wsX2_hasHole (wsV RX2 37 RX2 yX2_hasPlace wsX2_hasPlace) := goodIn_app (goodIn_of _ (by decide +kernel)) ggX2_hasHole_X2_hasPlace
set_option maxRecDepth 20000 in
theorem ggX2_hasHole_X6_bit : GoodIn wsX2_hasHole wsX6_bit := goodIn_r _ [10] (by decide +kernel) (by decide +kernel)
set_option maxRecDepth 20000 in
theorem gX2_hasHole_X6_bit_n41 : GoodIn wsX2_hasHole (wsX6_bit) := ggX2_hasHole_X6_bit
theorem dX2_hasHole_0 : decode cX2_hasHole 0 = .ok (.aload_n 0, 1) := by decide +kernel
theorem dX2_hasHole_1 : decode cX2_hasHole 1 = .ok (.iload_n 1, 1) := by decide +kernel
theorem dX2_hasHole_2 : decode cX2_hasHole 2 = .ok (.invokevirtual 37, 3) := by decide +kernel
theorem dX2_hasHole_5 : decode cX2_hasHole 5 = .ok (.ifCond .eq 19, 3) := by decide +kernel
theorem dX2_hasHole_8 : decode cX2_hasHole 8 = .ok (.aload_n 0, 1) := by decide +kernel
theorem dX2_hasHole_9 : decode cX2_hasHole 9 = .ok (.getfield 15, 3) := by decide +kernel
theorem dX2_hasHole_12 : decode cX2_hasHole 12 = .ok (.iload_n 1, 1) := by decide +kernel
theorem dX2_hasHole_13 : decode cX2_hasHole 13 = .ok (.invokestatic 41, 3) := by decide +kernel
theorem dX2_hasHole_16 : decode cX2_hasHole 16 = .ok (.iand, 1) := by decide +kernel
theorem dX2_hasHole_17 : decode cX2_hasHole 17 = .ok (.ifCond .eq 7, 3) := by decide +kernel
theorem dX2_hasHole_20 : decode cX2_hasHole 20 = .ok (.iconst 1, 1) := by decide +kernel
theorem dX2_hasHole_21 : decode cX2_hasHole 21 = .ok (.goto 4, 3) := by decide +kernel
theorem dX2_hasHole_24 : decode cX2_hasHole 24 = .ok (.iconst 0, 1) := by decide +kernel
theorem dX2_hasHole_25 : decode cX2_hasHole 25 = .ok (.ireturn, 1) := by decide +kernel
set_option maxRecDepth 20000 in
theorem ggX2_hasPair_X6_bit : GoodIn wsX2_hasPair wsX6_bit := goodIn_r _ [4] (by decide +kernel) (by decide +kernel)
set_option maxRecDepth 20000 in
theorem gX2_hasPair_X6_bit_n41 : GoodIn wsX2_hasPair (wsX6_bit) := ggX2_hasPair_X6_bit
theorem dX2_hasPair_0 : decode cX2_hasPair 0 = .ok (.iload_n 1, 1) := by decide +kernel
theorem dX2_hasPair_1 : decode cX2_hasPair 1 = .ok (.iconst 1, 1) := by decide +kernel
theorem dX2_hasPair_2 : decode cX2_hasPair 2 = .ok (.if_icmp .lt 25, 3) := by decide +kernel
theorem dX2_hasPair_5 : decode cX2_hasPair 5 = .ok (.iload_n 1, 1) := by decide +kernel
theorem dX2_hasPair_6 : decode cX2_hasPair 6 = .ok (.bipush 15, 2) := by decide +kernel
theorem dX2_hasPair_8 : decode cX2_hasPair 8 = .ok (.if_icmp .gt 19, 3) := by decide +kernel
theorem dX2_hasPair_11 : decode cX2_hasPair 11 = .ok (.aload_n 0, 1) := by decide +kernel
theorem dX2_hasPair_12 : decode cX2_hasPair 12 = .ok (.getfield 18, 3) := by decide +kernel
theorem dX2_hasPair_15 : decode cX2_hasPair 15 = .ok (.iload_n 1, 1) := by decide +kernel
theorem dX2_hasPair_16 : decode cX2_hasPair 16 = .ok (.invokestatic 41, 3) := by decide +kernel
theorem dX2_hasPair_19 : decode cX2_hasPair 19 = .ok (.iand, 1) := by decide +kernel
theorem dX2_hasPair_20 : decode cX2_hasPair 20 = .ok (.ifCond .eq 7, 3) := by decide +kernel
theorem dX2_hasPair_23 : decode cX2_hasPair 23 = .ok (.iconst 1, 1) := by decide +kernel
theorem dX2_hasPair_24 : decode cX2_hasPair 24 = .ok (.goto 4, 3) := by decide +kernel
theorem dX2_hasPair_27 : decode cX2_hasPair 27 = .ok (.iconst 0, 1) := by decide +kernel
theorem dX2_hasPair_28 : decode cX2_hasPair 28 = .ok (.ireturn, 1) := by decide +kernel
theorem dX2_placesToFill_0 : decode cX2_placesToFill 0 = .ok (.iconst 1, 1) := by decide +kernel
theorem dX2_placesToFill_1 : decode cX2_placesToFill 1 = .ok (.aload_n 0, 1) := by decide +kernel
theorem dX2_placesToFill_2 : decode cX2_placesToFill 2 = .ok (.getfield 9, 3) := by decide +kernel
theorem dX2_placesToFill_5 : decode cX2_placesToFill 5 = .ok (.ishl, 1) := by decide +kernel
theorem dX2_placesToFill_6 : decode cX2_placesToFill 6 = .ok (.iconst 1, 1) := by decide +kernel
theorem dX2_placesToFill_7 : decode cX2_placesToFill 7 = .ok (.isub, 1) := by decide +kernel
theorem dX2_placesToFill_8 : decode cX2_placesToFill 8 = .ok (.aload_n 0, 1) := by decide +kernel
theorem dX2_placesToFill_9 : decode cX2_placesToFill 9 = .ok (.getfield 15, 3) := by decide +kernel
theorem dX2_placesToFill_12 : decode cX2_placesToFill 12 = .ok (.iconst (-1), 1) := by decide +kernel
theorem dX2_placesToFill_13 : decode cX2_placesToFill 13 = .ok (.ixor, 1) := by decide +kernel
theorem dX2_placesToFill_14 : decode cX2_placesToFill 14 = .ok (.iand, 1) := by decide +kernel
theorem dX2_placesToFill_15 : decode cX2_placesToFill 15 = .ok (.ireturn, 1) := by decide +kernel
set_option maxRecDepth 20000 in
theorem ggX2_pinnedPairs_X6_bit : GoodIn wsX2_pinnedPairs wsX6_bit := goodIn_r _ [4] (by decide +kernel) (by decide +kernel)
set_option maxRecDepth 20000 in
theorem gX2_pinnedPairs_X6_bit_n41 : GoodIn wsX2_pinnedPairs (wsX6_bit) := ggX2_pinnedPairs_X6_bit
theorem dX2_pinnedPairs_0 : decode cX2_pinnedPairs 0 = .ok (.iconst 0, 1) := by decide +kernel
theorem dX2_pinnedPairs_1 : decode cX2_pinnedPairs 1 = .ok (.istore_n 1, 1) := by decide +kernel
theorem dX2_pinnedPairs_2 : decode cX2_pinnedPairs 2 = .ok (.iconst 1, 1) := by decide +kernel
theorem dX2_pinnedPairs_3 : decode cX2_pinnedPairs 3 = .ok (.istore_n 2, 1) := by decide +kernel
theorem dX2_pinnedPairs_4 : decode cX2_pinnedPairs 4 = .ok (.iload_n 2, 1) := by decide +kernel
theorem dX2_pinnedPairs_5 : decode cX2_pinnedPairs 5 = .ok (.bipush 15, 2) := by decide +kernel
theorem dX2_pinnedPairs_7 : decode cX2_pinnedPairs 7 = .ok (.if_icmp .gt 25, 3) := by decide +kernel
theorem dX2_pinnedPairs_10 : decode cX2_pinnedPairs 10 = .ok (.aload_n 0, 1) := by decide +kernel
theorem dX2_pinnedPairs_11 : decode cX2_pinnedPairs 11 = .ok (.getfield 21, 3) := by decide +kernel
theorem dX2_pinnedPairs_14 : decode cX2_pinnedPairs 14 = .ok (.iload_n 2, 1) := by decide +kernel
theorem dX2_pinnedPairs_15 : decode cX2_pinnedPairs 15 = .ok (.iaload, 1) := by decide +kernel
theorem dX2_pinnedPairs_16 : decode cX2_pinnedPairs 16 = .ok (.ifCond .eq 10, 3) := by decide +kernel
theorem dX2_pinnedPairs_19 : decode cX2_pinnedPairs 19 = .ok (.iload_n 1, 1) := by decide +kernel
theorem dX2_pinnedPairs_20 : decode cX2_pinnedPairs 20 = .ok (.iload_n 2, 1) := by decide +kernel
theorem dX2_pinnedPairs_21 : decode cX2_pinnedPairs 21 = .ok (.invokestatic 41, 3) := by decide +kernel
theorem dX2_pinnedPairs_24 : decode cX2_pinnedPairs 24 = .ok (.ior, 1) := by decide +kernel
theorem dX2_pinnedPairs_25 : decode cX2_pinnedPairs 25 = .ok (.istore_n 1, 1) := by decide +kernel
theorem dX2_pinnedPairs_26 : decode cX2_pinnedPairs 26 = .ok (.iinc 2 1, 3) := by decide +kernel
theorem dX2_pinnedPairs_29 : decode cX2_pinnedPairs 29 = .ok (.goto (-25), 3) := by decide +kernel
theorem dX2_pinnedPairs_32 : decode cX2_pinnedPairs 32 = .ok (.iload_n 1, 1) := by decide +kernel
theorem dX2_pinnedPairs_33 : decode cX2_pinnedPairs 33 = .ok (.ireturn, 1) := by decide +kernel
set_option maxRecDepth 20000 in
theorem ggX2_pinnedPlaces_X6_bit : GoodIn wsX2_pinnedPlaces wsX6_bit := goodIn_r _ [4] (by decide +kernel) (by decide +kernel)
set_option maxRecDepth 20000 in
theorem gX2_pinnedPlaces_X6_bit_n41 : GoodIn wsX2_pinnedPlaces (wsX6_bit) := ggX2_pinnedPlaces_X6_bit
theorem dX2_pinnedPlaces_0 : decode cX2_pinnedPlaces 0 = .ok (.iconst 0, 1) := by decide +kernel
theorem dX2_pinnedPlaces_1 : decode cX2_pinnedPlaces 1 = .ok (.istore_n 2, 1) := by decide +kernel
theorem dX2_pinnedPlaces_2 : decode cX2_pinnedPlaces 2 = .ok (.iconst 1, 1) := by decide +kernel
theorem dX2_pinnedPlaces_3 : decode cX2_pinnedPlaces 3 = .ok (.istore_n 3, 1) := by decide +kernel
theorem dX2_pinnedPlaces_4 : decode cX2_pinnedPlaces 4 = .ok (.iload_n 3, 1) := by decide +kernel
theorem dX2_pinnedPlaces_5 : decode cX2_pinnedPlaces 5 = .ok (.bipush 15, 2) := by decide +kernel
theorem dX2_pinnedPlaces_7 : decode cX2_pinnedPlaces 7 = .ok (.if_icmp .gt 47, 3) := by decide +kernel
theorem dX2_pinnedPlaces_10 : decode cX2_pinnedPlaces 10 = .ok (.aload_n 0, 1) := by decide +kernel
theorem dX2_pinnedPlaces_11 : decode cX2_pinnedPlaces 11 = .ok (.getfield 21, 3) := by decide +kernel
theorem dX2_pinnedPlaces_14 : decode cX2_pinnedPlaces 14 = .ok (.iload_n 3, 1) := by decide +kernel
theorem dX2_pinnedPlaces_15 : decode cX2_pinnedPlaces 15 = .ok (.iaload, 1) := by decide +kernel
theorem dX2_pinnedPlaces_16 : decode cX2_pinnedPlaces 16 = .ok (.ifCond .eq 32, 3) := by decide +kernel
theorem dX2_pinnedPlaces_19 : decode cX2_pinnedPlaces 19 = .ok (.iload_n 3, 1) := by decide +kernel
theorem dX2_pinnedPlaces_20 : decode cX2_pinnedPlaces 20 = .ok (.iload_n 1, 1) := by decide +kernel
theorem dX2_pinnedPlaces_21 : decode cX2_pinnedPlaces 21 = .ok (.if_icmp .eq 27, 3) := by decide +kernel
theorem dX2_pinnedPlaces_24 : decode cX2_pinnedPlaces 24 = .ok (.iload_n 2, 1) := by decide +kernel
theorem dX2_pinnedPlaces_25 : decode cX2_pinnedPlaces 25 = .ok (.aload_n 0, 1) := by decide +kernel
theorem dX2_pinnedPlaces_26 : decode cX2_pinnedPlaces 26 = .ok (.getfield 21, 3) := by decide +kernel
theorem dX2_pinnedPlaces_29 : decode cX2_pinnedPlaces 29 = .ok (.iload_n 3, 1) := by decide +kernel
theorem dX2_pinnedPlaces_30 : decode cX2_pinnedPlaces 30 = .ok (.iaload, 1) := by decide +kernel
theorem dX2_pinnedPlaces_31 : decode cX2_pinnedPlaces 31 = .ok (.invokestatic 41, 3) := by decide +kernel
theorem dX2_pinnedPlaces_34 : decode cX2_pinnedPlaces 34 = .ok (.aload_n 0, 1) := by decide +kernel
theorem dX2_pinnedPlaces_35 : decode cX2_pinnedPlaces 35 = .ok (.getfield 21, 3) := by decide +kernel
theorem dX2_pinnedPlaces_38 : decode cX2_pinnedPlaces 38 = .ok (.iload_n 3, 1) := by decide +kernel
theorem dX2_pinnedPlaces_39 : decode cX2_pinnedPlaces 39 = .ok (.iaload, 1) := by decide +kernel
theorem dX2_pinnedPlaces_40 : decode cX2_pinnedPlaces 40 = .ok (.iload_n 3, 1) := by decide +kernel
theorem dX2_pinnedPlaces_41 : decode cX2_pinnedPlaces 41 = .ok (.iadd, 1) := by decide +kernel
theorem dX2_pinnedPlaces_42 : decode cX2_pinnedPlaces 42 = .ok (.invokestatic 41, 3) := by decide +kernel
theorem dX2_pinnedPlaces_45 : decode cX2_pinnedPlaces 45 = .ok (.ior, 1) := by decide +kernel
theorem dX2_pinnedPlaces_46 : decode cX2_pinnedPlaces 46 = .ok (.ior, 1) := by decide +kernel
theorem dX2_pinnedPlaces_47 : decode cX2_pinnedPlaces 47 = .ok (.istore_n 2, 1) := by decide +kernel
theorem dX2_pinnedPlaces_48 : decode cX2_pinnedPlaces 48 = .ok (.iinc 3 1, 3) := by decide +kernel
theorem dX2_pinnedPlaces_51 : decode cX2_pinnedPlaces 51 = .ok (.goto (-47), 3) := by decide +kernel
theorem dX2_pinnedPlaces_54 : decode cX2_pinnedPlaces 54 = .ok (.iload_n 2, 1) := by decide +kernel
theorem dX2_pinnedPlaces_55 : decode cX2_pinnedPlaces 55 = .ok (.ireturn, 1) := by decide +kernel
set_option maxRecDepth 20000 in
theorem ggX2_isEven_X2_placesToFill : GoodIn wsX2_isEven wsX2_placesToFill := goodIn_r _ [6, 7, 8, 22, 23, 24, 25] (by decide +kernel) (by decide +kernel)
set_option maxRecDepth 20000 in
theorem gX2_isEven_X2_placesToFill : GoodIn wsX2_isEven (wsV RX2 45 RX2 yX2_placesToFill wsX2_placesToFill) := goodIn_app (goodIn_of _ (by decide +kernel)) ggX2_isEven_X2_placesToFill
set_option maxRecDepth 20000 in
theorem ggX2_isEven_J6_bitCount_0f7a4 : GoodIn wsX2_isEven wsJ6_bitCount_0f7a4 := goodIn_r _ [12, 13, 14, 15] (by decide +kernel) (by decide +kernel)
set_option maxRecDepth 20000 in
theorem gX2_isEven_J6_bitCount_0f7a4 : GoodIn wsX2_isEven (va_wsS RX2 49 yJ6_bitCount_0f7a4 wsJ6_bitCount_0f7a4) := goodIn_app (goodIn_of _ (by decide +kernel)) ggX2_isEven_J6_bitCount_0f7a4
set_option maxRecDepth 20000 in
theorem ggX2_isEven_X2_sumOf : GoodIn wsX2_isEven wsX2_sumOf := goodIn_r _ [18, 19, 20, 21] (by decide +kernel) (by decide +kernel)
set_option maxRecDepth 20000 in
theorem gX2_isEven_X2_sumOf : GoodIn wsX2_isEven (va_wsS RX2 54 yX2_sumOf wsX2_sumOf) := goodIn_app (goodIn_of _ (by decide +kernel)) ggX2_isEven_X2_sumOf
theorem dX2_isEven_0 : decode cX2_isEven 0 = .ok (.aload_n 0, 1) := by decide +kernel
theorem dX2_isEven_1 : decode cX2_isEven 1 = .ok (.invokevirtual 45, 3) := by decide +kernel
theorem dX2_isEven_4 : decode cX2_isEven 4 = .ok (.istore_n 1, 1) := by decide +kernel
theorem dX2_isEven_5 : decode cX2_isEven 5 = .ok (.iload_n 1, 1) := by decide +kernel
theorem dX2_isEven_6 : decode cX2_isEven 6 = .ok (.invokestatic 49, 3) := by decide +kernel
theorem dX2_isEven_9 : decode cX2_isEven 9 = .ok (.iconst 2, 1) := by decide +kernel
theorem dX2_isEven_10 : decode cX2_isEven 10 = .ok (.aload_n 0, 1) := by decide +kernel
theorem dX2_isEven_11 : decode cX2_isEven 11 = .ok (.getfield 18, 3) := by decide +kernel
theorem dX2_isEven_14 : decode cX2_isEven 14 = .ok (.invokestatic 49, 3) := by decide +kernel
theorem dX2_isEven_17 : decode cX2_isEven 17 = .ok (.imul, 1) := by decide +kernel
theorem dX2_isEven_18 : decode cX2_isEven 18 = .ok (.if_icmp .ne 24, 3) := by decide +kernel
theorem dX2_isEven_21 : decode cX2_isEven 21 = .ok (.iload_n 1, 1) := by decide +kernel
theorem dX2_isEven_22 : decode cX2_isEven 22 = .ok (.invokestatic 54, 3) := by decide +kernel
theorem dX2_isEven_25 : decode cX2_isEven 25 = .ok (.aload_n 0, 1) := by decide +kernel
theorem dX2_isEven_26 : decode cX2_isEven 26 = .ok (.getfield 18, 3) := by decide +kernel
theorem dX2_isEven_29 : decode cX2_isEven 29 = .ok (.invokestatic 54, 3) := by decide +kernel
theorem dX2_isEven_32 : decode cX2_isEven 32 = .ok (.isub, 1) := by decide +kernel
theorem dX2_isEven_33 : decode cX2_isEven 33 = .ok (.iconst 2, 1) := by decide +kernel
theorem dX2_isEven_34 : decode cX2_isEven 34 = .ok (.irem, 1) := by decide +kernel
theorem dX2_isEven_35 : decode cX2_isEven 35 = .ok (.ifCond .ne 7, 3) := by decide +kernel
theorem dX2_isEven_38 : decode cX2_isEven 38 = .ok (.iconst 1, 1) := by decide +kernel
theorem dX2_isEven_39 : decode cX2_isEven 39 = .ok (.goto 4, 3) := by decide +kernel
theorem dX2_isEven_42 : decode cX2_isEven 42 = .ok (.iconst 0, 1) := by decide +kernel
theorem dX2_isEven_43 : decode cX2_isEven 43 = .ok (.ireturn, 1) := by decide +kernel
set_option maxRecDepth 20000 in
theorem ggX2_sumOf_X6_bit : GoodIn wsX2_sumOf wsX6_bit := goodIn_r _ [3] (by decide +kernel) (by decide +kernel)
set_option maxRecDepth 20000 in
theorem gX2_sumOf_X6_bit_n41 : GoodIn wsX2_sumOf (wsX6_bit) := ggX2_sumOf_X6_bit
theorem dX2_sumOf_0 : decode cX2_sumOf 0 = .ok (.iconst 0, 1) := by decide +kernel
theorem dX2_sumOf_1 : decode cX2_sumOf 1 = .ok (.istore_n 1, 1) := by decide +kernel
theorem dX2_sumOf_2 : decode cX2_sumOf 2 = .ok (.iconst 1, 1) := by decide +kernel
theorem dX2_sumOf_3 : decode cX2_sumOf 3 = .ok (.istore_n 2, 1) := by decide +kernel
theorem dX2_sumOf_4 : decode cX2_sumOf 4 = .ok (.iload_n 2, 1) := by decide +kernel
theorem dX2_sumOf_5 : decode cX2_sumOf 5 = .ok (.bipush 18, 2) := by decide +kernel
theorem dX2_sumOf_7 : decode cX2_sumOf 7 = .ok (.if_icmp .gt 22, 3) := by decide +kernel
theorem dX2_sumOf_10 : decode cX2_sumOf 10 = .ok (.iload_n 0, 1) := by decide +kernel
theorem dX2_sumOf_11 : decode cX2_sumOf 11 = .ok (.iload_n 2, 1) := by decide +kernel
theorem dX2_sumOf_12 : decode cX2_sumOf 12 = .ok (.invokestatic 41, 3) := by decide +kernel
theorem dX2_sumOf_15 : decode cX2_sumOf 15 = .ok (.iand, 1) := by decide +kernel
theorem dX2_sumOf_16 : decode cX2_sumOf 16 = .ok (.ifCond .eq 7, 3) := by decide +kernel
theorem dX2_sumOf_19 : decode cX2_sumOf 19 = .ok (.iload_n 1, 1) := by decide +kernel
theorem dX2_sumOf_20 : decode cX2_sumOf 20 = .ok (.iload_n 2, 1) := by decide +kernel
theorem dX2_sumOf_21 : decode cX2_sumOf 21 = .ok (.iadd, 1) := by decide +kernel
theorem dX2_sumOf_22 : decode cX2_sumOf 22 = .ok (.istore_n 1, 1) := by decide +kernel
theorem dX2_sumOf_23 : decode cX2_sumOf 23 = .ok (.iinc 2 1, 3) := by decide +kernel
theorem dX2_sumOf_26 : decode cX2_sumOf 26 = .ok (.goto (-22), 3) := by decide +kernel
theorem dX2_sumOf_29 : decode cX2_sumOf 29 = .ok (.iload_n 1, 1) := by decide +kernel
theorem dX2_sumOf_30 : decode cX2_sumOf 30 = .ok (.ireturn, 1) := by decide +kernel
set_option maxRecDepth 20000 in
theorem ggX2_distanceOf_X2_hasPair : GoodIn wsX2_distanceOf wsX2_hasPair := goodIn_r _ [5, 6, 7, 8, 9, 10, 11, 12, 13] (by decide +kernel) (by decide +kernel)
set_option maxRecDepth 20000 in
theorem gX2_distanceOf_X2_hasPair : GoodIn wsX2_distanceOf (wsV RX2 57 RX2 yX2_hasPair wsX2_hasPair) := goodIn_app (goodIn_of _ (by decide +kernel)) ggX2_distanceOf_X2_hasPair
theorem dX2_distanceOf_0 : decode cX2_distanceOf 0 = .ok (.iconst 0, 1) := by decide +kernel
theorem dX2_distanceOf_1 : decode cX2_distanceOf 1 = .ok (.istore_n 2, 1) := by decide +kernel
theorem dX2_distanceOf_2 : decode cX2_distanceOf 2 = .ok (.iconst 1, 1) := by decide +kernel
theorem dX2_distanceOf_3 : decode cX2_distanceOf 3 = .ok (.istore_n 3, 1) := by decide +kernel
theorem dX2_distanceOf_4 : decode cX2_distanceOf 4 = .ok (.iload_n 3, 1) := by decide +kernel
theorem dX2_distanceOf_5 : decode cX2_distanceOf 5 = .ok (.bipush 15, 2) := by decide +kernel
theorem dX2_distanceOf_7 : decode cX2_distanceOf 7 = .ok (.if_icmp .gt 27, 3) := by decide +kernel
theorem dX2_distanceOf_10 : decode cX2_distanceOf 10 = .ok (.aload_n 0, 1) := by decide +kernel
theorem dX2_distanceOf_11 : decode cX2_distanceOf 11 = .ok (.iload_n 3, 1) := by decide +kernel
theorem dX2_distanceOf_12 : decode cX2_distanceOf 12 = .ok (.invokevirtual 57, 3) := by decide +kernel
theorem dX2_distanceOf_15 : decode cX2_distanceOf 15 = .ok (.ifCond .eq 13, 3) := by decide +kernel
theorem dX2_distanceOf_18 : decode cX2_distanceOf 18 = .ok (.iload_n 2, 1) := by decide +kernel
theorem dX2_distanceOf_19 : decode cX2_distanceOf 19 = .ok (.iload_n 1, 1) := by decide +kernel
theorem dX2_distanceOf_20 : decode cX2_distanceOf 20 = .ok (.if_icmp .ne 5, 3) := by decide +kernel
theorem dX2_distanceOf_23 : decode cX2_distanceOf 23 = .ok (.iload_n 3, 1) := by decide +kernel
theorem dX2_distanceOf_24 : decode cX2_distanceOf 24 = .ok (.ireturn, 1) := by decide +kernel
theorem dX2_distanceOf_25 : decode cX2_distanceOf 25 = .ok (.iinc 2 1, 3) := by decide +kernel
theorem dX2_distanceOf_28 : decode cX2_distanceOf 28 = .ok (.iinc 3 1, 3) := by decide +kernel
theorem dX2_distanceOf_31 : decode cX2_distanceOf 31 = .ok (.goto (-27), 3) := by decide +kernel
theorem dX2_distanceOf_34 : decode cX2_distanceOf 34 = .ok (.iconst (-1), 1) := by decide +kernel
theorem dX2_distanceOf_35 : decode cX2_distanceOf 35 = .ok (.ireturn, 1) := by decide +kernel
set_option maxRecDepth 20000 in
theorem ggX2_setHole_X2_hasPlace : GoodIn wsX2_setHole wsX2_hasPlace := goodIn_r _ [6, 7, 27, 28, 29, 30] (by decide +kernel) (by decide +kernel)
set_option maxRecDepth 20000 in
theorem gX2_setHole_X2_hasPlace : GoodIn wsX2_setHole (wsV RX2 37 RX2 yX2_hasPlace wsX2_hasPlace) := goodIn_app (goodIn_of _ (by decide +kernel)) ggX2_setHole_X2_hasPlace
set_option maxRecDepth 20000 in
theorem ggX2_setHole_X2_hasHole : GoodIn wsX2_setHole wsX2_hasHole := goodIn_r _ [11, 1, 2, 3, 4, 5, 6, 7, 12, 13, 14, 27, 28, 29, 30] (by decide +kernel) (by decide +kernel)
set_option maxRecDepth 20000 in
theorem gX2_setHole_X2_hasHole : GoodIn wsX2_setHole (wsV RX2 60 RX2 yX2_hasHole wsX2_hasHole) := goodIn_app (goodIn_of _ (by decide +kernel)) ggX2_setHole_X2_hasHole
set_option maxRecDepth 20000 in
theorem ggX2_setHole_X2_pinnedPlaces : GoodIn wsX2_setHole wsX2_pinnedPlaces := goodIn_r _ [18, 19, 12, 13, 14, 27, 28, 29, 30] (by decide +kernel) (by decide +kernel)
set_option maxRecDepth 20000 in
theorem gX2_setHole_X2_pinnedPlaces : GoodIn wsX2_setHole (wsV RX2 63 RX2 yX2_pinnedPlaces wsX2_pinnedPlaces) := goodIn_app (goodIn_of _ (by decide +kernel)) ggX2_setHole_X2_pinnedPlaces
set_option maxRecDepth 20000 in
theorem ggX2_setHole_X6_bit : GoodIn wsX2_setHole wsX6_bit := goodIn_r _ [14] (by decide +kernel) (by decide +kernel)
set_option maxRecDepth 20000 in
theorem gX2_setHole_X6_bit_n41 : GoodIn wsX2_setHole (wsX6_bit) := ggX2_setHole_X6_bit
set_option maxRecDepth 20000 in
theorem ggX2_setHole_J6_bitCount_0f7a4 : GoodIn wsX2_setHole wsJ6_bitCount_0f7a4 := goodIn_r _ [23, 24, 25, 26] (by decide +kernel) (by decide +kernel)
set_option maxRecDepth 20000 in
theorem gX2_setHole_J6_bitCount_0f7a4 : GoodIn wsX2_setHole (va_wsS RX2 49 yJ6_bitCount_0f7a4 wsJ6_bitCount_0f7a4) := goodIn_app (goodIn_of _ (by decide +kernel)) ggX2_setHole_J6_bitCount_0f7a4
theorem dX2_setHole_0 : decode cX2_setHole 0 = .ok (.aload_n 0, 1) := by decide +kernel
theorem dX2_setHole_1 : decode cX2_setHole 1 = .ok (.iload_n 1, 1) := by decide +kernel
theorem dX2_setHole_2 : decode cX2_setHole 2 = .ok (.invokevirtual 37, 3) := by decide +kernel
theorem dX2_setHole_5 : decode cX2_setHole 5 = .ok (.ifCond .eq 25, 3) := by decide +kernel
theorem dX2_setHole_8 : decode cX2_setHole 8 = .ok (.aload_n 0, 1) := by decide +kernel
theorem dX2_setHole_9 : decode cX2_setHole 9 = .ok (.iload_n 1, 1) := by decide +kernel
theorem dX2_setHole_10 : decode cX2_setHole 10 = .ok (.invokevirtual 60, 3) := by decide +kernel
theorem dX2_setHole_13 : decode cX2_setHole 13 = .ok (.iload_n 2, 1) := by decide +kernel
theorem dX2_setHole_14 : decode cX2_setHole 14 = .ok (.if_icmp .eq 16, 3) := by decide +kernel
theorem dX2_setHole_17 : decode cX2_setHole 17 = .ok (.aload_n 0, 1) := by decide +kernel
theorem dX2_setHole_18 : decode cX2_setHole 18 = .ok (.iconst 0, 1) := by decide +kernel
theorem dX2_setHole_19 : decode cX2_setHole 19 = .ok (.invokevirtual 63, 3) := by decide +kernel
theorem dX2_setHole_22 : decode cX2_setHole 22 = .ok (.iload_n 1, 1) := by decide +kernel
theorem dX2_setHole_23 : decode cX2_setHole 23 = .ok (.invokestatic 41, 3) := by decide +kernel
theorem dX2_setHole_26 : decode cX2_setHole 26 = .ok (.iand, 1) := by decide +kernel
theorem dX2_setHole_27 : decode cX2_setHole 27 = .ok (.ifCond .eq 5, 3) := by decide +kernel
theorem dX2_setHole_30 : decode cX2_setHole 30 = .ok (.iconst (-1), 1) := by decide +kernel
theorem dX2_setHole_31 : decode cX2_setHole 31 = .ok (.ireturn, 1) := by decide +kernel
theorem dX2_setHole_32 : decode cX2_setHole 32 = .ok (.aload_n 0, 1) := by decide +kernel
theorem dX2_setHole_33 : decode cX2_setHole 33 = .ok (.dup, 1) := by decide +kernel
theorem dX2_setHole_34 : decode cX2_setHole 34 = .ok (.getfield 15, 3) := by decide +kernel
theorem dX2_setHole_37 : decode cX2_setHole 37 = .ok (.iload_n 1, 1) := by decide +kernel
theorem dX2_setHole_38 : decode cX2_setHole 38 = .ok (.invokestatic 41, 3) := by decide +kernel
theorem dX2_setHole_41 : decode cX2_setHole 41 = .ok (.ixor, 1) := by decide +kernel
theorem dX2_setHole_42 : decode cX2_setHole 42 = .ok (.putfield 15, 3) := by decide +kernel
theorem dX2_setHole_45 : decode cX2_setHole 45 = .ok (.aload_n 0, 1) := by decide +kernel
theorem dX2_setHole_46 : decode cX2_setHole 46 = .ok (.getfield 15, 3) := by decide +kernel
theorem dX2_setHole_49 : decode cX2_setHole 49 = .ok (.invokestatic 49, 3) := by decide +kernel
theorem dX2_setHole_52 : decode cX2_setHole 52 = .ok (.ireturn, 1) := by decide +kernel
set_option maxRecDepth 20000 in
theorem ggX2_setPair_X2_hasPair : GoodIn wsX2_setPair wsX2_hasPair := goodIn_r _ [7, 1, 8, 9, 10, 18, 19, 20, 21] (by decide +kernel) (by decide +kernel)
set_option maxRecDepth 20000 in
theorem gX2_setPair_X2_hasPair : GoodIn wsX2_setPair (wsV RX2 57 RX2 yX2_hasPair wsX2_hasPair) := goodIn_app (goodIn_of _ (by decide +kernel)) ggX2_setPair_X2_hasPair
set_option maxRecDepth 20000 in
theorem ggX2_setPair_J6_bitCount_0f7a4 : GoodIn wsX2_setPair wsJ6_bitCount_0f7a4 := goodIn_r _ [14, 15, 16, 17] (by decide +kernel) (by decide +kernel)
set_option maxRecDepth 20000 in
theorem gX2_setPair_J6_bitCount_0f7a4 : GoodIn wsX2_setPair (va_wsS RX2 49 yJ6_bitCount_0f7a4 wsJ6_bitCount_0f7a4) := goodIn_app (goodIn_of _ (by decide +kernel)) ggX2_setPair_J6_bitCount_0f7a4
set_option maxRecDepth 20000 in
theorem ggX2_setPair_X6_bit : GoodIn wsX2_setPair wsX6_bit := goodIn_r _ [10] (by decide +kernel) (by decide +kernel)
set_option maxRecDepth 20000 in
theorem gX2_setPair_X6_bit_n41 : GoodIn wsX2_setPair (wsX6_bit) := ggX2_setPair_X6_bit
theorem dX2_setPair_0 : decode cX2_setPair 0 = .ok (.iload_n 1, 1) := by decide +kernel
theorem dX2_setPair_1 : decode cX2_setPair 1 = .ok (.iconst 1, 1) := by decide +kernel
theorem dX2_setPair_2 : decode cX2_setPair 2 = .ok (.if_icmp .lt 18, 3) := by decide +kernel
theorem dX2_setPair_5 : decode cX2_setPair 5 = .ok (.iload_n 1, 1) := by decide +kernel
theorem dX2_setPair_6 : decode cX2_setPair 6 = .ok (.bipush 15, 2) := by decide +kernel
theorem dX2_setPair_8 : decode cX2_setPair 8 = .ok (.if_icmp .gt 12, 3) := by decide +kernel
theorem dX2_setPair_11 : decode cX2_setPair 11 = .ok (.aload_n 0, 1) := by decide +kernel
theorem dX2_setPair_12 : decode cX2_setPair 12 = .ok (.iload_n 1, 1) := by decide +kernel
theorem dX2_setPair_13 : decode cX2_setPair 13 = .ok (.invokevirtual 57, 3) := by decide +kernel
theorem dX2_setPair_16 : decode cX2_setPair 16 = .ok (.iload_n 2, 1) := by decide +kernel
theorem dX2_setPair_17 : decode cX2_setPair 17 = .ok (.if_icmp .ne 5, 3) := by decide +kernel
theorem dX2_setPair_20 : decode cX2_setPair 20 = .ok (.iconst (-1), 1) := by decide +kernel
theorem dX2_setPair_21 : decode cX2_setPair 21 = .ok (.ireturn, 1) := by decide +kernel
theorem dX2_setPair_22 : decode cX2_setPair 22 = .ok (.iload_n 2, 1) := by decide +kernel
theorem dX2_setPair_23 : decode cX2_setPair 23 = .ok (.ifCond .eq 17, 3) := by decide +kernel
theorem dX2_setPair_26 : decode cX2_setPair 26 = .ok (.aload_n 0, 1) := by decide +kernel
theorem dX2_setPair_27 : decode cX2_setPair 27 = .ok (.getfield 18, 3) := by decide +kernel
theorem dX2_setPair_30 : decode cX2_setPair 30 = .ok (.invokestatic 49, 3) := by decide +kernel
theorem dX2_setPair_33 : decode cX2_setPair 33 = .ok (.bipush 9, 2) := by decide +kernel
theorem dX2_setPair_35 : decode cX2_setPair 35 = .ok (.if_icmp .lt 5, 3) := by decide +kernel
theorem dX2_setPair_38 : decode cX2_setPair 38 = .ok (.iconst (-1), 1) := by decide +kernel
theorem dX2_setPair_39 : decode cX2_setPair 39 = .ok (.ireturn, 1) := by decide +kernel
theorem dX2_setPair_40 : decode cX2_setPair 40 = .ok (.aload_n 0, 1) := by decide +kernel
theorem dX2_setPair_41 : decode cX2_setPair 41 = .ok (.dup, 1) := by decide +kernel
theorem dX2_setPair_42 : decode cX2_setPair 42 = .ok (.getfield 18, 3) := by decide +kernel
theorem dX2_setPair_45 : decode cX2_setPair 45 = .ok (.iload_n 1, 1) := by decide +kernel
theorem dX2_setPair_46 : decode cX2_setPair 46 = .ok (.invokestatic 41, 3) := by decide +kernel
theorem dX2_setPair_49 : decode cX2_setPair 49 = .ok (.ixor, 1) := by decide +kernel
theorem dX2_setPair_50 : decode cX2_setPair 50 = .ok (.putfield 18, 3) := by decide +kernel
theorem dX2_setPair_53 : decode cX2_setPair 53 = .ok (.aload_n 0, 1) := by decide +kernel
theorem dX2_setPair_54 : decode cX2_setPair 54 = .ok (.getfield 21, 3) := by decide +kernel
theorem dX2_setPair_57 : decode cX2_setPair 57 = .ok (.iload_n 1, 1) := by decide +kernel
theorem dX2_setPair_58 : decode cX2_setPair 58 = .ok (.iconst 0, 1) := by decide +kernel
theorem dX2_setPair_59 : decode cX2_setPair 59 = .ok (.iastore, 1) := by decide +kernel
theorem dX2_setPair_60 : decode cX2_setPair 60 = .ok (.aload_n 0, 1) := by decide +kernel
theorem dX2_setPair_61 : decode cX2_setPair 61 = .ok (.getfield 18, 3) := by decide +kernel
theorem dX2_setPair_64 : decode cX2_setPair 64 = .ok (.invokestatic 49, 3) := by decide +kernel
theorem dX2_setPair_67 : decode cX2_setPair 67 = .ok (.ireturn, 1) := by decide +kernel
set_option maxRecDepth 20000 in
theorem ggX2_setPin_X2_hasPair : GoodIn wsX2_setPin wsX2_hasPair := goodIn_r _ [7, 8, 9, 10, 11, 21, 22, 23, 24] (by decide +kernel) (by decide +kernel)
set_option maxRecDepth 20000 in
theorem gX2_setPin_X2_hasPair : GoodIn wsX2_setPin (wsV RX2 57 RX2 yX2_hasPair wsX2_hasPair) := goodIn_app (goodIn_of _ (by decide +kernel)) ggX2_setPin_X2_hasPair
set_option maxRecDepth 20000 in
theorem ggX2_setPin_X2_hasPlace : GoodIn wsX2_setPin wsX2_hasPlace := goodIn_r _ [15, 16, 21, 22, 23, 24] (by decide +kernel) (by decide +kernel)
set_option maxRecDepth 20000 in
theorem gX2_setPin_X2_hasPlace : GoodIn wsX2_setPin (wsV RX2 37 RX2 yX2_hasPlace wsX2_hasPlace) := goodIn_app (goodIn_of _ (by decide +kernel)) ggX2_setPin_X2_hasPlace
set_option maxRecDepth 20000 in
theorem ggX2_setPin_X2_pinnedPlaces : GoodIn wsX2_setPin wsX2_pinnedPlaces := goodIn_r _ [20, 1, 9, 10, 11, 21, 22, 23, 24] (by decide +kernel) (by decide +kernel)
set_option maxRecDepth 20000 in
theorem gX2_setPin_X2_pinnedPlaces : GoodIn wsX2_setPin (wsV RX2 63 RX2 yX2_pinnedPlaces wsX2_pinnedPlaces) := goodIn_app (goodIn_of _ (by decide +kernel)) ggX2_setPin_X2_pinnedPlaces
set_option maxRecDepth 20000 in
theorem ggX2_setPin_X6_bit : GoodIn wsX2_setPin wsX6_bit := goodIn_r _ [11] (by decide +kernel) (by decide +kernel)
set_option maxRecDepth 20000 in
theorem gX2_setPin_X6_bit_n41 : GoodIn wsX2_setPin (wsX6_bit) := ggX2_setPin_X6_bit
theorem dX2_setPin_0 : decode cX2_setPin 0 = .ok (.aload_n 0, 1) := by decide +kernel
theorem dX2_setPin_1 : decode cX2_setPin 1 = .ok (.iload_n 1, 1) := by decide +kernel
theorem dX2_setPin_2 : decode cX2_setPin 2 = .ok (.invokevirtual 57, 3) := by decide +kernel
theorem dX2_setPin_5 : decode cX2_setPin 5 = .ok (.ifCond .eq 25, 3) := by decide +kernel
theorem dX2_setPin_8 : decode cX2_setPin 8 = .ok (.iload_n 2, 1) := by decide +kernel
theorem dX2_setPin_9 : decode cX2_setPin 9 = .ok (.ifCond .eq 23, 3) := by decide +kernel
theorem dX2_setPin_12 : decode cX2_setPin 12 = .ok (.aload_n 0, 1) := by decide +kernel
theorem dX2_setPin_13 : decode cX2_setPin 13 = .ok (.iload_n 2, 1) := by decide +kernel
theorem dX2_setPin_14 : decode cX2_setPin 14 = .ok (.invokevirtual 37, 3) := by decide +kernel
theorem dX2_setPin_17 : decode cX2_setPin 17 = .ok (.ifCond .eq 13, 3) := by decide +kernel
theorem dX2_setPin_20 : decode cX2_setPin 20 = .ok (.aload_n 0, 1) := by decide +kernel
theorem dX2_setPin_21 : decode cX2_setPin 21 = .ok (.iload_n 2, 1) := by decide +kernel
theorem dX2_setPin_22 : decode cX2_setPin 22 = .ok (.iload_n 1, 1) := by decide +kernel
theorem dX2_setPin_23 : decode cX2_setPin 23 = .ok (.iadd, 1) := by decide +kernel
theorem dX2_setPin_24 : decode cX2_setPin 24 = .ok (.invokevirtual 37, 3) := by decide +kernel
theorem dX2_setPin_27 : decode cX2_setPin 27 = .ok (.ifCond .ne 5, 3) := by decide +kernel
theorem dX2_setPin_30 : decode cX2_setPin 30 = .ok (.iconst (-1), 1) := by decide +kernel
theorem dX2_setPin_31 : decode cX2_setPin 31 = .ok (.ireturn, 1) := by decide +kernel
theorem dX2_setPin_32 : decode cX2_setPin 32 = .ok (.aload_n 0, 1) := by decide +kernel
theorem dX2_setPin_33 : decode cX2_setPin 33 = .ok (.getfield 21, 3) := by decide +kernel
theorem dX2_setPin_36 : decode cX2_setPin 36 = .ok (.iload_n 1, 1) := by decide +kernel
theorem dX2_setPin_37 : decode cX2_setPin 37 = .ok (.iaload, 1) := by decide +kernel
theorem dX2_setPin_38 : decode cX2_setPin 38 = .ok (.iload_n 2, 1) := by decide +kernel
theorem dX2_setPin_39 : decode cX2_setPin 39 = .ok (.if_icmp .ne 5, 3) := by decide +kernel
theorem dX2_setPin_42 : decode cX2_setPin 42 = .ok (.iconst 1, 1) := by decide +kernel
theorem dX2_setPin_43 : decode cX2_setPin 43 = .ok (.ireturn, 1) := by decide +kernel
theorem dX2_setPin_44 : decode cX2_setPin 44 = .ok (.iload_n 2, 1) := by decide +kernel
theorem dX2_setPin_45 : decode cX2_setPin 45 = .ok (.ifCond .eq 30, 3) := by decide +kernel
theorem dX2_setPin_48 : decode cX2_setPin 48 = .ok (.aload_n 0, 1) := by decide +kernel
theorem dX2_setPin_49 : decode cX2_setPin 49 = .ok (.getfield 15, 3) := by decide +kernel
theorem dX2_setPin_52 : decode cX2_setPin 52 = .ok (.aload_n 0, 1) := by decide +kernel
theorem dX2_setPin_53 : decode cX2_setPin 53 = .ok (.iload_n 1, 1) := by decide +kernel
theorem dX2_setPin_54 : decode cX2_setPin 54 = .ok (.invokevirtual 63, 3) := by decide +kernel
theorem dX2_setPin_57 : decode cX2_setPin 57 = .ok (.ior, 1) := by decide +kernel
theorem dX2_setPin_58 : decode cX2_setPin 58 = .ok (.iload_n 2, 1) := by decide +kernel
theorem dX2_setPin_59 : decode cX2_setPin 59 = .ok (.invokestatic 41, 3) := by decide +kernel
theorem dX2_setPin_62 : decode cX2_setPin 62 = .ok (.iload_n 2, 1) := by decide +kernel
theorem dX2_setPin_63 : decode cX2_setPin 63 = .ok (.iload_n 1, 1) := by decide +kernel
theorem dX2_setPin_64 : decode cX2_setPin 64 = .ok (.iadd, 1) := by decide +kernel
theorem dX2_setPin_65 : decode cX2_setPin 65 = .ok (.invokestatic 41, 3) := by decide +kernel
theorem dX2_setPin_68 : decode cX2_setPin 68 = .ok (.ior, 1) := by decide +kernel
theorem dX2_setPin_69 : decode cX2_setPin 69 = .ok (.iand, 1) := by decide +kernel
theorem dX2_setPin_70 : decode cX2_setPin 70 = .ok (.ifCond .eq 5, 3) := by decide +kernel
theorem dX2_setPin_73 : decode cX2_setPin 73 = .ok (.iconst 2, 1) := by decide +kernel
theorem dX2_setPin_74 : decode cX2_setPin 74 = .ok (.ireturn, 1) := by decide +kernel
theorem dX2_setPin_75 : decode cX2_setPin 75 = .ok (.aload_n 0, 1) := by decide +kernel
theorem dX2_setPin_76 : decode cX2_setPin 76 = .ok (.getfield 21, 3) := by decide +kernel
theorem dX2_setPin_79 : decode cX2_setPin 79 = .ok (.iload_n 1, 1) := by decide +kernel
theorem dX2_setPin_80 : decode cX2_setPin 80 = .ok (.iload_n 2, 1) := by decide +kernel
theorem dX2_setPin_81 : decode cX2_setPin 81 = .ok (.iastore, 1) := by decide +kernel
theorem dX2_setPin_82 : decode cX2_setPin 82 = .ok (.iconst 0, 1) := by decide +kernel
theorem dX2_setPin_83 : decode cX2_setPin 83 = .ok (.ireturn, 1) := by decide +kernel
theorem dX3_init_0 : decode cX3_init 0 = .ok (.aload_n 0, 1) := by decide +kernel
theorem dX3_init_1 : decode cX3_init 1 = .ok (.invokespecial 3, 3) := by decide +kernel
theorem dX3_init_4 : decode cX3_init 4 = .ok (.aload_n 0, 1) := by decide +kernel
theorem dX3_init_5 : decode cX3_init 5 = .ok (.bipush 8, 2) := by decide +kernel
theorem dX3_init_7 : decode cX3_init 7 = .ok (.anewarray 9, 3) := by decide +kernel
theorem dX3_init_10 : decode cX3_init 10 = .ok (.putfield 11, 3) := by decide +kernel
theorem dX3_init_13 : decode cX3_init 13 = .ok (.aload_n 0, 1) := by decide +kernel
theorem dX3_init_14 : decode cX3_init 14 = .ok (.iconst 0, 1) := by decide +kernel
theorem dX3_init_15 : decode cX3_init 15 = .ok (.putfield 17, 3) := by decide +kernel
theorem dX3_init_18 : decode cX3_init 18 = .ok (.aload_n 0, 1) := by decide +kernel
theorem dX3_init_19 : decode cX3_init 19 = .ok (.iconst 0, 1) := by decide +kernel
theorem dX3_init_20 : decode cX3_init 20 = .ok (.putfield 21, 3) := by decide +kernel
theorem dX3_init_23 : decode cX3_init 23 = .ok (.return_, 1) := by decide +kernel
set_option maxRecDepth 20000 in
theorem ggX3_keep_X2_init : GoodIn wsX3_keep wsX2_init := goodIn_r _ [12, 13, 14, 15, 16, 17, 18, 19, 20, 32, 33, 34, 35] (by decide +kernel) (by decide +kernel)
set_option maxRecDepth 20000 in
theorem gX3_keep_X2_init_n24 : GoodIn wsX3_keep (wsX2_init) := ggX3_keep_X2_init
set_option maxRecDepth 20000 in
theorem ggX3_keep_X2_copy : GoodIn wsX3_keep wsX2_copy := goodIn_r _ [24, 16, 17, 18, 20, 25, 26, 27, 28, 32, 33, 34, 35] (by decide +kernel) (by decide +kernel)
set_option maxRecDepth 20000 in
theorem gX3_keep_X2_copy : GoodIn wsX3_keep (wsV RX3 25 RX2 yX2_copy wsX2_copy) := goodIn_app (goodIn_of _ (by decide +kernel)) ggX3_keep_X2_copy
theorem dX3_keep_0 : decode cX3_keep 0 = .ok (.aload_n 0, 1) := by decide +kernel
theorem dX3_keep_1 : decode cX3_keep 1 = .ok (.aload_n 0, 1) := by decide +kernel
theorem dX3_keep_2 : decode cX3_keep 2 = .ok (.getfield 17, 3) := by decide +kernel
theorem dX3_keep_5 : decode cX3_keep 5 = .ok (.iconst 1, 1) := by decide +kernel
theorem dX3_keep_6 : decode cX3_keep 6 = .ok (.iadd, 1) := by decide +kernel
theorem dX3_keep_7 : decode cX3_keep 7 = .ok (.bipush 8, 2) := by decide +kernel
theorem dX3_keep_9 : decode cX3_keep 9 = .ok (.irem, 1) := by decide +kernel
theorem dX3_keep_10 : decode cX3_keep 10 = .ok (.putfield 17, 3) := by decide +kernel
theorem dX3_keep_13 : decode cX3_keep 13 = .ok (.aload_n 0, 1) := by decide +kernel
theorem dX3_keep_14 : decode cX3_keep 14 = .ok (.getfield 11, 3) := by decide +kernel
theorem dX3_keep_17 : decode cX3_keep 17 = .ok (.aload_n 0, 1) := by decide +kernel
theorem dX3_keep_18 : decode cX3_keep 18 = .ok (.getfield 17, 3) := by decide +kernel
theorem dX3_keep_21 : decode cX3_keep 21 = .ok (.aaload, 1) := by decide +kernel
theorem dX3_keep_22 : decode cX3_keep 22 = .ok (.ifnonnull 19, 3) := by decide +kernel
theorem dX3_keep_25 : decode cX3_keep 25 = .ok (.aload_n 0, 1) := by decide +kernel
theorem dX3_keep_26 : decode cX3_keep 26 = .ok (.getfield 11, 3) := by decide +kernel
theorem dX3_keep_29 : decode cX3_keep 29 = .ok (.aload_n 0, 1) := by decide +kernel
theorem dX3_keep_30 : decode cX3_keep 30 = .ok (.getfield 17, 3) := by decide +kernel
theorem dX3_keep_33 : decode cX3_keep 33 = .ok (.new 9, 3) := by decide +kernel
theorem dX3_keep_36 : decode cX3_keep 36 = .ok (.dup, 1) := by decide +kernel
theorem dX3_keep_37 : decode cX3_keep 37 = .ok (.invokespecial 24, 3) := by decide +kernel
theorem dX3_keep_40 : decode cX3_keep 40 = .ok (.aastore, 1) := by decide +kernel
theorem dX3_keep_41 : decode cX3_keep 41 = .ok (.aload_n 0, 1) := by decide +kernel
theorem dX3_keep_42 : decode cX3_keep 42 = .ok (.getfield 11, 3) := by decide +kernel
theorem dX3_keep_45 : decode cX3_keep 45 = .ok (.aload_n 0, 1) := by decide +kernel
theorem dX3_keep_46 : decode cX3_keep 46 = .ok (.getfield 17, 3) := by decide +kernel
theorem dX3_keep_49 : decode cX3_keep 49 = .ok (.aaload, 1) := by decide +kernel
theorem dX3_keep_50 : decode cX3_keep 50 = .ok (.aload_n 1, 1) := by decide +kernel
theorem dX3_keep_51 : decode cX3_keep 51 = .ok (.invokevirtual 25, 3) := by decide +kernel
theorem dX3_keep_54 : decode cX3_keep 54 = .ok (.aload_n 0, 1) := by decide +kernel
theorem dX3_keep_55 : decode cX3_keep 55 = .ok (.aload_n 0, 1) := by decide +kernel
theorem dX3_keep_56 : decode cX3_keep 56 = .ok (.getfield 21, 3) := by decide +kernel
theorem dX3_keep_59 : decode cX3_keep 59 = .ok (.iconst 1, 1) := by decide +kernel
theorem dX3_keep_60 : decode cX3_keep 60 = .ok (.iadd, 1) := by decide +kernel
theorem dX3_keep_61 : decode cX3_keep 61 = .ok (.bipush 8, 2) := by decide +kernel
theorem dX3_keep_63 : decode cX3_keep 63 = .ok (.invokestatic 29, 3) := by decide +kernel
theorem dX3_keep_66 : decode cX3_keep 66 = .ok (.putfield 21, 3) := by decide +kernel
theorem dX3_keep_69 : decode cX3_keep 69 = .ok (.return_, 1) := by decide +kernel
set_option maxRecDepth 20000 in
theorem ggX3_takeLatest_X2_copy : GoodIn wsX3_takeLatest wsX2_copy := goodIn_r _ [8, 9, 10, 11, 12, 13, 14, 15, 16, 20, 21, 22, 23] (by decide +kernel) (by decide +kernel)
set_option maxRecDepth 20000 in
theorem gX3_takeLatest_X2_copy : GoodIn wsX3_takeLatest (wsV RX3 25 RX2 yX2_copy wsX2_copy) := goodIn_app (goodIn_of _ (by decide +kernel)) ggX3_takeLatest_X2_copy
theorem dX3_takeLatest_0 : decode cX3_takeLatest 0 = .ok (.aload_n 0, 1) := by decide +kernel
theorem dX3_takeLatest_1 : decode cX3_takeLatest 1 = .ok (.getfield 21, 3) := by decide +kernel
theorem dX3_takeLatest_4 : decode cX3_takeLatest 4 = .ok (.ifCond .eq 15, 3) := by decide +kernel
theorem dX3_takeLatest_7 : decode cX3_takeLatest 7 = .ok (.aload_n 0, 1) := by decide +kernel
theorem dX3_takeLatest_8 : decode cX3_takeLatest 8 = .ok (.getfield 11, 3) := by decide +kernel
theorem dX3_takeLatest_11 : decode cX3_takeLatest 11 = .ok (.aload_n 0, 1) := by decide +kernel
theorem dX3_takeLatest_12 : decode cX3_takeLatest 12 = .ok (.getfield 17, 3) := by decide +kernel
theorem dX3_takeLatest_15 : decode cX3_takeLatest 15 = .ok (.aaload, 1) := by decide +kernel
