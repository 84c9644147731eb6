theorem dX7_thrown_0 : decode cX7_thrown 0 = .ok (.aload_n 0, 1) := by decide +kernel
theorem dX7_thrown_1 : decode cX7_thrown 1 = .ok (.getfield 1, 3) := by decide +kernel
theorem dX7_thrown_4 : decode cX7_thrown 4 = .ok (.ireturn, 1) := by decide +kernel
theorem dX7_refuse_0 : decode cX7_refuse 0 = .ok (.aload_n 0, 1) := by decide +kernel
theorem dX7_refuse_1 : decode cX7_refuse 1 = .ok (.iconst 1, 1) := by decide +kernel
theorem dX7_refuse_2 : decode cX7_refuse 2 = .ok (.putfield 1, 3) := by decide +kernel
theorem dX7_refuse_5 : decode cX7_refuse 5 = .ok (.iconst 0, 1) := by decide +kernel
theorem dX7_refuse_6 : decode cX7_refuse 6 = .ok (.ireturn, 1) := by decide +kernel
theorem dX7_isIn_0 : decode cX7_isIn 0 = .ok (.iload_n 0, 1) := by decide +kernel
theorem dX7_isIn_1 : decode cX7_isIn 1 = .ok (.iload_n 1, 1) := by decide +kernel
theorem dX7_isIn_2 : decode cX7_isIn 2 = .ok (.if_icmp .lt 12, 3) := by decide +kernel
theorem dX7_isIn_5 : decode cX7_isIn 5 = .ok (.iload_n 0, 1) := by decide +kernel
theorem dX7_isIn_6 : decode cX7_isIn 6 = .ok (.iload_n 2, 1) := by decide +kernel
theorem dX7_isIn_7 : decode cX7_isIn 7 = .ok (.if_icmp .gt 7, 3) := by decide +kernel
theorem dX7_isIn_10 : decode cX7_isIn 10 = .ok (.iconst 1, 1) := by decide +kernel
theorem dX7_isIn_11 : decode cX7_isIn 11 = .ok (.goto 4, 3) := by decide +kernel
theorem dX7_isIn_14 : decode cX7_isIn 14 = .ok (.iconst 0, 1) := by decide +kernel
theorem dX7_isIn_15 : decode cX7_isIn 15 = .ok (.ireturn, 1) := by decide +kernel
theorem dX7_has_0 : decode cX7_has 0 = .ok (.iload_n 0, 1) := by decide +kernel
theorem dX7_has_1 : decode cX7_has 1 = .ok (.iload_n 1, 1) := by decide +kernel
theorem dX7_has_2 : decode cX7_has 2 = .ok (.ishr, 1) := by decide +kernel
theorem dX7_has_3 : decode cX7_has 3 = .ok (.iconst 1, 1) := by decide +kernel
theorem dX7_has_4 : decode cX7_has 4 = .ok (.iand, 1) := by decide +kernel
theorem dX7_has_5 : decode cX7_has 5 = .ok (.iconst 1, 1) := by decide +kernel
theorem dX7_has_6 : decode cX7_has 6 = .ok (.if_icmp .ne 7, 3) := by decide +kernel
theorem dX7_has_9 : decode cX7_has 9 = .ok (.iconst 1, 1) := by decide +kernel
theorem dX7_has_10 : decode cX7_has 10 = .ok (.goto 4, 3) := by decide +kernel
theorem dX7_has_13 : decode cX7_has 13 = .ok (.iconst 0, 1) := by decide +kernel
theorem dX7_has_14 : decode cX7_has 14 = .ok (.ireturn, 1) := by decide +kernel
theorem dX7_bits_0 : decode cX7_bits 0 = .ok (.iconst 0, 1) := by decide +kernel
theorem dX7_bits_1 : decode cX7_bits 1 = .ok (.istore_n 1, 1) := by decide +kernel
theorem dX7_bits_2 : decode cX7_bits 2 = .ok (.iload_n 0, 1) := by decide +kernel
theorem dX7_bits_3 : decode cX7_bits 3 = .ok (.istore_n 2, 1) := by decide +kernel
theorem dX7_bits_4 : decode cX7_bits 4 = .ok (.iload_n 2, 1) := by decide +kernel
theorem dX7_bits_5 : decode cX7_bits 5 = .ok (.ifCond .eq 15, 3) := by decide +kernel
theorem dX7_bits_8 : decode cX7_bits 8 = .ok (.iinc 1 1, 3) := by decide +kernel
theorem dX7_bits_11 : decode cX7_bits 11 = .ok (.iload_n 2, 1) := by decide +kernel
theorem dX7_bits_12 : decode cX7_bits 12 = .ok (.iload_n 2, 1) := by decide +kernel
theorem dX7_bits_13 : decode cX7_bits 13 = .ok (.iconst 1, 1) := by decide +kernel
theorem dX7_bits_14 : decode cX7_bits 14 = .ok (.isub, 1) := by decide +kernel
theorem dX7_bits_15 : decode cX7_bits 15 = .ok (.iand, 1) := by decide +kernel
theorem dX7_bits_16 : decode cX7_bits 16 = .ok (.istore_n 2, 1) := by decide +kernel
theorem dX7_bits_17 : decode cX7_bits 17 = .ok (.goto (-13), 3) := by decide +kernel
theorem dX7_bits_20 : decode cX7_bits 20 = .ok (.iload_n 1, 1) := by decide +kernel
theorem dX7_bits_21 : decode cX7_bits 21 = .ok (.ireturn, 1) := by decide +kernel
theorem dX7_lay_0 : decode cX7_lay 0 = .ok (.bipush 24, 2) := by decide +kernel
theorem dX7_lay_2 : decode cX7_lay 2 = .ok (.istore_n 2, 1) := by decide +kernel
theorem dX7_lay_3 : decode cX7_lay 3 = .ok (.iload_n 2, 1) := by decide +kernel
theorem dX7_lay_4 : decode cX7_lay 4 = .ok (.ifCond .lt 35, 3) := by decide +kernel
theorem dX7_lay_7 : decode cX7_lay 7 = .ok (.aload_n 0, 1) := by decide +kernel
theorem dX7_lay_8 : decode cX7_lay 8 = .ok (.getfield 7, 3) := by decide +kernel
theorem dX7_lay_11 : decode cX7_lay 11 = .ok (.aload_n 0, 1) := by decide +kernel
theorem dX7_lay_12 : decode cX7_lay 12 = .ok (.getfield 11, 3) := by decide +kernel
theorem dX7_lay_15 : decode cX7_lay 15 = .ok (.iload_n 1, 1) := by decide +kernel
theorem dX7_lay_16 : decode cX7_lay 16 = .ok (.iload_n 2, 1) := by decide +kernel
theorem dX7_lay_17 : decode cX7_lay 17 = .ok (.iushr, 1) := by decide +kernel
theorem dX7_lay_18 : decode cX7_lay 18 = .ok (.sipush 255, 3) := by decide +kernel
theorem dX7_lay_21 : decode cX7_lay 21 = .ok (.iand, 1) := by decide +kernel
theorem dX7_lay_22 : decode cX7_lay 22 = .ok (.iastore, 1) := by decide +kernel
theorem dX7_lay_23 : decode cX7_lay 23 = .ok (.aload_n 0, 1) := by decide +kernel
theorem dX7_lay_24 : decode cX7_lay 24 = .ok (.dup, 1) := by decide +kernel
theorem dX7_lay_25 : decode cX7_lay 25 = .ok (.getfield 11, 3) := by decide +kernel
theorem dX7_lay_28 : decode cX7_lay 28 = .ok (.iconst 1, 1) := by decide +kernel
theorem dX7_lay_29 : decode cX7_lay 29 = .ok (.iadd, 1) := by decide +kernel
theorem dX7_lay_30 : decode cX7_lay 30 = .ok (.putfield 11, 3) := by decide +kernel
theorem dX7_lay_33 : decode cX7_lay 33 = .ok (.iinc 2 (-8), 3) := by decide +kernel
theorem dX7_lay_36 : decode cX7_lay 36 = .ok (.goto (-33), 3) := by decide +kernel
theorem dX7_lay_39 : decode cX7_lay 39 = .ok (.return_, 1) := by decide +kernel
set_option maxRecDepth 20000 in
theorem ggX7_feed_X7_lay : GoodIn wsX7_feed wsX7_lay := goodIn_r _ [7, 8, 2, 9, 10, 11, 12, 13, 14, 15, 16, 17, 18, 19, 20, 21, 22, 23, 24, 25, 26, 27, 28, 29, 30, 31, 32, 33, 34, 35, 36, 37, 38, 39] (by decide +kernel) (by decide +kernel)
set_option maxRecDepth 20000 in
theorem gX7_feed_X7_lay : GoodIn wsX7_feed (wsV RX7 14 RX7 yX7_lay wsX7_lay) := goodIn_app (goodIn_of _ (by decide +kernel)) ggX7_feed_X7_lay
theorem dX7_feed_0 : decode cX7_feed 0 = .ok (.aload_n 0, 1) := by decide +kernel
theorem dX7_feed_1 : decode cX7_feed 1 = .ok (.iconst 0, 1) := by decide +kernel
theorem dX7_feed_2 : decode cX7_feed 2 = .ok (.putfield 1, 3) := by decide +kernel
theorem dX7_feed_5 : decode cX7_feed 5 = .ok (.aload_n 0, 1) := by decide +kernel
theorem dX7_feed_6 : decode cX7_feed 6 = .ok (.getfield 11, 3) := by decide +kernel
theorem dX7_feed_9 : decode cX7_feed 9 = .ok (.bipush 20, 2) := by decide +kernel
theorem dX7_feed_11 : decode cX7_feed 11 = .ok (.iadd, 1) := by decide +kernel
theorem dX7_feed_12 : decode cX7_feed 12 = .ok (.sipush 340, 3) := by decide +kernel
theorem dX7_feed_15 : decode cX7_feed 15 = .ok (.if_icmp .le 5, 3) := by decide +kernel
theorem dX7_feed_18 : decode cX7_feed 18 = .ok (.iconst (-1), 1) := by decide +kernel
theorem dX7_feed_19 : decode cX7_feed 19 = .ok (.ireturn, 1) := by decide +kernel
theorem dX7_feed_20 : decode cX7_feed 20 = .ok (.aload_n 0, 1) := by decide +kernel
theorem dX7_feed_21 : decode cX7_feed 21 = .ok (.iload_n 1, 1) := by decide +kernel
theorem dX7_feed_22 : decode cX7_feed 22 = .ok (.invokevirtual 14, 3) := by decide +kernel
theorem dX7_feed_25 : decode cX7_feed 25 = .ok (.aload_n 0, 1) := by decide +kernel
theorem dX7_feed_26 : decode cX7_feed 26 = .ok (.iload_n 2, 1) := by decide +kernel
theorem dX7_feed_27 : decode cX7_feed 27 = .ok (.invokevirtual 14, 3) := by decide +kernel
theorem dX7_feed_30 : decode cX7_feed 30 = .ok (.aload_n 0, 1) := by decide +kernel
theorem dX7_feed_31 : decode cX7_feed 31 = .ok (.iload_n 3, 1) := by decide +kernel
theorem dX7_feed_32 : decode cX7_feed 32 = .ok (.invokevirtual 14, 3) := by decide +kernel
theorem dX7_feed_35 : decode cX7_feed 35 = .ok (.aload_n 0, 1) := by decide +kernel
theorem dX7_feed_36 : decode cX7_feed 36 = .ok (.iload 4, 2) := by decide +kernel
theorem dX7_feed_38 : decode cX7_feed 38 = .ok (.invokevirtual 14, 3) := by decide +kernel
theorem dX7_feed_41 : decode cX7_feed 41 = .ok (.aload_n 0, 1) := by decide +kernel
theorem dX7_feed_42 : decode cX7_feed 42 = .ok (.iload 5, 2) := by decide +kernel
theorem dX7_feed_44 : decode cX7_feed 44 = .ok (.invokevirtual 14, 3) := by decide +kernel
theorem dX7_feed_47 : decode cX7_feed 47 = .ok (.aload_n 0, 1) := by decide +kernel
theorem dX7_feed_48 : decode cX7_feed 48 = .ok (.getfield 11, 3) := by decide +kernel
theorem dX7_feed_51 : decode cX7_feed 51 = .ok (.ireturn, 1) := by decide +kernel
theorem dX7_end_0 : decode cX7_end 0 = .ok (.aload_n 0, 1) := by decide +kernel
theorem dX7_end_1 : decode cX7_end 1 = .ok (.iconst 0, 1) := by decide +kernel
theorem dX7_end_2 : decode cX7_end 2 = .ok (.putfield 1, 3) := by decide +kernel
theorem dX7_end_5 : decode cX7_end 5 = .ok (.iload_n 1, 1) := by decide +kernel
theorem dX7_end_6 : decode cX7_end 6 = .ok (.ifCond .lt 11, 3) := by decide +kernel
theorem dX7_end_9 : decode cX7_end 9 = .ok (.iload_n 1, 1) := by decide +kernel
theorem dX7_end_10 : decode cX7_end 10 = .ok (.aload_n 0, 1) := by decide +kernel
theorem dX7_end_11 : decode cX7_end 11 = .ok (.getfield 11, 3) := by decide +kernel
theorem dX7_end_14 : decode cX7_end 14 = .ok (.if_icmp .le 5, 3) := by decide +kernel
theorem dX7_end_17 : decode cX7_end 17 = .ok (.iconst 0, 1) := by decide +kernel
theorem dX7_end_18 : decode cX7_end 18 = .ok (.ireturn, 1) := by decide +kernel
theorem dX7_end_19 : decode cX7_end 19 = .ok (.aload_n 0, 1) := by decide +kernel
theorem dX7_end_20 : decode cX7_end 20 = .ok (.iload_n 1, 1) := by decide +kernel
theorem dX7_end_21 : decode cX7_end 21 = .ok (.putfield 11, 3) := by decide +kernel
theorem dX7_end_24 : decode cX7_end 24 = .ok (.iconst 1, 1) := by decide +kernel
theorem dX7_end_25 : decode cX7_end 25 = .ok (.ireturn, 1) := by decide +kernel
theorem dX7_tapeAt_0 : decode cX7_tapeAt 0 = .ok (.iload_n 1, 1) := by decide +kernel
theorem dX7_tapeAt_1 : decode cX7_tapeAt 1 = .ok (.aload_n 0, 1) := by decide +kernel
theorem dX7_tapeAt_2 : decode cX7_tapeAt 2 = .ok (.getfield 18, 3) := by decide +kernel
theorem dX7_tapeAt_5 : decode cX7_tapeAt 5 = .ok (.if_icmp .ge 12, 3) := by decide +kernel
theorem dX7_tapeAt_8 : decode cX7_tapeAt 8 = .ok (.aload_n 0, 1) := by decide +kernel
theorem dX7_tapeAt_9 : decode cX7_tapeAt 9 = .ok (.getfield 7, 3) := by decide +kernel
theorem dX7_tapeAt_12 : decode cX7_tapeAt 12 = .ok (.iload_n 1, 1) := by decide +kernel
theorem dX7_tapeAt_13 : decode cX7_tapeAt 13 = .ok (.iaload, 1) := by decide +kernel
theorem dX7_tapeAt_14 : decode cX7_tapeAt 14 = .ok (.goto 4, 3) := by decide +kernel
theorem dX7_tapeAt_17 : decode cX7_tapeAt 17 = .ok (.iconst 0, 1) := by decide +kernel
theorem dX7_tapeAt_18 : decode cX7_tapeAt 18 = .ok (.ireturn, 1) := by decide +kernel
theorem dX7_isDigit_0 : decode cX7_isDigit 0 = .ok (.iload_n 0, 1) := by decide +kernel
theorem dX7_isDigit_1 : decode cX7_isDigit 1 = .ok (.bipush 48, 2) := by decide +kernel
theorem dX7_isDigit_3 : decode cX7_isDigit 3 = .ok (.if_icmp .lt 13, 3) := by decide +kernel
theorem dX7_isDigit_6 : decode cX7_isDigit 6 = .ok (.iload_n 0, 1) := by decide +kernel
theorem dX7_isDigit_7 : decode cX7_isDigit 7 = .ok (.bipush 57, 2) := by decide +kernel
theorem dX7_isDigit_9 : decode cX7_isDigit 9 = .ok (.if_icmp .gt 7, 3) := by decide +kernel
theorem dX7_isDigit_12 : decode cX7_isDigit 12 = .ok (.iconst 1, 1) := by decide +kernel
theorem dX7_isDigit_13 : decode cX7_isDigit 13 = .ok (.goto 4, 3) := by decide +kernel
theorem dX7_isDigit_16 : decode cX7_isDigit 16 = .ok (.iconst 0, 1) := by decide +kernel
theorem dX7_isDigit_17 : decode cX7_isDigit 17 = .ok (.ireturn, 1) := by decide +kernel
theorem dX7_isLetter_0 : decode cX7_isLetter 0 = .ok (.iload_n 0, 1) := by decide +kernel
theorem dX7_isLetter_1 : decode cX7_isLetter 1 = .ok (.bipush 97, 2) := by decide +kernel
theorem dX7_isLetter_3 : decode cX7_isLetter 3 = .ok (.if_icmp .lt 13, 3) := by decide +kernel
theorem dX7_isLetter_6 : decode cX7_isLetter 6 = .ok (.iload_n 0, 1) := by decide +kernel
theorem dX7_isLetter_7 : decode cX7_isLetter 7 = .ok (.bipush 122, 2) := by decide +kernel
theorem dX7_isLetter_9 : decode cX7_isLetter 9 = .ok (.if_icmp .gt 7, 3) := by decide +kernel
theorem dX7_isLetter_12 : decode cX7_isLetter 12 = .ok (.iconst 1, 1) := by decide +kernel
theorem dX7_isLetter_13 : decode cX7_isLetter 13 = .ok (.goto 4, 3) := by decide +kernel
theorem dX7_isLetter_16 : decode cX7_isLetter 16 = .ok (.iconst 0, 1) := by decide +kernel
theorem dX7_isLetter_17 : decode cX7_isLetter 17 = .ok (.ireturn, 1) := by decide +kernel
set_option maxRecDepth 20000 in
theorem ggX7_goes_X7_isLetter : GoodIn wsX7_goes wsX7_isLetter := goodIn_r _ [13] (by decide +kernel) (by decide +kernel)
set_option maxRecDepth 20000 in
theorem gX7_goes_X7_isLetter : GoodIn wsX7_goes (va_wsS RX7 30 yX7_isLetter wsX7_isLetter) := goodIn_app (goodIn_of _ (by decide +kernel)) ggX7_goes_X7_isLetter
set_option maxRecDepth 20000 in
theorem ggX7_goes_X7_isDigit : GoodIn wsX7_goes wsX7_isDigit := goodIn_r _ [16] (by decide +kernel) (by decide +kernel)
set_option maxRecDepth 20000 in
theorem gX7_goes_X7_isDigit : GoodIn wsX7_goes (va_wsS RX7 34 yX7_isDigit wsX7_isDigit) := goodIn_app (goodIn_of _ (by decide +kernel)) ggX7_goes_X7_isDigit
set_option maxRecDepth 20000 in
theorem ggX7_goes_X7_tapeAt : GoodIn wsX7_goes wsX7_tapeAt := goodIn_r _ [20, 2, 3, 21, 22, 23, 24, 25, 26, 27, 28, 29, 30, 31, 32, 33, 34, 35, 36, 37, 38, 39, 40, 41, 42, 43, 44, 45, 46, 47, 48, 49, 50, 51] (by decide +kernel) (by decide +kernel)
set_option maxRecDepth 20000 in
theorem gX7_goes_X7_tapeAt : GoodIn wsX7_goes (wsV RX7 44 RX7 yX7_tapeAt wsX7_tapeAt) := goodIn_app (goodIn_of _ (by decide +kernel)) ggX7_goes_X7_tapeAt
theorem dX7_goes_0 : decode cX7_goes 0 = .ok (.aload_n 0, 1) := by decide +kernel
theorem dX7_goes_1 : decode cX7_goes 1 = .ok (.getfield 21, 3) := by decide +kernel
theorem dX7_goes_4 : decode cX7_goes 4 = .ok (.aload_n 0, 1) := by decide +kernel
theorem dX7_goes_5 : decode cX7_goes 5 = .ok (.getfield 18, 3) := by decide +kernel
theorem dX7_goes_8 : decode cX7_goes 8 = .ok (.if_icmp .ge 44, 3) := by decide +kernel
theorem dX7_goes_11 : decode cX7_goes 11 = .ok (.aload_n 0, 1) := by decide +kernel
theorem dX7_goes_12 : decode cX7_goes 12 = .ok (.getfield 7, 3) := by decide +kernel
theorem dX7_goes_15 : decode cX7_goes 15 = .ok (.aload_n 0, 1) := by decide +kernel
theorem dX7_goes_16 : decode cX7_goes 16 = .ok (.getfield 21, 3) := by decide +kernel
theorem dX7_goes_19 : decode cX7_goes 19 = .ok (.iaload, 1) := by decide +kernel
theorem dX7_goes_20 : decode cX7_goes 20 = .ok (.bipush 32, 2) := by decide +kernel
theorem dX7_goes_22 : decode cX7_goes 22 = .ok (.if_icmp .eq 17, 3) := by decide +kernel
theorem dX7_goes_25 : decode cX7_goes 25 = .ok (.aload_n 0, 1) := by decide +kernel
theorem dX7_goes_26 : decode cX7_goes 26 = .ok (.getfield 7, 3) := by decide +kernel
theorem dX7_goes_29 : decode cX7_goes 29 = .ok (.aload_n 0, 1) := by decide +kernel
theorem dX7_goes_30 : decode cX7_goes 30 = .ok (.getfield 21, 3) := by decide +kernel
theorem dX7_goes_33 : decode cX7_goes 33 = .ok (.iaload, 1) := by decide +kernel
theorem dX7_goes_34 : decode cX7_goes 34 = .ok (.bipush 10, 2) := by decide +kernel
theorem dX7_goes_36 : decode cX7_goes 36 = .ok (.if_icmp .ne 16, 3) := by decide +kernel
theorem dX7_goes_39 : decode cX7_goes 39 = .ok (.aload_n 0, 1) := by decide +kernel
theorem dX7_goes_40 : decode cX7_goes 40 = .ok (.dup, 1) := by decide +kernel
theorem dX7_goes_41 : decode cX7_goes 41 = .ok (.getfield 21, 3) := by decide +kernel
theorem dX7_goes_44 : decode cX7_goes 44 = .ok (.iconst 1, 1) := by decide +kernel
theorem dX7_goes_45 : decode cX7_goes 45 = .ok (.iadd, 1) := by decide +kernel
theorem dX7_goes_46 : decode cX7_goes 46 = .ok (.putfield 21, 3) := by decide +kernel
theorem dX7_goes_49 : decode cX7_goes 49 = .ok (.goto (-49), 3) := by decide +kernel
theorem dX7_goes_52 : decode cX7_goes 52 = .ok (.aload_n 0, 1) := by decide +kernel
theorem dX7_goes_53 : decode cX7_goes 53 = .ok (.aload_n 0, 1) := by decide +kernel
theorem dX7_goes_54 : decode cX7_goes 54 = .ok (.getfield 21, 3) := by decide +kernel
theorem dX7_goes_57 : decode cX7_goes 57 = .ok (.putfield 24, 3) := by decide +kernel
theorem dX7_goes_60 : decode cX7_goes 60 = .ok (.aload_n 0, 1) := by decide +kernel
theorem dX7_goes_61 : decode cX7_goes 61 = .ok (.getfield 18, 3) := by decide +kernel
theorem dX7_goes_64 : decode cX7_goes 64 = .ok (.sipush 300, 3) := by decide +kernel
theorem dX7_goes_67 : decode cX7_goes 67 = .ok (.if_icmp .le 26, 3) := by decide +kernel
theorem dX7_goes_70 : decode cX7_goes 70 = .ok (.aload_n 0, 1) := by decide +kernel
theorem dX7_goes_71 : decode cX7_goes 71 = .ok (.getfield 24, 3) := by decide +kernel
theorem dX7_goes_74 : decode cX7_goes 74 = .ok (.sipush 300, 3) := by decide +kernel
theorem dX7_goes_77 : decode cX7_goes 77 = .ok (.if_icmp .lt 16, 3) := by decide +kernel
theorem dX7_goes_80 : decode cX7_goes 80 = .ok (.aload_n 0, 1) := by decide +kernel
theorem dX7_goes_81 : decode cX7_goes 81 = .ok (.sipush 300, 3) := by decide +kernel
theorem dX7_goes_84 : decode cX7_goes 84 = .ok (.putfield 24, 3) := by decide +kernel
theorem dX7_goes_87 : decode cX7_goes 87 = .ok (.aload_n 0, 1) := by decide +kernel
theorem dX7_goes_88 : decode cX7_goes 88 = .ok (.iconst 1, 1) := by decide +kernel
theorem dX7_goes_89 : decode cX7_goes 89 = .ok (.putfield 27, 3) := by decide +kernel
theorem dX7_goes_92 : decode cX7_goes 92 = .ok (.return_, 1) := by decide +kernel
theorem dX7_goes_93 : decode cX7_goes 93 = .ok (.aload_n 0, 1) := by decide +kernel
theorem dX7_goes_94 : decode cX7_goes 94 = .ok (.getfield 21, 3) := by decide +kernel
theorem dX7_goes_97 : decode cX7_goes 97 = .ok (.aload_n 0, 1) := by decide +kernel
theorem dX7_goes_98 : decode cX7_goes 98 = .ok (.getfield 18, 3) := by decide +kernel
theorem dX7_goes_101 : decode cX7_goes 101 = .ok (.if_icmp .lt 9, 3) := by decide +kernel
theorem dX7_goes_104 : decode cX7_goes 104 = .ok (.aload_n 0, 1) := by decide +kernel
theorem dX7_goes_105 : decode cX7_goes 105 = .ok (.iconst 0, 1) := by decide +kernel
theorem dX7_goes_106 : decode cX7_goes 106 = .ok (.putfield 27, 3) := by decide +kernel
theorem dX7_goes_109 : decode cX7_goes 109 = .ok (.return_, 1) := by decide +kernel
theorem dX7_goes_110 : decode cX7_goes 110 = .ok (.aload_n 0, 1) := by decide +kernel
theorem dX7_goes_111 : decode cX7_goes 111 = .ok (.getfield 7, 3) := by decide +kernel
theorem dX7_goes_114 : decode cX7_goes 114 = .ok (.aload_n 0, 1) := by decide +kernel
theorem dX7_goes_115 : decode cX7_goes 115 = .ok (.getfield 21, 3) := by decide +kernel
theorem dX7_goes_118 : decode cX7_goes 118 = .ok (.iaload, 1) := by decide +kernel
theorem dX7_goes_119 : decode cX7_goes 119 = .ok (.istore_n 1, 1) := by decide +kernel
theorem dX7_goes_120 : decode cX7_goes 120 = .ok (.iload_n 1, 1) := by decide +kernel
theorem dX7_goes_121 : decode cX7_goes 121 = .ok (.invokestatic 30, 3) := by decide +kernel
theorem dX7_goes_124 : decode cX7_goes 124 = .ok (.ifCond .ne 36, 3) := by decide +kernel
theorem dX7_goes_127 : decode cX7_goes 127 = .ok (.iload_n 1, 1) := by decide +kernel
theorem dX7_goes_128 : decode cX7_goes 128 = .ok (.invokestatic 34, 3) := by decide +kernel
theorem dX7_goes_131 : decode cX7_goes 131 = .ok (.ifCond .ne 29, 3) := by decide +kernel
theorem dX7_goes_134 : decode cX7_goes 134 = .ok (.aload_n 0, 1) := by decide +kernel
theorem dX7_goes_135 : decode cX7_goes 135 = .ok (.iload_n 1, 1) := by decide +kernel
theorem dX7_goes_136 : decode cX7_goes 136 = .ok (.bipush 59, 2) := by decide +kernel
theorem dX7_goes_138 : decode cX7_goes 138 = .ok (.if_icmp .ne 7, 3) := by decide +kernel
theorem dX7_goes_141 : decode cX7_goes 141 = .ok (.iconst 4, 1) := by decide +kernel
theorem dX7_goes_142 : decode cX7_goes 142 = .ok (.goto 4, 3) := by decide +kernel
theorem dX7_goes_145 : decode cX7_goes 145 = .ok (.iconst 1, 1) := by decide +kernel
theorem dX7_goes_146 : decode cX7_goes 146 = .ok (.putfield 27, 3) := by decide +kernel
theorem dX7_goes_149 : decode cX7_goes 149 = .ok (.aload_n 0, 1) := by decide +kernel
theorem dX7_goes_150 : decode cX7_goes 150 = .ok (.dup, 1) := by decide +kernel
theorem dX7_goes_151 : decode cX7_goes 151 = .ok (.getfield 21, 3) := by decide +kernel
theorem dX7_goes_154 : decode cX7_goes 154 = .ok (.iconst 1, 1) := by decide +kernel
theorem dX7_goes_155 : decode cX7_goes 155 = .ok (.iadd, 1) := by decide +kernel
theorem dX7_goes_156 : decode cX7_goes 156 = .ok (.putfield 21, 3) := by decide +kernel
theorem dX7_goes_159 : decode cX7_goes 159 = .ok (.return_, 1) := by decide +kernel
theorem dX7_goes_160 : decode cX7_goes 160 = .ok (.iload_n 1, 1) := by decide +kernel
theorem dX7_goes_161 : decode cX7_goes 161 = .ok (.invokestatic 30, 3) := by decide +kernel
theorem dX7_goes_164 : decode cX7_goes 164 = .ok (.istore_n 2, 1) := by decide +kernel
theorem dX7_goes_165 : decode cX7_goes 165 = .ok (.iconst 1, 1) := by decide +kernel
theorem dX7_goes_166 : decode cX7_goes 166 = .ok (.istore_n 3, 1) := by decide +kernel
theorem dX7_goes_167 : decode cX7_goes 167 = .ok (.aload_n 0, 1) := by decide +kernel
theorem dX7_goes_168 : decode cX7_goes 168 = .ok (.lconst 0, 1) := by decide +kernel
theorem dX7_goes_169 : decode cX7_goes 169 = .ok (.putfield 37, 3) := by decide +kernel
theorem dX7_goes_172 : decode cX7_goes 172 = .ok (.aload_n 0, 1) := by decide +kernel
theorem dX7_goes_173 : decode cX7_goes 173 = .ok (.iconst 0, 1) := by decide +kernel
theorem dX7_goes_174 : decode cX7_goes 174 = .ok (.putfield 41, 3) := by decide +kernel
theorem dX7_goes_177 : decode cX7_goes 177 = .ok (.aload_n 0, 1) := by decide +kernel
theorem dX7_goes_178 : decode cX7_goes 178 = .ok (.aload_n 0, 1) := by decide +kernel
theorem dX7_goes_179 : decode cX7_goes 179 = .ok (.getfield 21, 3) := by decide +kernel
theorem dX7_goes_182 : decode cX7_goes 182 = .ok (.invokevirtual 44, 3) := by decide +kernel
theorem dX7_goes_185 : decode cX7_goes 185 = .ok (.invokestatic 30, 3) := by decide +kernel
theorem dX7_goes_188 : decode cX7_goes 188 = .ok (.ifCond .ne 17, 3) := by decide +kernel
theorem dX7_goes_191 : decode cX7_goes 191 = .ok (.aload_n 0, 1) := by decide +kernel
theorem dX7_goes_192 : decode cX7_goes 192 = .ok (.aload_n 0, 1) := by decide +kernel
theorem dX7_goes_193 : decode cX7_goes 193 = .ok (.getfield 21, 3) := by decide +kernel
theorem dX7_goes_196 : decode cX7_goes 196 = .ok (.invokevirtual 44, 3) := by decide +kernel
theorem dX7_goes_199 : decode cX7_goes 199 = .ok (.invokestatic 34, 3) := by decide +kernel
theorem dX7_goes_202 : decode cX7_goes 202 = .ok (.ifCond .eq 110, 3) := by decide +kernel
theorem dX7_goes_205 : decode cX7_goes 205 = .ok (.aload_n 0, 1) := by decide +kernel
theorem dX7_goes_206 : decode cX7_goes 206 = .ok (.getfield 7, 3) := by decide +kernel
theorem dX7_goes_209 : decode cX7_goes 209 = .ok (.aload_n 0, 1) := by decide +kernel
theorem dX7_goes_210 : decode cX7_goes 210 = .ok (.getfield 21, 3) := by decide +kernel
theorem dX7_goes_213 : decode cX7_goes 213 = .ok (.iaload, 1) := by decide +kernel
theorem dX7_goes_214 : decode cX7_goes 214 = .ok (.istore 4, 2) := by decide +kernel
theorem dX7_goes_216 : decode cX7_goes 216 = .ok (.iload_n 3, 1) := by decide +kernel
theorem dX7_goes_217 : decode cX7_goes 217 = .ok (.ifCond .eq 16, 3) := by decide +kernel
theorem dX7_goes_220 : decode cX7_goes 220 = .ok (.iload 4, 2) := by decide +kernel
theorem dX7_goes_222 : decode cX7_goes 222 = .ok (.invokestatic 30, 3) := by decide +kernel
theorem dX7_goes_225 : decode cX7_goes 225 = .ok (.iload_n 2, 1) := by decide +kernel
theorem dX7_goes_226 : decode cX7_goes 226 = .ok (.if_icmp .ne 7, 3) := by decide +kernel
theorem dX7_goes_229 : decode cX7_goes 229 = .ok (.iconst 1, 1) := by decide +kernel
theorem dX7_goes_230 : decode cX7_goes 230 = .ok (.goto 4, 3) := by decide +kernel
theorem dX7_goes_233 : decode cX7_goes 233 = .ok (.iconst 0, 1) := by decide +kernel
theorem dX7_goes_234 : decode cX7_goes 234 = .ok (.istore_n 3, 1) := by decide +kernel
theorem dX7_goes_235 : decode cX7_goes 235 = .ok (.aload_n 0, 1) := by decide +kernel
theorem dX7_goes_236 : decode cX7_goes 236 = .ok (.getfield 21, 3) := by decide +kernel
theorem dX7_goes_239 : decode cX7_goes 239 = .ok (.aload_n 0, 1) := by decide +kernel
theorem dX7_goes_240 : decode cX7_goes 240 = .ok (.getfield 24, 3) := by decide +kernel
theorem dX7_goes_243 : decode cX7_goes 243 = .ok (.isub, 1) := by decide +kernel
theorem dX7_goes_244 : decode cX7_goes 244 = .ok (.bipush 6, 2) := by decide +kernel
theorem dX7_goes_246 : decode cX7_goes 246 = .ok (.if_icmp .ge 23, 3) := by decide +kernel
theorem dX7_goes_249 : decode cX7_goes 249 = .ok (.aload_n 0, 1) := by decide +kernel
theorem dX7_goes_250 : decode cX7_goes 250 = .ok (.ldc2_w 48, 3) := by decide +kernel
theorem dX7_goes_253 : decode cX7_goes 253 = .ok (.aload_n 0, 1) := by decide +kernel
theorem dX7_goes_254 : decode cX7_goes 254 = .ok (.getfield 37, 3) := by decide +kernel
theorem dX7_goes_257 : decode cX7_goes 257 = .ok (.lmul, 1) := by decide +kernel
theorem dX7_goes_258 : decode cX7_goes 258 = .ok (.iload 4, 2) := by decide +kernel
theorem dX7_goes_260 : decode cX7_goes 260 = .ok (.i2l, 1) := by decide +kernel
theorem dX7_goes_261 : decode cX7_goes 261 = .ok (.ladd, 1) := by decide +kernel
theorem dX7_goes_262 : decode cX7_goes 262 = .ok (.ldc2_w 50, 3) := by decide +kernel
theorem dX7_goes_265 : decode cX7_goes 265 = .ok (.lsub, 1) := by decide +kernel
theorem dX7_goes_266 : decode cX7_goes 266 = .ok (.putfield 37, 3) := by decide +kernel
theorem dX7_goes_269 : decode cX7_goes 269 = .ok (.aload_n 0, 1) := by decide +kernel
theorem dX7_goes_270 : decode cX7_goes 270 = .ok (.getfield 21, 3) := by decide +kernel
theorem dX7_goes_273 : decode cX7_goes 273 = .ok (.aload_n 0, 1) := by decide +kernel
theorem dX7_goes_274 : decode cX7_goes 274 = .ok (.getfield 24, 3) := by decide +kernel
theorem dX7_goes_277 : decode cX7_goes 277 = .ok (.isub, 1) := by decide +kernel
theorem dX7_goes_278 : decode cX7_goes 278 = .ok (.iconst 2, 1) := by decide +kernel
theorem dX7_goes_279 : decode cX7_goes 279 = .ok (.if_icmp .ge 20, 3) := by decide +kernel
theorem dX7_goes_282 : decode cX7_goes 282 = .ok (.aload_n 0, 1) := by decide +kernel
theorem dX7_goes_283 : decode cX7_goes 283 = .ok (.bipush 10, 2) := by decide +kernel
theorem dX7_goes_285 : decode cX7_goes 285 = .ok (.aload_n 0, 1) := by decide +kernel
theorem dX7_goes_286 : decode cX7_goes 286 = .ok (.getfield 41, 3) := by decide +kernel
theorem dX7_goes_289 : decode cX7_goes 289 = .ok (.imul, 1) := by decide +kernel
theorem dX7_goes_290 : decode cX7_goes 290 = .ok (.iload 4, 2) := by decide +kernel
theorem dX7_goes_292 : decode cX7_goes 292 = .ok (.iadd, 1) := by decide +kernel
theorem dX7_goes_293 : decode cX7_goes 293 = .ok (.bipush 48, 2) := by decide +kernel
theorem dX7_goes_295 : decode cX7_goes 295 = .ok (.isub, 1) := by decide +kernel
theorem dX7_goes_296 : decode cX7_goes 296 = .ok (.putfield 41, 3) := by decide +kernel
theorem dX7_goes_299 : decode cX7_goes 299 = .ok (.aload_n 0, 1) := by decide +kernel
theorem dX7_goes_300 : decode cX7_goes 300 = .ok (.dup, 1) := by decide +kernel
theorem dX7_goes_301 : decode cX7_goes 301 = .ok (.getfield 21, 3) := by decide +kernel
theorem dX7_goes_304 : decode cX7_goes 304 = .ok (.iconst 1, 1) := by decide +kernel
theorem dX7_goes_305 : decode cX7_goes 305 = .ok (.iadd, 1) := by decide +kernel
theorem dX7_goes_306 : decode cX7_goes 306 = .ok (.putfield 21, 3) := by decide +kernel
theorem dX7_goes_309 : decode cX7_goes 309 = .ok (.goto (-132), 3) := by decide +kernel
theorem dX7_goes_312 : decode cX7_goes 312 = .ok (.aload_n 0, 1) := by decide +kernel
theorem dX7_goes_313 : decode cX7_goes 313 = .ok (.iload_n 3, 1) := by decide +kernel
theorem dX7_goes_314 : decode cX7_goes 314 = .ok (.ifCond .eq 20, 3) := by decide +kernel
theorem dX7_goes_317 : decode cX7_goes 317 = .ok (.iload_n 2, 1) := by decide +kernel
theorem dX7_goes_318 : decode cX7_goes 318 = .ok (.ifCond .ne 20, 3) := by decide +kernel
theorem dX7_goes_321 : decode cX7_goes 321 = .ok (.aload_n 0, 1) := by decide +kernel
theorem dX7_goes_322 : decode cX7_goes 322 = .ok (.getfield 21, 3) := by decide +kernel
theorem dX7_goes_325 : decode cX7_goes 325 = .ok (.aload_n 0, 1) := by decide +kernel
theorem dX7_goes_326 : decode cX7_goes 326 = .ok (.getfield 24, 3) := by decide +kernel
theorem dX7_goes_329 : decode cX7_goes 329 = .ok (.isub, 1) := by decide +kernel
theorem dX7_goes_330 : decode cX7_goes 330 = .ok (.iconst 2, 1) := by decide +kernel
theorem dX7_goes_331 : decode cX7_goes 331 = .ok (.if_icmp .le 7, 3) := by decide +kernel
theorem dX7_goes_334 : decode cX7_goes 334 = .ok (.iconst 1, 1) := by decide +kernel
theorem dX7_goes_335 : decode cX7_goes 335 = .ok (.goto 12, 3) := by decide +kernel
theorem dX7_goes_338 : decode cX7_goes 338 = .ok (.iload_n 2, 1) := by decide +kernel
theorem dX7_goes_339 : decode cX7_goes 339 = .ok (.ifCond .eq 7, 3) := by decide +kernel
theorem dX7_goes_342 : decode cX7_goes 342 = .ok (.iconst 2, 1) := by decide +kernel
theorem dX7_goes_343 : decode cX7_goes 343 = .ok (.goto 4, 3) := by decide +kernel
theorem dX7_goes_346 : decode cX7_goes 346 = .ok (.iconst 3, 1) := by decide +kernel
theorem dX7_goes_347 : decode cX7_goes 347 = .ok (.putfield 27, 3) := by decide +kernel
theorem dX7_goes_350 : decode cX7_goes 350 = .ok (.return_, 1) := by decide +kernel
theorem dX7_spelt_0 : decode cX7_spelt 0 = .ok (.ldc2_w 48, 3) := by decide +kernel
theorem dX7_spelt_3 : decode cX7_spelt 3 = .ok (.iload_n 0, 1) := by decide +kernel
theorem dX7_spelt_4 : decode cX7_spelt 4 = .ok (.i2l, 1) := by decide +kernel
theorem dX7_spelt_5 : decode cX7_spelt 5 = .ok (.ldc2_w 50, 3) := by decide +kernel
theorem dX7_spelt_8 : decode cX7_spelt 8 = .ok (.lsub, 1) := by decide +kernel
theorem dX7_spelt_9 : decode cX7_spelt 9 = .ok (.lmul, 1) := by decide +kernel
theorem dX7_spelt_10 : decode cX7_spelt 10 = .ok (.iload_n 1, 1) := by decide +kernel
theorem dX7_spelt_11 : decode cX7_spelt 11 = .ok (.i2l, 1) := by decide +kernel
theorem dX7_spelt_12 : decode cX7_spelt 12 = .ok (.ladd, 1) := by decide +kernel
theorem dX7_spelt_13 : decode cX7_spelt 13 = .ok (.ldc2_w 50, 3) := by decide +kernel
theorem dX7_spelt_16 : decode cX7_spelt 16 = .ok (.lsub, 1) := by decide +kernel
theorem dX7_spelt_17 : decode cX7_spelt 17 = .ok (.lstore 5, 2) := by decide +kernel
theorem dX7_spelt_19 : decode cX7_spelt 19 = .ok (.iload_n 2, 1) := by decide +kernel
theorem dX7_spelt_20 : decode cX7_spelt 20 = .ok (.ifCond .le 18, 3) := by decide +kernel
theorem dX7_spelt_23 : decode cX7_spelt 23 = .ok (.ldc2_w 48, 3) := by decide +kernel
theorem dX7_spelt_26 : decode cX7_spelt 26 = .ok (.lload 5, 2) := by decide +kernel
theorem dX7_spelt_28 : decode cX7_spelt 28 = .ok (.lmul, 1) := by decide +kernel
theorem dX7_spelt_29 : decode cX7_spelt 29 = .ok (.iload_n 2, 1) := by decide +kernel
theorem dX7_spelt_30 : decode cX7_spelt 30 = .ok (.i2l, 1) := by decide +kernel
theorem dX7_spelt_31 : decode cX7_spelt 31 = .ok (.ladd, 1) := by decide +kernel
theorem dX7_spelt_32 : decode cX7_spelt 32 = .ok (.ldc2_w 50, 3) := by decide +kernel
theorem dX7_spelt_35 : decode cX7_spelt 35 = .ok (.lsub, 1) := by decide +kernel
theorem dX7_spelt_36 : decode cX7_spelt 36 = .ok (.lstore 5, 2) := by decide +kernel
theorem dX7_spelt_38 : decode cX7_spelt 38 = .ok (.iload_n 3, 1) := by decide +kernel
theorem dX7_spelt_39 : decode cX7_spelt 39 = .ok (.ifCond .le 18, 3) := by decide +kernel
theorem dX7_spelt_42 : decode cX7_spelt 42 = .ok (.ldc2_w 48, 3) := by decide +kernel
theorem dX7_spelt_45 : decode cX7_spelt 45 = .ok (.lload 5, 2) := by decide +kernel
theorem dX7_spelt_47 : decode cX7_spelt 47 = .ok (.lmul, 1) := by decide +kernel
theorem dX7_spelt_48 : decode cX7_spelt 48 = .ok (.iload_n 3, 1) := by decide +kernel
theorem dX7_spelt_49 : decode cX7_spelt 49 = .ok (.i2l, 1) := by decide +kernel
theorem dX7_spelt_50 : decode cX7_spelt 50 = .ok (.ladd, 1) := by decide +kernel
theorem dX7_spelt_51 : decode cX7_spelt 51 = .ok (.ldc2_w 50, 3) := by decide +kernel
theorem dX7_spelt_54 : decode cX7_spelt 54 = .ok (.lsub, 1) := by decide +kernel
theorem dX7_spelt_55 : decode cX7_spelt 55 = .ok (.lstore 5, 2) := by decide +kernel
theorem dX7_spelt_57 : decode cX7_spelt 57 = .ok (.iload 4, 2) := by decide +kernel
theorem dX7_spelt_59 : decode cX7_spelt 59 = .ok (.ifCond .le 20, 3) := by decide +kernel
theorem dX7_spelt_62 : decode cX7_spelt 62 = .ok (.ldc2_w 48, 3) := by decide +kernel
theorem dX7_spelt_65 : decode cX7_spelt 65 = .ok (.lload 5, 2) := by decide +kernel
theorem dX7_spelt_67 : decode cX7_spelt 67 = .ok (.lmul, 1) := by decide +kernel
theorem dX7_spelt_68 : decode cX7_spelt 68 = .ok (.iload 4, 2) := by decide +kernel
theorem dX7_spelt_70 : decode cX7_spelt 70 = .ok (.i2l, 1) := by decide +kernel
theorem dX7_spelt_71 : decode cX7_spelt 71 = .ok (.ladd, 1) := by decide +kernel
theorem dX7_spelt_72 : decode cX7_spelt 72 = .ok (.ldc2_w 50, 3) := by decide +kernel
theorem dX7_spelt_75 : decode cX7_spelt 75 = .ok (.lsub, 1) := by decide +kernel
theorem dX7_spelt_76 : decode cX7_spelt 76 = .ok (.goto 5, 3) := by decide +kernel
theorem dX7_spelt_79 : decode cX7_spelt 79 = .ok (.lload 5, 2) := by decide +kernel
theorem dX7_spelt_81 : decode cX7_spelt 81 = .ok (.lreturn, 1) := by decide +kernel
theorem dX7_isWord_0 : decode cX7_isWord 0 = .ok (.aload_n 0, 1) := by decide +kernel
theorem dX7_isWord_1 : decode cX7_isWord 1 = .ok (.getfield 27, 3) := by decide +kernel
theorem dX7_isWord_4 : decode cX7_isWord 4 = .ok (.iconst 2, 1) := by decide +kernel
theorem dX7_isWord_5 : decode cX7_isWord 5 = .ok (.if_icmp .ne 16, 3) := by decide +kernel
theorem dX7_isWord_8 : decode cX7_isWord 8 = .ok (.aload_n 0, 1) := by decide +kernel
theorem dX7_isWord_9 : decode cX7_isWord 9 = .ok (.getfield 37, 3) := by decide +kernel
theorem dX7_isWord_12 : decode cX7_isWord 12 = .ok (.lload_n 1, 1) := by decide +kernel
theorem dX7_isWord_13 : decode cX7_isWord 13 = .ok (.lcmp, 1) := by decide +kernel
theorem dX7_isWord_14 : decode cX7_isWord 14 = .ok (.ifCond .ne 7, 3) := by decide +kernel
theorem dX7_isWord_17 : decode cX7_isWord 17 = .ok (.iconst 1, 1) := by decide +kernel
theorem dX7_isWord_18 : decode cX7_isWord 18 = .ok (.goto 4, 3) := by decide +kernel
theorem dX7_isWord_21 : decode cX7_isWord 21 = .ok (.iconst 0, 1) := by decide +kernel
theorem dX7_isWord_22 : decode cX7_isWord 22 = .ok (.ireturn, 1) := by decide +kernel
set_option maxRecDepth 20000 in
theorem ggX7_isCells_X7_spelt : GoodIn wsX7_isCells wsX7_spelt := goodIn_r _ [4, 5, 6] (by decide +kernel) (by decide +kernel)
set_option maxRecDepth 20000 in
theorem gX7_isCells_X7_spelt : GoodIn wsX7_isCells (va_wsS RX7 52 yX7_spelt wsX7_spelt) := goodIn_app (goodIn_of _ (by decide +kernel)) ggX7_isCells_X7_spelt
set_option maxRecDepth 20000 in
theorem ggX7_isCells_X7_isWord : GoodIn wsX7_isCells wsX7_isWord := goodIn_r _ [10, 11, 12, 13, 14, 15, 16, 17, 18, 19, 20, 21, 22, 23, 24, 25, 26, 27, 28, 29, 30, 31, 32, 33, 34, 35, 36, 37, 38, 39, 40, 41, 42, 43] (by decide +kernel) (by decide +kernel)
set_option maxRecDepth 20000 in
theorem gX7_isCells_X7_isWord : GoodIn wsX7_isCells (wsV RX7 56 RX7 yX7_isWord wsX7_isWord) := goodIn_app (goodIn_of _ (by decide +kernel)) ggX7_isCells_X7_isWord
theorem dX7_isCells_0 : decode cX7_isCells 0 = .ok (.aload_n 0, 1) := by decide +kernel
theorem dX7_isCells_1 : decode cX7_isCells 1 = .ok (.bipush 99, 2) := by decide +kernel
theorem dX7_isCells_3 : decode cX7_isCells 3 = .ok (.bipush 101, 2) := by decide +kernel
theorem dX7_isCells_5 : decode cX7_isCells 5 = .ok (.bipush 108, 2) := by decide +kernel
theorem dX7_isCells_7 : decode cX7_isCells 7 = .ok (.bipush 108, 2) := by decide +kernel
theorem dX7_isCells_9 : decode cX7_isCells 9 = .ok (.bipush 115, 2) := by decide +kernel
theorem dX7_isCells_11 : decode cX7_isCells 11 = .ok (.invokestatic 52, 3) := by decide +kernel
theorem dX7_isCells_14 : decode cX7_isCells 14 = .ok (.invokevirtual 56, 3) := by decide +kernel
theorem dX7_isCells_17 : decode cX7_isCells 17 = .ok (.ireturn, 1) := by decide +kernel
set_option maxRecDepth 20000 in
theorem ggX7_isHole_X7_spelt : GoodIn wsX7_isHole wsX7_spelt := goodIn_r _ [4, 5, 6] (by decide +kernel) (by decide +kernel)
set_option maxRecDepth 20000 in
theorem gX7_isHole_X7_spelt : GoodIn wsX7_isHole (va_wsS RX7 52 yX7_spelt wsX7_spelt) := goodIn_app (goodIn_of _ (by decide +kernel)) ggX7_isHole_X7_spelt
set_option maxRecDepth 20000 in
theorem ggX7_isHole_X7_isWord : GoodIn wsX7_isHole wsX7_isWord := goodIn_r _ [10, 11, 12, 13, 14, 15, 16, 17, 18, 19, 20, 21, 22, 23, 24, 25, 26, 27, 28, 29, 30, 31, 32, 33, 34, 35, 36, 37, 38, 39, 40, 41, 42, 43] (by decide +kernel) (by decide +kernel)
set_option maxRecDepth 20000 in
theorem gX7_isHole_X7_isWord : GoodIn wsX7_isHole (wsV RX7 56 RX7 yX7_isWord wsX7_isWord) := goodIn_app (goodIn_of _ (by decide +kernel)) ggX7_isHole_X7_isWord
theorem dX7_isHole_0 : decode cX7_isHole 0 = .ok (.aload_n 0, 1) := by decide +kernel
theorem dX7_isHole_1 : decode cX7_isHole 1 = .ok (.bipush 104, 2) := by decide +kernel
theorem dX7_isHole_3 : decode cX7_isHole 3 = .ok (.bipush 111, 2) := by decide +kernel
theorem dX7_isHole_5 : decode cX7_isHole 5 = .ok (.bipush 108, 2) := by decide +kernel
theorem dX7_isHole_7 : decode cX7_isHole 7 = .ok (.bipush 101, 2) := by decide +kernel
theorem dX7_isHole_9 : decode cX7_isHole 9 = .ok (.iconst 0, 1) := by decide +kernel
theorem dX7_isHole_10 : decode cX7_isHole 10 = .ok (.invokestatic 52, 3) := by decide +kernel
theorem dX7_isHole_13 : decode cX7_isHole 13 = .ok (.invokevirtual 56, 3) := by decide +kernel
theorem dX7_isHole_16 : decode cX7_isHole 16 = .ok (.ireturn, 1) := by decide +kernel
set_option maxRecDepth 20000 in
theorem ggX7_isPair_X7_spelt : GoodIn wsX7_isPair wsX7_spelt := goodIn_r _ [4, 5, 6] (by decide +kernel) (by decide +kernel)
set_option maxRecDepth 20000 in
theorem gX7_isPair_X7_spelt : GoodIn wsX7_isPair (va_wsS RX7 52 yX7_spelt wsX7_spelt) := goodIn_app (goodIn_of _ (by decide +kernel)) ggX7_isPair_X7_spelt
set_option maxRecDepth 20000 in
theorem ggX7_isPair_X7_isWord : GoodIn wsX7_isPair wsX7_isWord := goodIn_r _ [10, 11, 12, 13, 14, 15, 16, 17, 18, 19, 20, 21, 22, 23, 24, 25, 26, 27, 28, 29, 30, 31, 32, 33, 34, 35, 36, 37, 38, 39, 40, 41, 42, 43] (by decide +kernel) (by decide +kernel)
set_option maxRecDepth 20000 in
theorem gX7_isPair_X7_isWord : GoodIn wsX7_isPair (wsV RX7 56 RX7 yX7_isWord wsX7_isWord) := goodIn_app (goodIn_of _ (by decide +kernel)) ggX7_isPair_X7_isWord
theorem dX7_isPair_0 : decode cX7_isPair 0 = .ok (.aload_n 0, 1) := by decide +kernel
theorem dX7_isPair_1 : decode cX7_isPair 1 = .ok (.bipush 112, 2) := by decide +kernel
theorem dX7_isPair_3 : decode cX7_isPair 3 = .ok (.bipush 97, 2) := by decide +kernel
theorem dX7_isPair_5 : decode cX7_isPair 5 = .ok (.bipush 105, 2) := by decide +kernel
theorem dX7_isPair_7 : decode cX7_isPair 7 = .ok (.bipush 114, 2) := by decide +kernel
theorem dX7_isPair_9 : decode cX7_isPair 9 = .ok (.iconst 0, 1) := by decide +kernel
theorem dX7_isPair_10 : decode cX7_isPair 10 = .ok (.invokestatic 52, 3) := by decide +kernel
theorem dX7_isPair_13 : decode cX7_isPair 13 = .ok (.invokevirtual 56, 3) := by decide +kernel
theorem dX7_isPair_16 : decode cX7_isPair 16 = .ok (.ireturn, 1) := by decide +kernel
set_option maxRecDepth 20000 in
theorem ggX7_isAt_X7_spelt : GoodIn wsX7_isAt wsX7_spelt := goodIn_r _ [4, 5, 6] (by decide +kernel) (by decide +kernel)
set_option maxRecDepth 20000 in
theorem gX7_isAt_X7_spelt : GoodIn wsX7_isAt (va_wsS RX7 52 yX7_spelt wsX7_spelt) := goodIn_app (goodIn_of _ (by decide +kernel)) ggX7_isAt_X7_spelt
set_option maxRecDepth 20000 in
theorem ggX7_isAt_X7_isWord : GoodIn wsX7_isAt wsX7_isWord := goodIn_r _ [10, 11, 12, 13, 14, 15, 16, 17, 18, 19, 20, 21, 22, 23, 24, 25, 26, 27, 28, 29, 30, 31, 32, 33, 34, 35, 36, 37, 38, 39, 40, 41, 42, 43] (by decide +kernel) (by decide +kernel)
set_option maxRecDepth 20000 in
theorem gX7_isAt_X7_isWord : GoodIn wsX7_isAt (wsV RX7 56 RX7 yX7_isWord wsX7_isWord) := goodIn_app (goodIn_of _ (by decide +kernel)) ggX7_isAt_X7_isWord
theorem dX7_isAt_0 : decode cX7_isAt 0 = .ok (.aload_n 0, 1) := by decide +kernel
theorem dX7_isAt_1 : decode cX7_isAt 1 = .ok (.bipush 97, 2) := by decide +kernel
theorem dX7_isAt_3 : decode cX7_isAt 3 = .ok (.bipush 116, 2) := by decide +kernel
theorem dX7_isAt_5 : decode cX7_isAt 5 = .ok (.iconst 0, 1) := by decide +kernel
theorem dX7_isAt_6 : decode cX7_isAt 6 = .ok (.iconst 0, 1) := by decide +kernel
theorem dX7_isAt_7 : decode cX7_isAt 7 = .ok (.iconst 0, 1) := by decide +kernel
theorem dX7_isAt_8 : decode cX7_isAt 8 = .ok (.invokestatic 52, 3) := by decide +kernel
theorem dX7_isAt_11 : decode cX7_isAt 11 = .ok (.invokevirtual 56, 3) := by decide +kernel
theorem dX7_isAt_14 : decode cX7_isAt 14 = .ok (.ireturn, 1) := by decide +kernel
theorem dX7_bad_0 : decode cX7_bad 0 = .ok (.aload_n 0, 1) := by decide +kernel
theorem dX7_bad_1 : decode cX7_bad 1 = .ok (.aload_n 0, 1) := by decide +kernel
theorem dX7_bad_2 : decode cX7_bad 2 = .ok (.getfield 27, 3) := by decide +kernel
theorem dX7_bad_5 : decode cX7_bad 5 = .ok (.iconst 1, 1) := by decide +kernel
theorem dX7_bad_6 : decode cX7_bad 6 = .ok (.if_icmp .ne 7, 3) := by decide +kernel
theorem dX7_bad_9 : decode cX7_bad 9 = .ok (.iconst 1, 1) := by decide +kernel
theorem dX7_bad_10 : decode cX7_bad 10 = .ok (.goto 4, 3) := by decide +kernel
theorem dX7_bad_13 : decode cX7_bad 13 = .ok (.iload_n 1, 1) := by decide +kernel
theorem dX7_bad_14 : decode cX7_bad 14 = .ok (.putfield 60, 3) := by decide +kernel
theorem dX7_bad_17 : decode cX7_bad 17 = .ok (.aload_n 0, 1) := by decide +kernel
theorem dX7_bad_18 : decode cX7_bad 18 = .ok (.aload_n 0, 1) := by decide +kernel
theorem dX7_bad_19 : decode cX7_bad 19 = .ok (.getfield 24, 3) := by decide +kernel
theorem dX7_bad_22 : decode cX7_bad 22 = .ok (.putfield 63, 3) := by decide +kernel
theorem dX7_bad_25 : decode cX7_bad 25 = .ok (.iconst 0, 1) := by decide +kernel
theorem dX7_bad_26 : decode cX7_bad 26 = .ok (.ireturn, 1) := by decide +kernel
set_option maxRecDepth 20000 in
theorem ggX7_isNumber_X7_bad : GoodIn wsX7_isNumber wsX7_bad := goodIn_r _ [7, 1, 8, 9, 10, 14, 15, 16, 17, 18, 19, 20, 21, 22, 23, 24, 25, 26, 27, 28, 29, 30, 31, 32, 33, 34, 35, 36, 37, 38, 39, 40, 41, 42, 43, 44] (by decide +kernel) (by decide +kernel)
set_option maxRecDepth 20000 in
theorem gX7_isNumber_X7_bad : GoodIn wsX7_isNumber (wsV RX7 66 RX7 yX7_bad wsX7_bad) := goodIn_app (goodIn_of _ (by decide +kernel)) ggX7_isNumber_X7_bad
set_option maxRecDepth 20000 in
theorem ggX7_isNumber_X7_isIn : GoodIn wsX7_isNumber wsX7_isIn := goodIn_r _ [13] (by decide +kernel) (by decide +kernel)
set_option maxRecDepth 20000 in
theorem gX7_isNumber_X7_isIn : GoodIn wsX7_isNumber (va_wsS RX7 69 yX7_isIn wsX7_isIn) := goodIn_app (goodIn_of _ (by decide +kernel)) ggX7_isNumber_X7_isIn
theorem dX7_isNumber_0 : decode cX7_isNumber 0 = .ok (.aload_n 0, 1) := by decide +kernel
theorem dX7_isNumber_1 : decode cX7_isNumber 1 = .ok (.getfield 27, 3) := by decide +kernel
theorem dX7_isNumber_4 : decode cX7_isNumber 4 = .ok (.iconst 3, 1) := by decide +kernel
theorem dX7_isNumber_5 : decode cX7_isNumber 5 = .ok (.if_icmp .eq 9, 3) := by decide +kernel
theorem dX7_isNumber_8 : decode cX7_isNumber 8 = .ok (.aload_n 0, 1) := by decide +kernel
theorem dX7_isNumber_9 : decode cX7_isNumber 9 = .ok (.iconst 1, 1) := by decide +kernel
theorem dX7_isNumber_10 : decode cX7_isNumber 10 = .ok (.invokevirtual 66, 3) := by decide +kernel
theorem dX7_isNumber_13 : decode cX7_isNumber 13 = .ok (.ireturn, 1) := by decide +kernel
theorem dX7_isNumber_14 : decode cX7_isNumber 14 = .ok (.aload_n 0, 1) := by decide +kernel
theorem dX7_isNumber_15 : decode cX7_isNumber 15 = .ok (.getfield 41, 3) := by decide +kernel
theorem dX7_isNumber_18 : decode cX7_isNumber 18 = .ok (.iload_n 1, 1) := by decide +kernel
theorem dX7_isNumber_19 : decode cX7_isNumber 19 = .ok (.iload_n 2, 1) := by decide +kernel
theorem dX7_isNumber_20 : decode cX7_isNumber 20 = .ok (.invokestatic 69, 3) := by decide +kernel
theorem dX7_isNumber_23 : decode cX7_isNumber 23 = .ok (.ifCond .ne 11, 3) := by decide +kernel
theorem dX7_isNumber_26 : decode cX7_isNumber 26 = .ok (.aload_n 0, 1) := by decide +kernel
theorem dX7_isNumber_27 : decode cX7_isNumber 27 = .ok (.iconst 2, 1) := by decide +kernel
theorem dX7_isNumber_28 : decode cX7_isNumber 28 = .ok (.invokevirtual 66, 3) := by decide +kernel
theorem dX7_isNumber_31 : decode cX7_isNumber 31 = .ok (.ifCond .eq 7, 3) := by decide +kernel
theorem dX7_isNumber_34 : decode cX7_isNumber 34 = .ok (.iconst 1, 1) := by decide +kernel
theorem dX7_isNumber_35 : decode cX7_isNumber 35 = .ok (.goto 4, 3) := by decide +kernel
theorem dX7_isNumber_38 : decode cX7_isNumber 38 = .ok (.iconst 0, 1) := by decide +kernel
theorem dX7_isNumber_39 : decode cX7_isNumber 39 = .ok (.ireturn, 1) := by decide +kernel
theorem dX7_init_0 : decode cX7_init 0 = .ok (.aload_n 0, 1) := by decide +kernel
theorem dX7_init_1 : decode cX7_init 1 = .ok (.invokespecial 73, 3) := by decide +kernel
theorem dX7_init_4 : decode cX7_init 4 = .ok (.aload_n 0, 1) := by decide +kernel
theorem dX7_init_5 : decode cX7_init 5 = .ok (.sipush 340, 3) := by decide +kernel
theorem dX7_init_8 : decode cX7_init 8 = .ok (.newarray .int, 2) := by decide +kernel
theorem dX7_init_10 : decode cX7_init 10 = .ok (.putfield 7, 3) := by decide +kernel
theorem dX7_init_13 : decode cX7_init 13 = .ok (.aload_n 0, 1) := by decide +kernel
theorem dX7_init_14 : decode cX7_init 14 = .ok (.bipush 19, 2) := by decide +kernel
theorem dX7_init_16 : decode cX7_init 16 = .ok (.newarray .int, 2) := by decide +kernel
theorem dX7_init_18 : decode cX7_init 18 = .ok (.putfield 79, 3) := by decide +kernel
theorem dX7_init_21 : decode cX7_init 21 = .ok (.aload_n 0, 1) := by decide +kernel
theorem dX7_init_22 : decode cX7_init 22 = .ok (.bipush 19, 2) := by decide +kernel
theorem dX7_init_24 : decode cX7_init 24 = .ok (.newarray .int, 2) := by decide +kernel
theorem dX7_init_26 : decode cX7_init 26 = .ok (.putfield 82, 3) := by decide +kernel
theorem dX7_init_29 : decode cX7_init 29 = .ok (.aload_n 0, 1) := by decide +kernel
theorem dX7_init_30 : decode cX7_init 30 = .ok (.bipush 38, 2) := by decide +kernel
theorem dX7_init_32 : decode cX7_init 32 = .ok (.newarray .int, 2) := by decide +kernel
theorem dX7_init_34 : decode cX7_init 34 = .ok (.putfield 85, 3) := by decide +kernel
theorem dX7_init_37 : decode cX7_init 37 = .ok (.aload_n 0, 1) := by decide +kernel
theorem dX7_init_38 : decode cX7_init 38 = .ok (.sipush 152, 3) := by decide +kernel
theorem dX7_init_41 : decode cX7_init 41 = .ok (.newarray .int, 2) := by decide +kernel
theorem dX7_init_43 : decode cX7_init 43 = .ok (.putfield 88, 3) := by decide +kernel
theorem dX7_init_46 : decode cX7_init 46 = .ok (.aload_n 0, 1) := by decide +kernel
theorem dX7_init_47 : decode cX7_init 47 = .ok (.bipush 19, 2) := by decide +kernel
theorem dX7_init_49 : decode cX7_init 49 = .ok (.newarray .int, 2) := by decide +kernel
theorem dX7_init_51 : decode cX7_init 51 = .ok (.putfield 91, 3) := by decide +kernel
theorem dX7_init_54 : decode cX7_init 54 = .ok (.aload_n 0, 1) := by decide +kernel
theorem dX7_init_55 : decode cX7_init 55 = .ok (.bipush 19, 2) := by decide +kernel
theorem dX7_init_57 : decode cX7_init 57 = .ok (.newarray .int, 2) := by decide +kernel
theorem dX7_init_59 : decode cX7_init 59 = .ok (.putfield 94, 3) := by decide +kernel
theorem dX7_init_62 : decode cX7_init 62 = .ok (.aload_n 0, 1) := by decide +kernel
theorem dX7_init_63 : decode cX7_init 63 = .ok (.bipush 19, 2) := by decide +kernel
theorem dX7_init_65 : decode cX7_init 65 = .ok (.newarray .int, 2) := by decide +kernel
theorem dX7_init_67 : decode cX7_init 67 = .ok (.putfield 97, 3) := by decide +kernel
theorem dX7_init_70 : decode cX7_init 70 = .ok (.aload_n 0, 1) := by decide +kernel
theorem dX7_init_71 : decode cX7_init 71 = .ok (.iconst 2, 1) := by decide +kernel
theorem dX7_init_72 : decode cX7_init 72 = .ok (.newarray .boolean, 2) := by decide +kernel
theorem dX7_init_74 : decode cX7_init 74 = .ok (.putfield 100, 3) := by decide +kernel
theorem dX7_init_77 : decode cX7_init 77 = .ok (.aload_n 0, 1) := by decide +kernel
theorem dX7_init_78 : decode cX7_init 78 = .ok (.bipush 18, 2) := by decide +kernel
theorem dX7_init_80 : decode cX7_init 80 = .ok (.newarray .int, 2) := by decide +kernel
theorem dX7_init_82 : decode cX7_init 82 = .ok (.putfield 104, 3) := by decide +kernel
theorem dX7_init_85 : decode cX7_init 85 = .ok (.aload_n 0, 1) := by decide +kernel
theorem dX7_init_86 : decode cX7_init 86 = .ok (.bipush 18, 2) := by decide +kernel
theorem dX7_init_88 : decode cX7_init 88 = .ok (.newarray .int, 2) := by decide +kernel
theorem dX7_init_90 : decode cX7_init 90 = .ok (.putfield 107, 3) := by decide +kernel
theorem dX7_init_93 : decode cX7_init 93 = .ok (.aload_n 0, 1) := by decide +kernel
theorem dX7_init_94 : decode cX7_init 94 = .ok (.bipush 18, 2) := by decide +kernel
theorem dX7_init_96 : decode cX7_init 96 = .ok (.newarray .int, 2) := by decide +kernel
theorem dX7_init_98 : decode cX7_init 98 = .ok (.putfield 110, 3) := by decide +kernel
theorem dX7_init_101 : decode cX7_init 101 = .ok (.aload_n 0, 1) := by decide +kernel
theorem dX7_init_102 : decode cX7_init 102 = .ok (.sipush 320, 3) := by decide +kernel
theorem dX7_init_105 : decode cX7_init 105 = .ok (.newarray .int, 2) := by decide +kernel
theorem dX7_init_107 : decode cX7_init 107 = .ok (.putfield 113, 3) := by decide +kernel
theorem dX7_init_110 : decode cX7_init 110 = .ok (.aload_n 0, 1) := by decide +kernel
theorem dX7_init_111 : decode cX7_init 111 = .ok (.bipush 121, 2) := by decide +kernel
theorem dX7_init_113 : decode cX7_init 113 = .ok (.newarray .int, 2) := by decide +kernel
theorem dX7_init_115 : decode cX7_init 115 = .ok (.putfield 116, 3) := by decide +kernel
theorem dX7_init_118 : decode cX7_init 118 = .ok (.aload_n 0, 1) := by decide +kernel
theorem dX7_init_119 : decode cX7_init 119 = .ok (.iconst (-1), 1) := by decide +kernel
theorem dX7_init_120 : decode cX7_init 120 = .ok (.putfield 119, 3) := by decide +kernel
theorem dX7_init_123 : decode cX7_init 123 = .ok (.aload_n 0, 1) := by decide +kernel
theorem dX7_init_124 : decode cX7_init 124 = .ok (.bipush 121, 2) := by decide +kernel
theorem dX7_init_126 : decode cX7_init 126 = .ok (.newarray .int, 2) := by decide +kernel
theorem dX7_init_128 : decode cX7_init 128 = .ok (.putfield 122, 3) := by decide +kernel
theorem dX7_init_131 : decode cX7_init 131 = .ok (.return_, 1) := by decide +kernel
theorem dX7_copy_0 : decode cX7_copy 0 = .ok (.iconst 0, 1) := by decide +kernel
theorem dX7_copy_1 : decode cX7_copy 1 = .ok (.istore 4, 2) := by decide +kernel
theorem dX7_copy_3 : decode cX7_copy 3 = .ok (.iload 4, 2) := by decide +kernel
theorem dX7_copy_5 : decode cX7_copy 5 = .ok (.bipush 19, 2) := by decide +kernel
theorem dX7_copy_7 : decode cX7_copy 7 = .ok (.if_icmp .ge 21, 3) := by decide +kernel
theorem dX7_copy_10 : decode cX7_copy 10 = .ok (.aload_n 2, 1) := by decide +kernel
theorem dX7_copy_11 : decode cX7_copy 11 = .ok (.iload_n 3, 1) := by decide +kernel
theorem dX7_copy_12 : decode cX7_copy 12 = .ok (.iload 4, 2) := by decide +kernel
theorem dX7_copy_14 : decode cX7_copy 14 = .ok (.iadd, 1) := by decide +kernel
theorem dX7_copy_15 : decode cX7_copy 15 = .ok (.aload_n 0, 1) := by decide +kernel
theorem dX7_copy_16 : decode cX7_copy 16 = .ok (.iload_n 1, 1) := by decide +kernel
theorem dX7_copy_17 : decode cX7_copy 17 = .ok (.iload 4, 2) := by decide +kernel
theorem dX7_copy_19 : decode cX7_copy 19 = .ok (.iadd, 1) := by decide +kernel
theorem dX7_copy_20 : decode cX7_copy 20 = .ok (.iaload, 1) := by decide +kernel
theorem dX7_copy_21 : decode cX7_copy 21 = .ok (.iastore, 1) := by decide +kernel
theorem dX7_copy_22 : decode cX7_copy 22 = .ok (.iinc 4 1, 3) := by decide +kernel
theorem dX7_copy_25 : decode cX7_copy 25 = .ok (.goto (-22), 3) := by decide +kernel
theorem dX7_copy_28 : decode cX7_copy 28 = .ok (.return_, 1) := by decide +kernel
set_option maxRecDepth 20000 in
theorem ggX7_isTold_X7_isIn : GoodIn wsX7_isTold wsX7_isIn := goodIn_r _ [4] (by decide +kernel) (by decide +kernel)
set_option maxRecDepth 20000 in
theorem gX7_isTold_X7_isIn : GoodIn wsX7_isTold (va_wsS RX7 69 yX7_isIn wsX7_isIn) := goodIn_app (goodIn_of _ (by decide +kernel)) ggX7_isTold_X7_isIn
set_option maxRecDepth 20000 in
theorem ggX7_isTold_X7_has : GoodIn wsX7_isTold wsX7_has := goodIn_r _ [7] (by decide +kernel) (by decide +kernel)
set_option maxRecDepth 20000 in
theorem gX7_isTold_X7_has : GoodIn wsX7_isTold (va_wsS RX7 125 yX7_has wsX7_has) := goodIn_app (goodIn_of _ (by decide +kernel)) ggX7_isTold_X7_has
theorem dX7_isTold_0 : decode cX7_isTold 0 = .ok (.iload_n 1, 1) := by decide +kernel
theorem dX7_isTold_1 : decode cX7_isTold 1 = .ok (.iconst 1, 1) := by decide +kernel
theorem dX7_isTold_2 : decode cX7_isTold 2 = .ok (.bipush 15, 2) := by decide +kernel
theorem dX7_isTold_4 : decode cX7_isTold 4 = .ok (.invokestatic 69, 3) := by decide +kernel
theorem dX7_isTold_7 : decode cX7_isTold 7 = .ok (.ifCond .eq 19, 3) := by decide +kernel
theorem dX7_isTold_10 : decode cX7_isTold 10 = .ok (.aload_n 0, 1) := by decide +kernel
theorem dX7_isTold_11 : decode cX7_isTold 11 = .ok (.iconst 2, 1) := by decide +kernel
theorem dX7_isTold_12 : decode cX7_isTold 12 = .ok (.iaload, 1) := by decide +kernel
theorem dX7_isTold_13 : decode cX7_isTold 13 = .ok (.iload_n 1, 1) := by decide +kernel
theorem dX7_isTold_14 : decode cX7_isTold 14 = .ok (.iconst 1, 1) := by decide +kernel
theorem dX7_isTold_15 : decode cX7_isTold 15 = .ok (.isub, 1) := by decide +kernel
theorem dX7_isTold_16 : decode cX7_isTold 16 = .ok (.invokestatic 125, 3) := by decide +kernel
theorem dX7_isTold_19 : decode cX7_isTold 19 = .ok (.ifCond .eq 7, 3) := by decide +kernel
theorem dX7_isTold_22 : decode cX7_isTold 22 = .ok (.iconst 1, 1) := by decide +kernel
theorem dX7_isTold_23 : decode cX7_isTold 23 = .ok (.goto 4, 3) := by decide +kernel
theorem dX7_isTold_26 : decode cX7_isTold 26 = .ok (.iconst 0, 1) := by decide +kernel
theorem dX7_isTold_27 : decode cX7_isTold 27 = .ok (.ireturn, 1) := by decide +kernel
set_option maxRecDepth 20000 in
theorem ggX7_pins_X7_isTold : GoodIn wsX7_pins wsX7_isTold := goodIn_r _ [4, 5, 6, 3, 7, 8, 9, 10] (by decide +kernel) (by decide +kernel)
set_option maxRecDepth 20000 in
theorem gX7_pins_X7_isTold : GoodIn wsX7_pins (va_wsS RX7 129 yX7_isTold wsX7_isTold) := goodIn_app (goodIn_of _ (by decide +kernel)) ggX7_pins_X7_isTold
theorem dX7_pins_0 : decode cX7_pins 0 = .ok (.iconst 0, 1) := by decide +kernel
theorem dX7_pins_1 : decode cX7_pins 1 = .ok (.istore_n 2, 1) := by decide +kernel
theorem dX7_pins_2 : decode cX7_pins 2 = .ok (.iconst 1, 1) := by decide +kernel
theorem dX7_pins_3 : decode cX7_pins 3 = .ok (.istore_n 3, 1) := by decide +kernel
theorem dX7_pins_4 : decode cX7_pins 4 = .ok (.iload_n 3, 1) := by decide +kernel
theorem dX7_pins_5 : decode cX7_pins 5 = .ok (.bipush 15, 2) := by decide +kernel
theorem dX7_pins_7 : decode cX7_pins 7 = .ok (.if_icmp .gt 54, 3) := by decide +kernel
theorem dX7_pins_10 : decode cX7_pins 10 = .ok (.iload_n 3, 1) := by decide +kernel
theorem dX7_pins_11 : decode cX7_pins 11 = .ok (.iload_n 1, 1) := by decide +kernel
theorem dX7_pins_12 : decode cX7_pins 12 = .ok (.if_icmp .eq 43, 3) := by decide +kernel
theorem dX7_pins_15 : decode cX7_pins 15 = .ok (.aload_n 0, 1) := by decide +kernel
theorem dX7_pins_16 : decode cX7_pins 16 = .ok (.iload_n 3, 1) := by decide +kernel
theorem dX7_pins_17 : decode cX7_pins 17 = .ok (.invokestatic 129, 3) := by decide +kernel
theorem dX7_pins_20 : decode cX7_pins 20 = .ok (.ifCond .eq 35, 3) := by decide +kernel
theorem dX7_pins_23 : decode cX7_pins 23 = .ok (.aload_n 0, 1) := by decide +kernel
theorem dX7_pins_24 : decode cX7_pins 24 = .ok (.iconst 3, 1) := by decide +kernel
theorem dX7_pins_25 : decode cX7_pins 25 = .ok (.iload_n 3, 1) := by decide +kernel
theorem dX7_pins_26 : decode cX7_pins 26 = .ok (.iadd, 1) := by decide +kernel
theorem dX7_pins_27 : decode cX7_pins 27 = .ok (.iaload, 1) := by decide +kernel
theorem dX7_pins_28 : decode cX7_pins 28 = .ok (.ifCond .le 27, 3) := by decide +kernel
theorem dX7_pins_31 : decode cX7_pins 31 = .ok (.iload_n 2, 1) := by decide +kernel
theorem dX7_pins_32 : decode cX7_pins 32 = .ok (.iconst 1, 1) := by decide +kernel
theorem dX7_pins_33 : decode cX7_pins 33 = .ok (.aload_n 0, 1) := by decide +kernel
theorem dX7_pins_34 : decode cX7_pins 34 = .ok (.iconst 3, 1) := by decide +kernel
theorem dX7_pins_35 : decode cX7_pins 35 = .ok (.iload_n 3, 1) := by decide +kernel
theorem dX7_pins_36 : decode cX7_pins 36 = .ok (.iadd, 1) := by decide +kernel
theorem dX7_pins_37 : decode cX7_pins 37 = .ok (.iaload, 1) := by decide +kernel
theorem dX7_pins_38 : decode cX7_pins 38 = .ok (.iconst 1, 1) := by decide +kernel
theorem dX7_pins_39 : decode cX7_pins 39 = .ok (.isub, 1) := by decide +kernel
theorem dX7_pins_40 : decode cX7_pins 40 = .ok (.ishl, 1) := by decide +kernel
theorem dX7_pins_41 : decode cX7_pins 41 = .ok (.iconst 1, 1) := by decide +kernel
theorem dX7_pins_42 : decode cX7_pins 42 = .ok (.aload_n 0, 1) := by decide +kernel
theorem dX7_pins_43 : decode cX7_pins 43 = .ok (.iconst 3, 1) := by decide +kernel
theorem dX7_pins_44 : decode cX7_pins 44 = .ok (.iload_n 3, 1) := by decide +kernel
theorem dX7_pins_45 : decode cX7_pins 45 = .ok (.iadd, 1) := by decide +kernel
theorem dX7_pins_46 : decode cX7_pins 46 = .ok (.iaload, 1) := by decide +kernel
theorem dX7_pins_47 : decode cX7_pins 47 = .ok (.iload_n 3, 1) := by decide +kernel
theorem dX7_pins_48 : decode cX7_pins 48 = .ok (.iadd, 1) := by decide +kernel
theorem dX7_pins_49 : decode cX7_pins 49 = .ok (.iconst 1, 1) := by decide +kernel
theorem dX7_pins_50 : decode cX7_pins 50 = .ok (.isub, 1) := by decide +kernel
theorem dX7_pins_51 : decode cX7_pins 51 = .ok (.ishl, 1) := by decide +kernel
theorem dX7_pins_52 : decode cX7_pins 52 = .ok (.ior, 1) := by decide +kernel
theorem dX7_pins_53 : decode cX7_pins 53 = .ok (.ior, 1) := by decide +kernel
theorem dX7_pins_54 : decode cX7_pins 54 = .ok (.istore_n 2, 1) := by decide +kernel
theorem dX7_pins_55 : decode cX7_pins 55 = .ok (.iinc 3 1, 3) := by decide +kernel
theorem dX7_pins_58 : decode cX7_pins 58 = .ok (.goto (-54), 3) := by decide +kernel
theorem dX7_pins_61 : decode cX7_pins 61 = .ok (.iload_n 2, 1) := by decide +kernel
theorem dX7_pins_62 : decode cX7_pins 62 = .ok (.ireturn, 1) := by decide +kernel
set_option maxRecDepth 20000 in
theorem ggX7_mayPin_X7_pins : GoodIn wsX7_mayPin wsX7_pins := goodIn_r _ [4, 5, 6, 3, 7, 8, 9, 10, 11, 12, 13] (by decide +kernel) (by decide +kernel)
set_option maxRecDepth 20000 in
theorem gX7_mayPin_X7_pins : GoodIn wsX7_mayPin (va_wsS RX7 133 yX7_pins wsX7_pins) := goodIn_app (goodIn_of _ (by decide +kernel)) ggX7_mayPin_X7_pins
theorem dX7_mayPin_0 : decode cX7_mayPin 0 = .ok (.aload_n 0, 1) := by decide +kernel
theorem dX7_mayPin_1 : decode cX7_mayPin 1 = .ok (.iconst 1, 1) := by decide +kernel
theorem dX7_mayPin_2 : decode cX7_mayPin 2 = .ok (.iaload, 1) := by decide +kernel
theorem dX7_mayPin_3 : decode cX7_mayPin 3 = .ok (.aload_n 0, 1) := by decide +kernel
theorem dX7_mayPin_4 : decode cX7_mayPin 4 = .ok (.iload_n 1, 1) := by decide +kernel
theorem dX7_mayPin_5 : decode cX7_mayPin 5 = .ok (.invokestatic 133, 3) := by decide +kernel
theorem dX7_mayPin_8 : decode cX7_mayPin 8 = .ok (.ior, 1) := by decide +kernel
theorem dX7_mayPin_9 : decode cX7_mayPin 9 = .ok (.iconst 1, 1) := by decide +kernel
theorem dX7_mayPin_10 : decode cX7_mayPin 10 = .ok (.iload_n 2, 1) := by decide +kernel
theorem dX7_mayPin_11 : decode cX7_mayPin 11 = .ok (.iconst 1, 1) := by decide +kernel
theorem dX7_mayPin_12 : decode cX7_mayPin 12 = .ok (.isub, 1) := by decide +kernel
theorem dX7_mayPin_13 : decode cX7_mayPin 13 = .ok (.ishl, 1) := by decide +kernel
theorem dX7_mayPin_14 : decode cX7_mayPin 14 = .ok (.iconst 1, 1) := by decide +kernel
theorem dX7_mayPin_15 : decode cX7_mayPin 15 = .ok (.iload_n 2, 1) := by decide +kernel
theorem dX7_mayPin_16 : decode cX7_mayPin 16 = .ok (.iload_n 1, 1) := by decide +kernel
theorem dX7_mayPin_17 : decode cX7_mayPin 17 = .ok (.iadd, 1) := by decide +kernel
theorem dX7_mayPin_18 : decode cX7_mayPin 18 = .ok (.iconst 1, 1) := by decide +kernel
theorem dX7_mayPin_19 : decode cX7_mayPin 19 = .ok (.isub, 1) := by decide +kernel
theorem dX7_mayPin_20 : decode cX7_mayPin 20 = .ok (.ishl, 1) := by decide +kernel
theorem dX7_mayPin_21 : decode cX7_mayPin 21 = .ok (.ior, 1) := by decide +kernel
theorem dX7_mayPin_22 : decode cX7_mayPin 22 = .ok (.iand, 1) := by decide +kernel
theorem dX7_mayPin_23 : decode cX7_mayPin 23 = .ok (.ifCond .ne 7, 3) := by decide +kernel
theorem dX7_mayPin_26 : decode cX7_mayPin 26 = .ok (.iconst 1, 1) := by decide +kernel
theorem dX7_mayPin_27 : decode cX7_mayPin 27 = .ok (.goto 4, 3) := by decide +kernel
theorem dX7_mayPin_30 : decode cX7_mayPin 30 = .ok (.iconst 0, 1) := by decide +kernel
theorem dX7_mayPin_31 : decode cX7_mayPin 31 = .ok (.ireturn, 1) := by decide +kernel
set_option maxRecDepth 20000 in
theorem ggX7_readHole_X7_goes : GoodIn wsX7_readHole wsX7_goes := goodIn_r _ [7, 8, 9, 10, 11, 12, 13, 2, 14, 15, 16, 17, 6, 18, 19, 20, 21, 22, 23, 24, 25, 48, 49, 50, 51, 52, 53, 54, 55, 56, 57, 58, 59, 60, 61, 62, 63, 64, 65, 66, 67, 68, 69, 70, 71, 72, 73, 74, 75, 76, 77, 78] (by decide +kernel) (by decide +kernel)
set_option maxRecDepth 20000 in
theorem gX7_readHole_X7_goes : GoodIn wsX7_readHole (wsV RX7 137 RX7 yX7_goes wsX7_goes) := goodIn_app (goodIn_of _ (by decide +kernel)) ggX7_readHole_X7_goes
set_option maxRecDepth 20000 in
theorem ggX7_readHole_X7_isNumber : GoodIn wsX7_readHole wsX7_isNumber := goodIn_r _ [29, 12, 2, 30, 31, 32, 6, 33, 34, 11, 35, 36, 37, 38, 48, 49, 50, 51, 52, 53, 54, 55, 56, 57, 58, 59, 60, 61, 62, 63, 64, 65, 66, 67, 68, 69, 70, 71, 72, 73, 74, 75, 76, 77, 78] (by decide +kernel) (by decide +kernel)
set_option maxRecDepth 20000 in
theorem gX7_readHole_X7_isNumber : GoodIn wsX7_readHole (wsV RX7 140 RX7 yX7_isNumber wsX7_isNumber) := goodIn_app (goodIn_of _ (by decide +kernel)) ggX7_readHole_X7_isNumber
set_option maxRecDepth 20000 in
theorem ggX7_readHole_X7_pins : GoodIn wsX7_readHole wsX7_pins := goodIn_r _ [41, 42, 43, 6, 44, 36, 37, 38, 45, 46, 47] (by decide +kernel) (by decide +kernel)
set_option maxRecDepth 20000 in
theorem gX7_readHole_X7_pins : GoodIn wsX7_readHole (va_wsS RX7 133 yX7_pins wsX7_pins) := goodIn_app (goodIn_of _ (by decide +kernel)) ggX7_readHole_X7_pins
set_option maxRecDepth 20000 in
theorem ggX7_readHole_X7_has : GoodIn wsX7_readHole wsX7_has := goodIn_r _ [47] (by decide +kernel) (by decide +kernel)
set_option maxRecDepth 20000 in
theorem gX7_readHole_X7_has : GoodIn wsX7_readHole (va_wsS RX7 125 yX7_has wsX7_has) := goodIn_app (goodIn_of _ (by decide +kernel)) ggX7_readHole_X7_has
set_option maxRecDepth 20000 in
theorem ggX7_readHole_X7_bad : GoodIn wsX7_readHole wsX7_bad := goodIn_r _ [33, 12, 34, 11, 35, 48, 49, 50, 51, 52, 53, 54, 55, 56, 57, 58, 59, 60, 61, 62, 63, 64, 65, 66, 67, 68, 69, 70, 71, 72, 73, 74, 75, 76, 77, 78] (by decide +kernel) (by decide +kernel)
set_option maxRecDepth 20000 in
theorem gX7_readHole_X7_bad : GoodIn wsX7_readHole (wsV RX7 66 RX7 yX7_bad wsX7_bad) := goodIn_app (goodIn_of _ (by decide +kernel)) ggX7_readHole_X7_bad
theorem dX7_readHole_0 : decode cX7_readHole 0 = .ok (.aload_n 0, 1) := by decide +kernel
theorem dX7_readHole_1 : decode cX7_readHole 1 = .ok (.invokevirtual 137, 3) := by decide +kernel
theorem dX7_readHole_4 : decode cX7_readHole 4 = .ok (.aload_n 0, 1) := by decide +kernel
theorem dX7_readHole_5 : decode cX7_readHole 5 = .ok (.iconst 1, 1) := by decide +kernel
theorem dX7_readHole_6 : decode cX7_readHole 6 = .ok (.aload_n 0, 1) := by decide +kernel
theorem dX7_readHole_7 : decode cX7_readHole 7 = .ok (.getfield 82, 3) := by decide +kernel
theorem dX7_readHole_10 : decode cX7_readHole 10 = .ok (.iconst 0, 1) := by decide +kernel
theorem dX7_readHole_11 : decode cX7_readHole 11 = .ok (.iaload, 1) := by decide +kernel
theorem dX7_readHole_12 : decode cX7_readHole 12 = .ok (.invokevirtual 140, 3) := by decide +kernel
theorem dX7_readHole_15 : decode cX7_readHole 15 = .ok (.ifCond .ne 5, 3) := by decide +kernel
theorem dX7_readHole_18 : decode cX7_readHole 18 = .ok (.iconst 0, 1) := by decide +kernel
theorem dX7_readHole_19 : decode cX7_readHole 19 = .ok (.ireturn, 1) := by decide +kernel
theorem dX7_readHole_20 : decode cX7_readHole 20 = .ok (.aload_n 0, 1) := by decide +kernel
theorem dX7_readHole_21 : decode cX7_readHole 21 = .ok (.getfield 82, 3) := by decide +kernel
theorem dX7_readHole_24 : decode cX7_readHole 24 = .ok (.iconst 1, 1) := by decide +kernel
theorem dX7_readHole_25 : decode cX7_readHole 25 = .ok (.iaload, 1) := by decide +kernel
theorem dX7_readHole_26 : decode cX7_readHole 26 = .ok (.aload_n 0, 1) := by decide +kernel
theorem dX7_readHole_27 : decode cX7_readHole 27 = .ok (.getfield 82, 3) := by decide +kernel
theorem dX7_readHole_30 : decode cX7_readHole 30 = .ok (.iconst 0, 1) := by decide +kernel
theorem dX7_readHole_31 : decode cX7_readHole 31 = .ok (.invokestatic 133, 3) := by decide +kernel
theorem dX7_readHole_34 : decode cX7_readHole 34 = .ok (.ior, 1) := by decide +kernel
theorem dX7_readHole_35 : decode cX7_readHole 35 = .ok (.aload_n 0, 1) := by decide +kernel
theorem dX7_readHole_36 : decode cX7_readHole 36 = .ok (.getfield 41, 3) := by decide +kernel
theorem dX7_readHole_39 : decode cX7_readHole 39 = .ok (.iconst 1, 1) := by decide +kernel
theorem dX7_readHole_40 : decode cX7_readHole 40 = .ok (.isub, 1) := by decide +kernel
theorem dX7_readHole_41 : decode cX7_readHole 41 = .ok (.invokestatic 125, 3) := by decide +kernel
theorem dX7_readHole_44 : decode cX7_readHole 44 = .ok (.ifCond .eq 9, 3) := by decide +kernel
theorem dX7_readHole_47 : decode cX7_readHole 47 = .ok (.aload_n 0, 1) := by decide +kernel
theorem dX7_readHole_48 : decode cX7_readHole 48 = .ok (.iconst 3, 1) := by decide +kernel
theorem dX7_readHole_49 : decode cX7_readHole 49 = .ok (.invokevirtual 66, 3) := by decide +kernel
theorem dX7_readHole_52 : decode cX7_readHole 52 = .ok (.ireturn, 1) := by decide +kernel
theorem dX7_readHole_53 : decode cX7_readHole 53 = .ok (.aload_n 0, 1) := by decide +kernel
theorem dX7_readHole_54 : decode cX7_readHole 54 = .ok (.getfield 82, 3) := by decide +kernel
theorem dX7_readHole_57 : decode cX7_readHole 57 = .ok (.iconst 1, 1) := by decide +kernel
theorem dX7_readHole_58 : decode cX7_readHole 58 = .ok (.dup2, 1) := by decide +kernel
theorem dX7_readHole_59 : decode cX7_readHole 59 = .ok (.iaload, 1) := by decide +kernel
theorem dX7_readHole_60 : decode cX7_readHole 60 = .ok (.iconst 1, 1) := by decide +kernel
theorem dX7_readHole_61 : decode cX7_readHole 61 = .ok (.aload_n 0, 1) := by decide +kernel
theorem dX7_readHole_62 : decode cX7_readHole 62 = .ok (.getfield 41, 3) := by decide +kernel
theorem dX7_readHole_65 : decode cX7_readHole 65 = .ok (.iconst 1, 1) := by decide +kernel
theorem dX7_readHole_66 : decode cX7_readHole 66 = .ok (.isub, 1) := by decide +kernel
theorem dX7_readHole_67 : decode cX7_readHole 67 = .ok (.ishl, 1) := by decide +kernel
theorem dX7_readHole_68 : decode cX7_readHole 68 = .ok (.ior, 1) := by decide +kernel
theorem dX7_readHole_69 : decode cX7_readHole 69 = .ok (.iastore, 1) := by decide +kernel
theorem dX7_readHole_70 : decode cX7_readHole 70 = .ok (.aload_n 0, 1) := by decide +kernel
theorem dX7_readHole_71 : decode cX7_readHole 71 = .ok (.invokevirtual 137, 3) := by decide +kernel
theorem dX7_readHole_74 : decode cX7_readHole 74 = .ok (.iconst 1, 1) := by decide +kernel
theorem dX7_readHole_75 : decode cX7_readHole 75 = .ok (.ireturn, 1) := by decide +kernel
set_option maxRecDepth 20000 in
theorem ggX7_readPair_X7_bits : GoodIn wsX7_readPair wsX7_bits := goodIn_r _ [6] (by decide +kernel) (by decide +kernel)
set_option maxRecDepth 20000 in
theorem gX7_readPair_X7_bits : GoodIn wsX7_readPair (va_wsS RX7 143 yX7_bits wsX7_bits) := goodIn_app (goodIn_of _ (by decide +kernel)) ggX7_readPair_X7_bits
set_option maxRecDepth 20000 in
theorem ggX7_readPair_X7_bad : GoodIn wsX7_readPair wsX7_bad := goodIn_r _ [10, 11, 12, 13, 14, 65, 66, 67, 68, 69, 70, 71, 72, 73, 74, 75, 76, 77, 78, 79, 80, 81, 82, 83, 84, 85, 86, 87, 88, 89, 90, 91, 92, 93, 94, 95] (by decide +kernel) (by decide +kernel)
set_option maxRecDepth 20000 in
theorem gX7_readPair_X7_bad : GoodIn wsX7_readPair (wsV RX7 66 RX7 yX7_bad wsX7_bad) := goodIn_app (goodIn_of _ (by decide +kernel)) ggX7_readPair_X7_bad
set_option maxRecDepth 20000 in
theorem ggX7_readPair_X7_goes : GoodIn wsX7_readPair wsX7_goes := goodIn_r _ [18, 19, 20, 21, 13, 11, 22, 2, 23, 24, 25, 26, 5, 27, 28, 29, 30, 31, 32, 33, 34, 65, 66, 67, 68, 69, 70, 71, 72, 73, 74, 75, 76, 77, 78, 79, 80, 81, 82, 83, 84, 85, 86, 87, 88, 89, 90, 91, 92, 93, 94, 95] (by decide +kernel) (by decide +kernel)
set_option maxRecDepth 20000 in
theorem gX7_readPair_X7_goes : GoodIn wsX7_readPair (wsV RX7 137 RX7 yX7_goes wsX7_goes) := goodIn_app (goodIn_of _ (by decide +kernel)) ggX7_readPair_X7_goes
set_option maxRecDepth 20000 in
theorem ggX7_readPair_X7_isNumber : GoodIn wsX7_readPair wsX7_isNumber := goodIn_r _ [38, 11, 2, 7, 8, 9, 5, 10, 12, 13, 14, 39, 40, 41, 65, 66, 67, 68, 69, 70, 71, 72, 73, 74, 75, 76, 77, 78, 79, 80, 81, 82, 83, 84, 85, 86, 87, 88, 89, 90, 91, 92, 93, 94, 95] (by decide +kernel) (by decide +kernel)
set_option maxRecDepth 20000 in
theorem gX7_readPair_X7_isNumber : GoodIn wsX7_readPair (wsV RX7 140 RX7 yX7_isNumber wsX7_isNumber) := goodIn_app (goodIn_of _ (by decide +kernel)) ggX7_readPair_X7_isNumber
set_option maxRecDepth 20000 in
theorem ggX7_readPair_X7_isTold : GoodIn wsX7_readPair wsX7_isTold := goodIn_r _ [44, 39, 40, 5, 41, 45, 46, 47] (by decide +kernel) (by decide +kernel)
set_option maxRecDepth 20000 in
theorem gX7_readPair_X7_isTold : GoodIn wsX7_readPair (va_wsS RX7 129 yX7_isTold wsX7_isTold) := goodIn_app (goodIn_of _ (by decide +kernel)) ggX7_readPair_X7_isTold
set_option maxRecDepth 20000 in
theorem ggX7_readPair_X7_isAt : GoodIn wsX7_readPair wsX7_isAt := goodIn_r _ [51, 52, 53, 5, 54, 23, 24, 55, 56, 57, 58, 11, 22, 65, 66, 67, 68, 69, 70, 71, 72, 73, 74, 75, 76, 77, 78, 79, 80, 81, 82, 83, 84, 85, 86, 87, 88, 89, 90, 91, 92, 93, 94, 95] (by decide +kernel) (by decide +kernel)
set_option maxRecDepth 20000 in
theorem gX7_readPair_X7_isAt : GoodIn wsX7_readPair (wsV RX7 146 RX7 yX7_isAt wsX7_isAt) := goodIn_app (goodIn_of _ (by decide +kernel)) ggX7_readPair_X7_isAt
set_option maxRecDepth 20000 in
theorem ggX7_readPair_X7_mayPin : GoodIn wsX7_readPair wsX7_mayPin := goodIn_r _ [61, 62, 63, 5, 64, 42, 43, 44, 39, 40, 41, 45, 46, 47] (by decide +kernel) (by decide +kernel)
set_option maxRecDepth 20000 in
theorem gX7_readPair_X7_mayPin : GoodIn wsX7_readPair (va_wsS RX7 150 yX7_mayPin wsX7_mayPin) := goodIn_app (goodIn_of _ (by decide +kernel)) ggX7_readPair_X7_mayPin
theorem dX7_readPair_0 : decode cX7_readPair 0 = .ok (.aload_n 0, 1) := by decide +kernel
theorem dX7_readPair_1 : decode cX7_readPair 1 = .ok (.getfield 82, 3) := by decide +kernel
theorem dX7_readPair_4 : decode cX7_readPair 4 = .ok (.iconst 2, 1) := by decide +kernel
theorem dX7_readPair_5 : decode cX7_readPair 5 = .ok (.iaload, 1) := by decide +kernel
theorem dX7_readPair_6 : decode cX7_readPair 6 = .ok (.invokestatic 143, 3) := by decide +kernel
theorem dX7_readPair_9 : decode cX7_readPair 9 = .ok (.bipush 9, 2) := by decide +kernel
theorem dX7_readPair_11 : decode cX7_readPair 11 = .ok (.if_icmp .ne 9, 3) := by decide +kernel
theorem dX7_readPair_14 : decode cX7_readPair 14 = .ok (.aload_n 0, 1) := by decide +kernel
theorem dX7_readPair_15 : decode cX7_readPair 15 = .ok (.iconst 4, 1) := by decide +kernel
theorem dX7_readPair_16 : decode cX7_readPair 16 = .ok (.invokevirtual 66, 3) := by decide +kernel
theorem dX7_readPair_19 : decode cX7_readPair 19 = .ok (.ireturn, 1) := by decide +kernel
theorem dX7_readPair_20 : decode cX7_readPair 20 = .ok (.aload_n 0, 1) := by decide +kernel
theorem dX7_readPair_21 : decode cX7_readPair 21 = .ok (.invokevirtual 137, 3) := by decide +kernel
theorem dX7_readPair_24 : decode cX7_readPair 24 = .ok (.aload_n 0, 1) := by decide +kernel
theorem dX7_readPair_25 : decode cX7_readPair 25 = .ok (.iconst 1, 1) := by decide +kernel
theorem dX7_readPair_26 : decode cX7_readPair 26 = .ok (.bipush 15, 2) := by decide +kernel
theorem dX7_readPair_28 : decode cX7_readPair 28 = .ok (.invokevirtual 140, 3) := by decide +kernel
theorem dX7_readPair_31 : decode cX7_readPair 31 = .ok (.ifCond .ne 5, 3) := by decide +kernel
theorem dX7_readPair_34 : decode cX7_readPair 34 = .ok (.iconst 0, 1) := by decide +kernel
theorem dX7_readPair_35 : decode cX7_readPair 35 = .ok (.ireturn, 1) := by decide +kernel
theorem dX7_readPair_36 : decode cX7_readPair 36 = .ok (.aload_n 0, 1) := by decide +kernel
theorem dX7_readPair_37 : decode cX7_readPair 37 = .ok (.getfield 41, 3) := by decide +kernel
theorem dX7_readPair_40 : decode cX7_readPair 40 = .ok (.istore_n 1, 1) := by decide +kernel
theorem dX7_readPair_41 : decode cX7_readPair 41 = .ok (.aload_n 0, 1) := by decide +kernel
theorem dX7_readPair_42 : decode cX7_readPair 42 = .ok (.getfield 82, 3) := by decide +kernel
theorem dX7_readPair_45 : decode cX7_readPair 45 = .ok (.iload_n 1, 1) := by decide +kernel
theorem dX7_readPair_46 : decode cX7_readPair 46 = .ok (.invokestatic 129, 3) := by decide +kernel
theorem dX7_readPair_49 : decode cX7_readPair 49 = .ok (.ifCond .eq 9, 3) := by decide +kernel
theorem dX7_readPair_52 : decode cX7_readPair 52 = .ok (.aload_n 0, 1) := by decide +kernel
theorem dX7_readPair_53 : decode cX7_readPair 53 = .ok (.iconst 3, 1) := by decide +kernel
theorem dX7_readPair_54 : decode cX7_readPair 54 = .ok (.invokevirtual 66, 3) := by decide +kernel
theorem dX7_readPair_57 : decode cX7_readPair 57 = .ok (.ireturn, 1) := by decide +kernel
theorem dX7_readPair_58 : decode cX7_readPair 58 = .ok (.aload_n 0, 1) := by decide +kernel
theorem dX7_readPair_59 : decode cX7_readPair 59 = .ok (.invokevirtual 137, 3) := by decide +kernel
theorem dX7_readPair_62 : decode cX7_readPair 62 = .ok (.iconst 0, 1) := by decide +kernel
theorem dX7_readPair_63 : decode cX7_readPair 63 = .ok (.istore_n 2, 1) := by decide +kernel
theorem dX7_readPair_64 : decode cX7_readPair 64 = .ok (.aload_n 0, 1) := by decide +kernel
theorem dX7_readPair_65 : decode cX7_readPair 65 = .ok (.invokevirtual 146, 3) := by decide +kernel
theorem dX7_readPair_68 : decode cX7_readPair 68 = .ok (.ifCond .eq 52, 3) := by decide +kernel
theorem dX7_readPair_71 : decode cX7_readPair 71 = .ok (.aload_n 0, 1) := by decide +kernel
theorem dX7_readPair_72 : decode cX7_readPair 72 = .ok (.invokevirtual 137, 3) := by decide +kernel
theorem dX7_readPair_75 : decode cX7_readPair 75 = .ok (.aload_n 0, 1) := by decide +kernel
theorem dX7_readPair_76 : decode cX7_readPair 76 = .ok (.iconst 1, 1) := by decide +kernel
theorem dX7_readPair_77 : decode cX7_readPair 77 = .ok (.aload_n 0, 1) := by decide +kernel
theorem dX7_readPair_78 : decode cX7_readPair 78 = .ok (.getfield 82, 3) := by decide +kernel
theorem dX7_readPair_81 : decode cX7_readPair 81 = .ok (.iconst 0, 1) := by decide +kernel
theorem dX7_readPair_82 : decode cX7_readPair 82 = .ok (.iaload, 1) := by decide +kernel
theorem dX7_readPair_83 : decode cX7_readPair 83 = .ok (.iload_n 1, 1) := by decide +kernel
theorem dX7_readPair_84 : decode cX7_readPair 84 = .ok (.isub, 1) := by decide +kernel
theorem dX7_readPair_85 : decode cX7_readPair 85 = .ok (.invokevirtual 140, 3) := by decide +kernel
theorem dX7_readPair_88 : decode cX7_readPair 88 = .ok (.ifCond .ne 5, 3) := by decide +kernel
theorem dX7_readPair_91 : decode cX7_readPair 91 = .ok (.iconst 0, 1) := by decide +kernel
theorem dX7_readPair_92 : decode cX7_readPair 92 = .ok (.ireturn, 1) := by decide +kernel
theorem dX7_readPair_93 : decode cX7_readPair 93 = .ok (.aload_n 0, 1) := by decide +kernel
theorem dX7_readPair_94 : decode cX7_readPair 94 = .ok (.getfield 41, 3) := by decide +kernel
theorem dX7_readPair_97 : decode cX7_readPair 97 = .ok (.istore_n 2, 1) := by decide +kernel
theorem dX7_readPair_98 : decode cX7_readPair 98 = .ok (.aload_n 0, 1) := by decide +kernel
theorem dX7_readPair_99 : decode cX7_readPair 99 = .ok (.getfield 82, 3) := by decide +kernel
theorem dX7_readPair_102 : decode cX7_readPair 102 = .ok (.iload_n 1, 1) := by decide +kernel
theorem dX7_readPair_103 : decode cX7_readPair 103 = .ok (.iload_n 2, 1) := by decide +kernel
theorem dX7_readPair_104 : decode cX7_readPair 104 = .ok (.invokestatic 150, 3) := by decide +kernel
theorem dX7_readPair_107 : decode cX7_readPair 107 = .ok (.ifCond .ne 9, 3) := by decide +kernel
theorem dX7_readPair_110 : decode cX7_readPair 110 = .ok (.aload_n 0, 1) := by decide +kernel
theorem dX7_readPair_111 : decode cX7_readPair 111 = .ok (.iconst 3, 1) := by decide +kernel
theorem dX7_readPair_112 : decode cX7_readPair 112 = .ok (.invokevirtual 66, 3) := by decide +kernel
theorem dX7_readPair_115 : decode cX7_readPair 115 = .ok (.ireturn, 1) := by decide +kernel
theorem dX7_readPair_116 : decode cX7_readPair 116 = .ok (.aload_n 0, 1) := by decide +kernel
theorem dX7_readPair_117 : decode cX7_readPair 117 = .ok (.invokevirtual 137, 3) := by decide +kernel
theorem dX7_readPair_120 : decode cX7_readPair 120 = .ok (.aload_n 0, 1) := by decide +kernel
theorem dX7_readPair_121 : decode cX7_readPair 121 = .ok (.getfield 82, 3) := by decide +kernel
theorem dX7_readPair_124 : decode cX7_readPair 124 = .ok (.iconst 2, 1) := by decide +kernel
theorem dX7_readPair_125 : decode cX7_readPair 125 = .ok (.dup2, 1) := by decide +kernel
theorem dX7_readPair_126 : decode cX7_readPair 126 = .ok (.iaload, 1) := by decide +kernel
theorem dX7_readPair_127 : decode cX7_readPair 127 = .ok (.iconst 1, 1) := by decide +kernel
theorem dX7_readPair_128 : decode cX7_readPair 128 = .ok (.iload_n 1, 1) := by decide +kernel
theorem dX7_readPair_129 : decode cX7_readPair 129 = .ok (.iconst 1, 1) := by decide +kernel
theorem dX7_readPair_130 : decode cX7_readPair 130 = .ok (.isub, 1) := by decide +kernel
theorem dX7_readPair_131 : decode cX7_readPair 131 = .ok (.ishl, 1) := by decide +kernel
theorem dX7_readPair_132 : decode cX7_readPair 132 = .ok (.ior, 1) := by decide +kernel
theorem dX7_readPair_133 : decode cX7_readPair 133 = .ok (.iastore, 1) := by decide +kernel
theorem dX7_readPair_134 : decode cX7_readPair 134 = .ok (.aload_n 0, 1) := by decide +kernel
theorem dX7_readPair_135 : decode cX7_readPair 135 = .ok (.getfield 82, 3) := by decide +kernel
theorem dX7_readPair_138 : decode cX7_readPair 138 = .ok (.iconst 3, 1) := by decide +kernel
theorem dX7_readPair_139 : decode cX7_readPair 139 = .ok (.iload_n 1, 1) := by decide +kernel
theorem dX7_readPair_140 : decode cX7_readPair 140 = .ok (.iadd, 1) := by decide +kernel
theorem dX7_readPair_141 : decode cX7_readPair 141 = .ok (.iload_n 2, 1) := by decide +kernel
theorem dX7_readPair_142 : decode cX7_readPair 142 = .ok (.iastore, 1) := by decide +kernel
theorem dX7_readPair_143 : decode cX7_readPair 143 = .ok (.iconst 1, 1) := by decide +kernel
theorem dX7_readPair_144 : decode cX7_readPair 144 = .ok (.ireturn, 1) := by decide +kernel
set_option maxRecDepth 20000 in
theorem ggX7_readCells_X7_goes : GoodIn wsX7_readCells wsX7_goes := goodIn_r _ [7, 8, 9, 10, 11, 12, 13, 2, 14, 15, 16, 17, 6, 18, 19, 20, 21, 22, 23, 24, 25, 39, 40, 41, 42, 43, 44, 45, 46, 47, 48, 49, 50, 51, 52, 53, 54, 55, 56, 57, 58, 59, 60, 61, 62, 63, 64, 65, 66, 67, 68, 69] (by decide +kernel) (by decide +kernel)
set_option maxRecDepth 20000 in
theorem gX7_readCells_X7_goes : GoodIn wsX7_readCells (wsV RX7 137 RX7 yX7_goes wsX7_goes) := goodIn_app (goodIn_of _ (by decide +kernel)) ggX7_readCells_X7_goes
set_option maxRecDepth 20000 in
theorem ggX7_readCells_X7_isNumber : GoodIn wsX7_readCells wsX7_isNumber := goodIn_r _ [29, 12, 2, 30, 31, 32, 6, 33, 34, 11, 35, 36, 37, 38, 39, 40, 41, 42, 43, 44, 45, 46, 47, 48, 49, 50, 51, 52, 53, 54, 55, 56, 57, 58, 59, 60, 61, 62, 63, 64, 65, 66, 67, 68, 69] (by decide +kernel) (by decide +kernel)
set_option maxRecDepth 20000 in
theorem gX7_readCells_X7_isNumber : GoodIn wsX7_readCells (wsV RX7 140 RX7 yX7_isNumber wsX7_isNumber) := goodIn_app (goodIn_of _ (by decide +kernel)) ggX7_readCells_X7_isNumber
theorem dX7_readCells_0 : decode cX7_readCells 0 = .ok (.aload_n 0, 1) := by decide +kernel
theorem dX7_readCells_1 : decode cX7_readCells 1 = .ok (.invokevirtual 137, 3) := by decide +kernel
theorem dX7_readCells_4 : decode cX7_readCells 4 = .ok (.aload_n 0, 1) := by decide +kernel
theorem dX7_readCells_5 : decode cX7_readCells 5 = .ok (.iconst 1, 1) := by decide +kernel
theorem dX7_readCells_6 : decode cX7_readCells 6 = .ok (.bipush 18, 2) := by decide +kernel
theorem dX7_readCells_8 : decode cX7_readCells 8 = .ok (.invokevirtual 140, 3) := by decide +kernel
theorem dX7_readCells_11 : decode cX7_readCells 11 = .ok (.ifCond .ne 5, 3) := by decide +kernel
theorem dX7_readCells_14 : decode cX7_readCells 14 = .ok (.iconst 0, 1) := by decide +kernel
theorem dX7_readCells_15 : decode cX7_readCells 15 = .ok (.ireturn, 1) := by decide +kernel
theorem dX7_readCells_16 : decode cX7_readCells 16 = .ok (.aload_n 0, 1) := by decide +kernel
theorem dX7_readCells_17 : decode cX7_readCells 17 = .ok (.getfield 82, 3) := by decide +kernel
theorem dX7_readCells_20 : decode cX7_readCells 20 = .ok (.iconst 0, 1) := by decide +kernel
theorem dX7_readCells_21 : decode cX7_readCells 21 = .ok (.aload_n 0, 1) := by decide +kernel
theorem dX7_readCells_22 : decode cX7_readCells 22 = .ok (.getfield 41, 3) := by decide +kernel
theorem dX7_readCells_25 : decode cX7_readCells 25 = .ok (.iastore, 1) := by decide +kernel
theorem dX7_readCells_26 : decode cX7_readCells 26 = .ok (.aload_n 0, 1) := by decide +kernel
theorem dX7_readCells_27 : decode cX7_readCells 27 = .ok (.invokevirtual 137, 3) := by decide +kernel
theorem dX7_readCells_30 : decode cX7_readCells 30 = .ok (.iconst 1, 1) := by decide +kernel
theorem dX7_readCells_31 : decode cX7_readCells 31 = .ok (.ireturn, 1) := by decide +kernel
set_option maxRecDepth 20000 in
theorem ggX7_readRow_X7_isCells : GoodIn wsX7_readRow wsX7_isCells := goodIn_r _ [6, 7, 8, 5, 9, 10, 11, 12, 13, 14, 15, 16, 17, 89, 90, 91, 92, 93, 94, 95, 96, 97, 98, 99, 100, 101, 102, 103, 104, 105, 106, 107, 108, 109, 110, 111, 112, 113, 114, 115, 116, 117, 118, 119] (by decide +kernel) (by decide +kernel)
set_option maxRecDepth 20000 in
theorem gX7_readRow_X7_isCells : GoodIn wsX7_readRow (wsV RX7 154 RX7 yX7_isCells wsX7_isCells) := goodIn_app (goodIn_of _ (by decide +kernel)) ggX7_readRow_X7_isCells
set_option maxRecDepth 20000 in
theorem ggX7_readRow_X7_readCells : GoodIn wsX7_readRow wsX7_readCells := goodIn_r _ [21, 1, 22, 23, 24, 25, 5, 26, 27, 28, 29, 30, 16, 17, 10, 11, 31, 32, 33, 34, 35, 36, 37, 38, 39, 40, 41, 42, 43, 44, 45, 46, 47, 48, 49, 50, 51, 52, 53, 89, 90, 91, 92, 93, 94, 95, 96, 97, 98, 99, 100, 101, 102, 103, 104, 105, 106, 107, 108, 109, 110, 111, 112, 113, 114, 115, 116, 117, 118, 119] (by decide +kernel) (by decide +kernel)
set_option maxRecDepth 20000 in
theorem gX7_readRow_X7_readCells : GoodIn wsX7_readRow (wsV RX7 157 RX7 yX7_readCells wsX7_readCells) := goodIn_app (goodIn_of _ (by decide +kernel)) ggX7_readRow_X7_readCells
set_option maxRecDepth 20000 in
theorem ggX7_readRow_X7_bad : GoodIn wsX7_readRow wsX7_bad := goodIn_r _ [48, 16, 49, 30, 50, 89, 90, 91, 92, 93, 94, 95, 96, 97, 98, 99, 100, 101, 102, 103, 104, 105, 106, 107, 108, 109, 110, 111, 112, 113, 114, 115, 116, 117, 118, 119] (by decide +kernel) (by decide +kernel)
set_option maxRecDepth 20000 in
theorem gX7_readRow_X7_bad : GoodIn wsX7_readRow (wsV RX7 66 RX7 yX7_bad wsX7_bad) := goodIn_app (goodIn_of _ (by decide +kernel)) ggX7_readRow_X7_bad
set_option maxRecDepth 20000 in
theorem ggX7_readRow_X7_isHole : GoodIn wsX7_readRow wsX7_isHole := goodIn_r _ [57, 7, 8, 5, 9, 10, 11, 12, 13, 14, 15, 16, 17, 89, 90, 91, 92, 93, 94, 95, 96, 97, 98, 99, 100, 101, 102, 103, 104, 105, 106, 107, 108, 109, 110, 111, 112, 113, 114, 115, 116, 117, 118, 119] (by decide +kernel) (by decide +kernel)
set_option maxRecDepth 20000 in
theorem gX7_readRow_X7_isHole : GoodIn wsX7_readRow (wsV RX7 160 RX7 yX7_isHole wsX7_isHole) := goodIn_app (goodIn_of _ (by decide +kernel)) ggX7_readRow_X7_isHole
set_option maxRecDepth 20000 in
theorem ggX7_readRow_X7_readHole : GoodIn wsX7_readRow wsX7_readHole := goodIn_r _ [61, 1, 22, 23, 24, 25, 5, 26, 27, 28, 29, 30, 16, 17, 10, 11, 31, 32, 33, 34, 35, 36, 37, 38, 39, 40, 41, 42, 43, 44, 45, 46, 47, 48, 49, 50, 51, 52, 53, 62, 63, 64, 65, 66, 67, 68, 69, 70, 89, 90, 91, 92, 93, 94, 95, 96, 97, 98, 99, 100, 101, 102, 103, 104, 105, 106, 107, 108, 109, 110, 111, 112, 113, 114, 115, 116, 117, 118, 119] (by decide +kernel) (by decide +kernel)
set_option maxRecDepth 20000 in
theorem gX7_readRow_X7_readHole : GoodIn wsX7_readRow (wsV RX7 163 RX7 yX7_readHole wsX7_readHole) := goodIn_app (goodIn_of _ (by decide +kernel)) ggX7_readRow_X7_readHole
set_option maxRecDepth 20000 in
theorem ggX7_readRow_X7_isPair : GoodIn wsX7_readRow wsX7_isPair := goodIn_r _ [74, 7, 8, 5, 9, 10, 11, 12, 13, 14, 15, 16, 17, 89, 90, 91, 92, 93, 94, 95, 96, 97, 98, 99, 100, 101, 102, 103, 104, 105, 106, 107, 108, 109, 110, 111, 112, 113, 114, 115, 116, 117, 118, 119] (by decide +kernel) (by decide +kernel)
set_option maxRecDepth 20000 in
theorem gX7_readRow_X7_isPair : GoodIn wsX7_readRow (wsV RX7 166 RX7 yX7_isPair wsX7_isPair) := goodIn_app (goodIn_of _ (by decide +kernel)) ggX7_readRow_X7_isPair
set_option maxRecDepth 20000 in
theorem ggX7_readRow_X7_readPair : GoodIn wsX7_readRow wsX7_readPair := goodIn_r _ [78, 1, 22, 79, 80, 5, 81, 45, 46, 47, 48, 16, 49, 30, 50, 23, 24, 25, 26, 27, 28, 29, 17, 10, 11, 31, 32, 33, 34, 35, 36, 37, 38, 39, 40, 41, 42, 43, 44, 51, 52, 53, 65, 66, 67, 68, 69, 70, 82, 83, 84, 85, 7, 8, 9, 12, 13, 14, 15, 86, 87, 88, 62, 63, 64, 89, 90, 91, 92, 93, 94, 95, 96, 97, 98, 99, 100, 101, 102, 103, 104, 105, 106, 107, 108, 109, 110, 111, 112, 113, 114, 115, 116, 117, 118, 119] (by decide +kernel) (by decide +kernel)
set_option maxRecDepth 20000 in
theorem gX7_readRow_X7_readPair : GoodIn wsX7_readRow (wsV RX7 169 RX7 yX7_readPair wsX7_readPair) := goodIn_app (goodIn_of _ (by decide +kernel)) ggX7_readRow_X7_readPair
theorem dX7_readRow_0 : decode cX7_readRow 0 = .ok (.aload_n 0, 1) := by decide +kernel
theorem dX7_readRow_1 : decode cX7_readRow 1 = .ok (.getfield 82, 3) := by decide +kernel
theorem dX7_readRow_4 : decode cX7_readRow 4 = .ok (.iconst 0, 1) := by decide +kernel
theorem dX7_readRow_5 : decode cX7_readRow 5 = .ok (.iaload, 1) := by decide +kernel
theorem dX7_readRow_6 : decode cX7_readRow 6 = .ok (.ifCond .ne 23, 3) := by decide +kernel
theorem dX7_readRow_9 : decode cX7_readRow 9 = .ok (.aload_n 0, 1) := by decide +kernel
theorem dX7_readRow_10 : decode cX7_readRow 10 = .ok (.invokevirtual 154, 3) := by decide +kernel
theorem dX7_readRow_13 : decode cX7_readRow 13 = .ok (.ifCond .eq 10, 3) := by decide +kernel
theorem dX7_readRow_16 : decode cX7_readRow 16 = .ok (.aload_n 0, 1) := by decide +kernel
theorem dX7_readRow_17 : decode cX7_readRow 17 = .ok (.invokevirtual 157, 3) := by decide +kernel
theorem dX7_readRow_20 : decode cX7_readRow 20 = .ok (.goto 8, 3) := by decide +kernel
theorem dX7_readRow_23 : decode cX7_readRow 23 = .ok (.aload_n 0, 1) := by decide +kernel
theorem dX7_readRow_24 : decode cX7_readRow 24 = .ok (.iconst 1, 1) := by decide +kernel
theorem dX7_readRow_25 : decode cX7_readRow 25 = .ok (.invokevirtual 66, 3) := by decide +kernel
theorem dX7_readRow_28 : decode cX7_readRow 28 = .ok (.ireturn, 1) := by decide +kernel
theorem dX7_readRow_29 : decode cX7_readRow 29 = .ok (.aload_n 0, 1) := by decide +kernel
theorem dX7_readRow_30 : decode cX7_readRow 30 = .ok (.invokevirtual 160, 3) := by decide +kernel
theorem dX7_readRow_33 : decode cX7_readRow 33 = .ok (.ifCond .eq 10, 3) := by decide +kernel
theorem dX7_readRow_36 : decode cX7_readRow 36 = .ok (.aload_n 0, 1) := by decide +kernel
theorem dX7_readRow_37 : decode cX7_readRow 37 = .ok (.invokevirtual 163, 3) := by decide +kernel
theorem dX7_readRow_40 : decode cX7_readRow 40 = .ok (.goto 22, 3) := by decide +kernel
theorem dX7_readRow_43 : decode cX7_readRow 43 = .ok (.aload_n 0, 1) := by decide +kernel
theorem dX7_readRow_44 : decode cX7_readRow 44 = .ok (.invokevirtual 166, 3) := by decide +kernel
theorem dX7_readRow_47 : decode cX7_readRow 47 = .ok (.ifCond .eq 10, 3) := by decide +kernel
theorem dX7_readRow_50 : decode cX7_readRow 50 = .ok (.aload_n 0, 1) := by decide +kernel
theorem dX7_readRow_51 : decode cX7_readRow 51 = .ok (.invokevirtual 169, 3) := by decide +kernel
theorem dX7_readRow_54 : decode cX7_readRow 54 = .ok (.goto 8, 3) := by decide +kernel
theorem dX7_readRow_57 : decode cX7_readRow 57 = .ok (.aload_n 0, 1) := by decide +kernel
theorem dX7_readRow_58 : decode cX7_readRow 58 = .ok (.iconst 1, 1) := by decide +kernel
theorem dX7_readRow_59 : decode cX7_readRow 59 = .ok (.invokevirtual 66, 3) := by decide +kernel
theorem dX7_readRow_62 : decode cX7_readRow 62 = .ok (.ireturn, 1) := by decide +kernel
set_option maxRecDepth 20000 in
theorem ggX7_readEnd_X7_bad : GoodIn wsX7_readEnd wsX7_bad := goodIn_r _ [6, 1, 7, 8, 9, 31, 32, 33, 34, 35, 36, 37, 38, 39, 40, 41, 42, 43, 44, 45, 46, 47, 48, 49, 50, 51, 52, 53, 54, 55, 56, 57, 58, 59, 60, 61] (by decide +kernel) (by decide +kernel)
set_option maxRecDepth 20000 in
theorem gX7_readEnd_X7_bad : GoodIn wsX7_readEnd (wsV RX7 66 RX7 yX7_bad wsX7_bad) := goodIn_app (goodIn_of _ (by decide +kernel)) ggX7_readEnd_X7_bad
set_option maxRecDepth 20000 in
theorem ggX7_readEnd_X7_goes : GoodIn wsX7_readEnd wsX7_goes := goodIn_r _ [13, 14, 15, 16, 8, 1, 17, 18, 19, 20, 21, 22, 5, 23, 24, 25, 26, 27, 28, 29, 30, 31, 32, 33, 34, 35, 36, 37, 38, 39, 40, 41, 42, 43, 44, 45, 46, 47, 48, 49, 50, 51, 52, 53, 54, 55, 56, 57, 58, 59, 60, 61] (by decide +kernel) (by decide +kernel)
set_option maxRecDepth 20000 in
theorem gX7_readEnd_X7_goes : GoodIn wsX7_readEnd (wsV RX7 137 RX7 yX7_goes wsX7_goes) := goodIn_app (goodIn_of _ (by decide +kernel)) ggX7_readEnd_X7_goes
theorem dX7_readEnd_0 : decode cX7_readEnd 0 = .ok (.aload_n 0, 1) := by decide +kernel
theorem dX7_readEnd_1 : decode cX7_readEnd 1 = .ok (.getfield 27, 3) := by decide +kernel
theorem dX7_readEnd_4 : decode cX7_readEnd 4 = .ok (.iconst 4, 1) := by decide +kernel
theorem dX7_readEnd_5 : decode cX7_readEnd 5 = .ok (.if_icmp .eq 9, 3) := by decide +kernel
theorem dX7_readEnd_8 : decode cX7_readEnd 8 = .ok (.aload_n 0, 1) := by decide +kernel
theorem dX7_readEnd_9 : decode cX7_readEnd 9 = .ok (.iconst 1, 1) := by decide +kernel
theorem dX7_readEnd_10 : decode cX7_readEnd 10 = .ok (.invokevirtual 66, 3) := by decide +kernel
theorem dX7_readEnd_13 : decode cX7_readEnd 13 = .ok (.ireturn, 1) := by decide +kernel
theorem dX7_readEnd_14 : decode cX7_readEnd 14 = .ok (.aload_n 0, 1) := by decide +kernel
theorem dX7_readEnd_15 : decode cX7_readEnd 15 = .ok (.invokevirtual 137, 3) := by decide +kernel
theorem dX7_readEnd_18 : decode cX7_readEnd 18 = .ok (.iconst 1, 1) := by decide +kernel
theorem dX7_readEnd_19 : decode cX7_readEnd 19 = .ok (.ireturn, 1) := by decide +kernel
set_option maxRecDepth 20000 in
theorem ggX7_frame_X7_goes : GoodIn wsX7_frame wsX7_goes := goodIn_r _ [15, 5, 3, 16, 17, 7, 18, 19, 20, 21, 22, 23, 14, 24, 25, 26, 27, 28, 29, 30, 31, 104, 105, 106, 107, 108, 109, 110, 111, 112, 113, 114, 115, 116, 117, 118, 119, 120, 121, 122, 123, 124, 125, 126, 127, 128, 129, 130, 131, 132, 133, 134] (by decide +kernel) (by decide +kernel)
set_option maxRecDepth 20000 in
theorem gX7_frame_X7_goes : GoodIn wsX7_frame (wsV RX7 137 RX7 yX7_goes wsX7_goes) := goodIn_app (goodIn_of _ (by decide +kernel)) ggX7_frame_X7_goes
set_option maxRecDepth 20000 in
theorem ggX7_frame_X7_readRow : GoodIn wsX7_frame wsX7_readRow := goodIn_r _ [35, 6, 36, 37, 38, 14, 39, 40, 41, 42, 20, 21, 43, 44, 45, 46, 7, 18, 47, 48, 49, 50, 19, 11, 12, 13, 15, 5, 3, 16, 17, 22, 23, 24, 25, 26, 27, 28, 29, 30, 31, 51, 52, 53, 54, 55, 56, 57, 58, 4, 8, 59, 60, 61, 62, 63, 64, 65, 66, 67, 68, 69, 70, 71, 72, 73, 74, 75, 76, 77, 78, 79, 80, 81, 82, 83, 84, 85, 86, 87, 88, 89, 90, 91, 92, 93, 94, 95, 96, 104, 105, 106, 107, 108, 109, 110, 111, 112, 113, 114, 115, 116, 117, 118, 119, 120, 121, 122, 123, 124, 125, 126, 127, 128, 129, 130, 131, 132, 133, 134] (by decide +kernel) (by decide +kernel)
set_option maxRecDepth 20000 in
theorem gX7_frame_X7_readRow : GoodIn wsX7_frame (wsV RX7 172 RX7 yX7_readRow wsX7_readRow) := goodIn_app (goodIn_of _ (by decide +kernel)) ggX7_frame_X7_readRow
set_option maxRecDepth 20000 in
theorem ggX7_frame_X7_readEnd : GoodIn wsX7_frame wsX7_readEnd := goodIn_r _ [100, 7, 55, 56, 57, 14, 58, 4, 17, 8, 11, 12, 13, 15, 5, 3, 16, 18, 19, 20, 21, 22, 23, 24, 25, 26, 27, 28, 29, 30, 31, 104, 105, 106, 107, 108, 109, 110, 111, 112, 113, 114, 115, 116, 117, 118, 119, 120, 121, 122, 123, 124, 125, 126, 127, 128, 129, 130, 131, 132, 133, 134] (by decide +kernel) (by decide +kernel)
set_option maxRecDepth 20000 in
theorem gX7_frame_X7_readEnd : GoodIn wsX7_frame (wsV RX7 175 RX7 yX7_readEnd wsX7_readEnd) := goodIn_app (goodIn_of _ (by decide +kernel)) ggX7_frame_X7_readEnd
set_option maxRecDepth 20000 in
theorem ggX7_frame_X7_copy : GoodIn wsX7_frame wsX7_copy := goodIn_r _ [103] (by decide +kernel) (by decide +kernel)
set_option maxRecDepth 20000 in
theorem gX7_frame_X7_copy : GoodIn wsX7_frame (va_wsS RX7 178 yX7_copy wsX7_copy) := goodIn_app (goodIn_of _ (by decide +kernel)) ggX7_frame_X7_copy
theorem dX7_frame_0 : decode cX7_frame 0 = .ok (.aload_n 0, 1) := by decide +kernel
theorem dX7_frame_1 : decode cX7_frame 1 = .ok (.iconst 0, 1) := by decide +kernel
theorem dX7_frame_2 : decode cX7_frame 2 = .ok (.putfield 1, 3) := by decide +kernel
theorem dX7_frame_5 : decode cX7_frame 5 = .ok (.aload_n 0, 1) := by decide +kernel
theorem dX7_frame_6 : decode cX7_frame 6 = .ok (.aload_n 0, 1) := by decide +kernel
theorem dX7_frame_7 : decode cX7_frame 7 = .ok (.getfield 11, 3) := by decide +kernel
theorem dX7_frame_10 : decode cX7_frame 10 = .ok (.putfield 18, 3) := by decide +kernel
theorem dX7_frame_13 : decode cX7_frame 13 = .ok (.aload_n 0, 1) := by decide +kernel
theorem dX7_frame_14 : decode cX7_frame 14 = .ok (.iconst 0, 1) := by decide +kernel
theorem dX7_frame_15 : decode cX7_frame 15 = .ok (.putfield 11, 3) := by decide +kernel
theorem dX7_frame_18 : decode cX7_frame 18 = .ok (.aload_n 0, 1) := by decide +kernel
theorem dX7_frame_19 : decode cX7_frame 19 = .ok (.iconst 0, 1) := by decide +kernel
theorem dX7_frame_20 : decode cX7_frame 20 = .ok (.putfield 60, 3) := by decide +kernel
theorem dX7_frame_23 : decode cX7_frame 23 = .ok (.aload_n 0, 1) := by decide +kernel
theorem dX7_frame_24 : decode cX7_frame 24 = .ok (.iconst 0, 1) := by decide +kernel
theorem dX7_frame_25 : decode cX7_frame 25 = .ok (.putfield 21, 3) := by decide +kernel
theorem dX7_frame_28 : decode cX7_frame 28 = .ok (.iconst 0, 1) := by decide +kernel
theorem dX7_frame_29 : decode cX7_frame 29 = .ok (.istore_n 1, 1) := by decide +kernel
theorem dX7_frame_30 : decode cX7_frame 30 = .ok (.iconst 0, 1) := by decide +kernel
theorem dX7_frame_31 : decode cX7_frame 31 = .ok (.istore_n 2, 1) := by decide +kernel
theorem dX7_frame_32 : decode cX7_frame 32 = .ok (.iload_n 2, 1) := by decide +kernel
theorem dX7_frame_33 : decode cX7_frame 33 = .ok (.bipush 19, 2) := by decide +kernel
theorem dX7_frame_35 : decode cX7_frame 35 = .ok (.if_icmp .ge 16, 3) := by decide +kernel
theorem dX7_frame_38 : decode cX7_frame 38 = .ok (.aload_n 0, 1) := by decide +kernel
theorem dX7_frame_39 : decode cX7_frame 39 = .ok (.getfield 82, 3) := by decide +kernel
theorem dX7_frame_42 : decode cX7_frame 42 = .ok (.iload_n 2, 1) := by decide +kernel
theorem dX7_frame_43 : decode cX7_frame 43 = .ok (.iconst 0, 1) := by decide +kernel
theorem dX7_frame_44 : decode cX7_frame 44 = .ok (.iastore, 1) := by decide +kernel
theorem dX7_frame_45 : decode cX7_frame 45 = .ok (.iinc 2 1, 3) := by decide +kernel
theorem dX7_frame_48 : decode cX7_frame 48 = .ok (.goto (-16), 3) := by decide +kernel
theorem dX7_frame_51 : decode cX7_frame 51 = .ok (.aload_n 0, 1) := by decide +kernel
theorem dX7_frame_52 : decode cX7_frame 52 = .ok (.invokevirtual 137, 3) := by decide +kernel
theorem dX7_frame_55 : decode cX7_frame 55 = .ok (.aload_n 0, 1) := by decide +kernel
theorem dX7_frame_56 : decode cX7_frame 56 = .ok (.getfield 27, 3) := by decide +kernel
theorem dX7_frame_59 : decode cX7_frame 59 = .ok (.ifCond .eq 30, 3) := by decide +kernel
theorem dX7_frame_62 : decode cX7_frame 62 = .ok (.aload_n 0, 1) := by decide +kernel
theorem dX7_frame_63 : decode cX7_frame 63 = .ok (.invokevirtual 172, 3) := by decide +kernel
theorem dX7_frame_66 : decode cX7_frame 66 = .ok (.ifCond .eq 10, 3) := by decide +kernel
theorem dX7_frame_69 : decode cX7_frame 69 = .ok (.aload_n 0, 1) := by decide +kernel
theorem dX7_frame_70 : decode cX7_frame 70 = .ok (.invokevirtual 175, 3) := by decide +kernel
theorem dX7_frame_73 : decode cX7_frame 73 = .ok (.ifCond .ne 10, 3) := by decide +kernel
theorem dX7_frame_76 : decode cX7_frame 76 = .ok (.iconst (-1), 1) := by decide +kernel
theorem dX7_frame_77 : decode cX7_frame 77 = .ok (.aload_n 0, 1) := by decide +kernel
theorem dX7_frame_78 : decode cX7_frame 78 = .ok (.getfield 63, 3) := by decide +kernel
theorem dX7_frame_81 : decode cX7_frame 81 = .ok (.isub, 1) := by decide +kernel
theorem dX7_frame_82 : decode cX7_frame 82 = .ok (.ireturn, 1) := by decide +kernel
theorem dX7_frame_83 : decode cX7_frame 83 = .ok (.iinc 1 1, 3) := by decide +kernel
theorem dX7_frame_86 : decode cX7_frame 86 = .ok (.goto (-31), 3) := by decide +kernel
theorem dX7_frame_89 : decode cX7_frame 89 = .ok (.aload_n 0, 1) := by decide +kernel
theorem dX7_frame_90 : decode cX7_frame 90 = .ok (.getfield 82, 3) := by decide +kernel
theorem dX7_frame_93 : decode cX7_frame 93 = .ok (.iconst 0, 1) := by decide +kernel
theorem dX7_frame_94 : decode cX7_frame 94 = .ok (.aload_n 0, 1) := by decide +kernel
theorem dX7_frame_95 : decode cX7_frame 95 = .ok (.getfield 79, 3) := by decide +kernel
theorem dX7_frame_98 : decode cX7_frame 98 = .ok (.iconst 0, 1) := by decide +kernel
theorem dX7_frame_99 : decode cX7_frame 99 = .ok (.invokestatic 178, 3) := by decide +kernel
theorem dX7_frame_102 : decode cX7_frame 102 = .ok (.aload_n 0, 1) := by decide +kernel
theorem dX7_frame_103 : decode cX7_frame 103 = .ok (.iconst 0, 1) := by decide +kernel
theorem dX7_frame_104 : decode cX7_frame 104 = .ok (.putfield 182, 3) := by decide +kernel
theorem dX7_frame_107 : decode cX7_frame 107 = .ok (.iload_n 1, 1) := by decide +kernel
theorem dX7_frame_108 : decode cX7_frame 108 = .ok (.ireturn, 1) := by decide +kernel
theorem dX7_fault_0 : decode cX7_fault 0 = .ok (.aload_n 0, 1) := by decide +kernel
theorem dX7_fault_1 : decode cX7_fault 1 = .ok (.iconst 0, 1) := by decide +kernel
theorem dX7_fault_2 : decode cX7_fault 2 = .ok (.putfield 1, 3) := by decide +kernel
theorem dX7_fault_5 : decode cX7_fault 5 = .ok (.aload_n 0, 1) := by decide +kernel
theorem dX7_fault_6 : decode cX7_fault 6 = .ok (.getfield 60, 3) := by decide +kernel
theorem dX7_fault_9 : decode cX7_fault 9 = .ok (.ireturn, 1) := by decide +kernel
theorem dX7_laysKind_0 : decode cX7_laysKind 0 = .ok (.iconst 0, 1) := by decide +kernel
theorem dX7_laysKind_1 : decode cX7_laysKind 1 = .ok (.istore_n 3, 1) := by decide +kernel
theorem dX7_laysKind_2 : decode cX7_laysKind 2 = .ok (.iload_n 3, 1) := by decide +kernel
theorem dX7_laysKind_3 : decode cX7_laysKind 3 = .ok (.bipush 19, 2) := by decide +kernel
theorem dX7_laysKind_5 : decode cX7_laysKind 5 = .ok (.if_icmp .ge 13, 3) := by decide +kernel
theorem dX7_laysKind_8 : decode cX7_laysKind 8 = .ok (.aload_n 0, 1) := by decide +kernel
theorem dX7_laysKind_9 : decode cX7_laysKind 9 = .ok (.iload_n 3, 1) := by decide +kernel
theorem dX7_laysKind_10 : decode cX7_laysKind 10 = .ok (.iconst 0, 1) := by decide +kernel
theorem dX7_laysKind_11 : decode cX7_laysKind 11 = .ok (.iastore, 1) := by decide +kernel
theorem dX7_laysKind_12 : decode cX7_laysKind 12 = .ok (.iinc 3 1, 3) := by decide +kernel
theorem dX7_laysKind_15 : decode cX7_laysKind 15 = .ok (.goto (-13), 3) := by decide +kernel
theorem dX7_laysKind_18 : decode cX7_laysKind 18 = .ok (.aload_n 0, 1) := by decide +kernel
theorem dX7_laysKind_19 : decode cX7_laysKind 19 = .ok (.iconst 0, 1) := by decide +kernel
theorem dX7_laysKind_20 : decode cX7_laysKind 20 = .ok (.iload_n 1, 1) := by decide +kernel
theorem dX7_laysKind_21 : decode cX7_laysKind 21 = .ok (.iconst 1, 1) := by decide +kernel
theorem dX7_laysKind_22 : decode cX7_laysKind 22 = .ok (.if_icmp .eq 8, 3) := by decide +kernel
theorem dX7_laysKind_25 : decode cX7_laysKind 25 = .ok (.iload_n 1, 1) := by decide +kernel
theorem dX7_laysKind_26 : decode cX7_laysKind 26 = .ok (.iconst 3, 1) := by decide +kernel
theorem dX7_laysKind_27 : decode cX7_laysKind 27 = .ok (.if_icmp .ne 11, 3) := by decide +kernel
theorem dX7_laysKind_30 : decode cX7_laysKind 30 = .ok (.iconst 2, 1) := by decide +kernel
theorem dX7_laysKind_31 : decode cX7_laysKind 31 = .ok (.iload_n 2, 1) := by decide +kernel
theorem dX7_laysKind_32 : decode cX7_laysKind 32 = .ok (.imul, 1) := by decide +kernel
theorem dX7_laysKind_33 : decode cX7_laysKind 33 = .ok (.iconst 1, 1) := by decide +kernel
theorem dX7_laysKind_34 : decode cX7_laysKind 34 = .ok (.iadd, 1) := by decide +kernel
theorem dX7_laysKind_35 : decode cX7_laysKind 35 = .ok (.goto 6, 3) := by decide +kernel
theorem dX7_laysKind_38 : decode cX7_laysKind 38 = .ok (.iconst 2, 1) := by decide +kernel
theorem dX7_laysKind_39 : decode cX7_laysKind 39 = .ok (.iload_n 2, 1) := by decide +kernel
theorem dX7_laysKind_40 : decode cX7_laysKind 40 = .ok (.imul, 1) := by decide +kernel
theorem dX7_laysKind_41 : decode cX7_laysKind 41 = .ok (.iastore, 1) := by decide +kernel
theorem dX7_laysKind_42 : decode cX7_laysKind 42 = .ok (.aload_n 0, 1) := by decide +kernel
theorem dX7_laysKind_43 : decode cX7_laysKind 43 = .ok (.iconst 1, 1) := by decide +kernel
theorem dX7_laysKind_44 : decode cX7_laysKind 44 = .ok (.iload_n 1, 1) := by decide +kernel
theorem dX7_laysKind_45 : decode cX7_laysKind 45 = .ok (.iconst 1, 1) := by decide +kernel
theorem dX7_laysKind_46 : decode cX7_laysKind 46 = .ok (.if_icmp .ne 13, 3) := by decide +kernel
theorem dX7_laysKind_49 : decode cX7_laysKind 49 = .ok (.iconst 1, 1) := by decide +kernel
theorem dX7_laysKind_50 : decode cX7_laysKind 50 = .ok (.iconst 2, 1) := by decide +kernel
theorem dX7_laysKind_51 : decode cX7_laysKind 51 = .ok (.iload_n 2, 1) := by decide +kernel
theorem dX7_laysKind_52 : decode cX7_laysKind 52 = .ok (.imul, 1) := by decide +kernel
theorem dX7_laysKind_53 : decode cX7_laysKind 53 = .ok (.iconst 1, 1) := by decide +kernel
theorem dX7_laysKind_54 : decode cX7_laysKind 54 = .ok (.isub, 1) := by decide +kernel
theorem dX7_laysKind_55 : decode cX7_laysKind 55 = .ok (.ishl, 1) := by decide +kernel
theorem dX7_laysKind_56 : decode cX7_laysKind 56 = .ok (.goto 15, 3) := by decide +kernel
theorem dX7_laysKind_59 : decode cX7_laysKind 59 = .ok (.iload_n 1, 1) := by decide +kernel
theorem dX7_laysKind_60 : decode cX7_laysKind 60 = .ok (.iconst 3, 1) := by decide +kernel
theorem dX7_laysKind_61 : decode cX7_laysKind 61 = .ok (.if_icmp .ne 9, 3) := by decide +kernel
theorem dX7_laysKind_64 : decode cX7_laysKind 64 = .ok (.iconst 1, 1) := by decide +kernel
theorem dX7_laysKind_65 : decode cX7_laysKind 65 = .ok (.iload_n 2, 1) := by decide +kernel
theorem dX7_laysKind_66 : decode cX7_laysKind 66 = .ok (.ishl, 1) := by decide +kernel
theorem dX7_laysKind_67 : decode cX7_laysKind 67 = .ok (.goto 4, 3) := by decide +kernel
theorem dX7_laysKind_70 : decode cX7_laysKind 70 = .ok (.iconst 0, 1) := by decide +kernel
theorem dX7_laysKind_71 : decode cX7_laysKind 71 = .ok (.iastore, 1) := by decide +kernel
theorem dX7_laysKind_72 : decode cX7_laysKind 72 = .ok (.aload_n 0, 1) := by decide +kernel
theorem dX7_laysKind_73 : decode cX7_laysKind 73 = .ok (.iconst 2, 1) := by decide +kernel
theorem dX7_laysKind_74 : decode cX7_laysKind 74 = .ok (.iload_n 1, 1) := by decide +kernel
theorem dX7_laysKind_75 : decode cX7_laysKind 75 = .ok (.iconst 2, 1) := by decide +kernel
theorem dX7_laysKind_76 : decode cX7_laysKind 76 = .ok (.if_icmp .ne 13, 3) := by decide +kernel
theorem dX7_laysKind_79 : decode cX7_laysKind 79 = .ok (.iconst 1, 1) := by decide +kernel
theorem dX7_laysKind_80 : decode cX7_laysKind 80 = .ok (.iload_n 2, 1) := by decide +kernel
theorem dX7_laysKind_81 : decode cX7_laysKind 81 = .ok (.ishl, 1) := by decide +kernel
theorem dX7_laysKind_82 : decode cX7_laysKind 82 = .ok (.iconst 1, 1) := by decide +kernel
