theorem dX7_thrown_0 : decode cX7_thrown 0 = .ok (.aload_n 0, 1) := by decide +kernel
theorem dX7_thrown_1 : decode cX7_thrown 1 = .ok (.getfield 1, 3) := by decide +kernel
theorem dX7_thrown_4 : decode cX7_thrown 4 = .ok (.ireturn, 1) := by decide +kernel
theorem dX7_refuse_0 : decode cX7_refuse 0 = .ok (.aload_n 0, 1) := by decide +kernel
theorem dX7_refuse_1 : decode cX7_refuse 1 = .ok (.iconst 1, 1) := by decide +kernel
theorem dX7_refuse_2 : decode cX7_refuse 2 = .ok (.putfield 1, 3) := by decide +kernel
theorem dX7_refuse_5 : decode cX7_refuse 5 = .ok (.iconst 0, 1) := by decide +kernel
theorem dX7_refuse_6 : decode cX7_refuse 6 = .ok (.ireturn, 1) := by decide +kernel
theorem dX7_isIn_0 : decode cX7_isIn 0 = .ok (.iload_n 0, 1) := by decide +kernel
theorem dX7_isIn_1 : decode cX7_isIn 1 = .ok (.iload_n 1, 1) := by decide +kernel
theorem dX7_isIn_2 : decode cX7_isIn 2 = .ok (.if_icmp .lt 12, 3) := by decide +kernel
theorem dX7_isIn_5 : decode cX7_isIn 5 = .ok (.iload_n 0, 1) := by decide +kernel
theorem dX7_isIn_6 : decode cX7_isIn 6 = .ok (.iload_n 2, 1) := by decide +kernel
theorem dX7_isIn_7 : decode cX7_isIn 7 = .ok (.if_icmp .gt 7, 3) := by decide +kernel
theorem dX7_isIn_10 : decode cX7_isIn 10 = .ok (.iconst 1, 1) := by decide +kernel
theorem dX7_isIn_11 : decode cX7_isIn 11 = .ok (.goto 4, 3) := by decide +kernel
theorem dX7_isIn_14 : decode cX7_isIn 14 = .ok (.iconst 0, 1) := by decide +kernel
theorem dX7_isIn_15 : decode cX7_isIn 15 = .ok (.ireturn, 1) := by decide +kernel
theorem dX7_has_0 : decode cX7_has 0 = .ok (.iload_n 0, 1) := by decide +kernel
theorem dX7_has_1 : decode cX7_has 1 = .ok (.iload_n 1, 1) := by decide +kernel
theorem dX7_has_2 : decode cX7_has 2 = .ok (.ishr, 1) := by decide +kernel
theorem dX7_has_3 : decode cX7_has 3 = .ok (.iconst 1, 1) := by decide +kernel
theorem dX7_has_4 : decode cX7_has 4 = .ok (.iand, 1) := by decide +kernel
theorem dX7_has_5 : decode cX7_has 5 = .ok (.iconst 1, 1) := by decide +kernel
theorem dX7_has_6 : decode cX7_has 6 = .ok (.if_icmp .ne 7, 3) := by decide +kernel
theorem dX7_has_9 : decode cX7_has 9 = .ok (.iconst 1, 1) := by decide +kernel
theorem dX7_has_10 : decode cX7_has 10 = .ok (.goto 4, 3) := by decide +kernel
theorem dX7_has_13 : decode cX7_has 13 = .ok (.iconst 0, 1) := by decide +kernel
theorem dX7_has_14 : decode cX7_has 14 = .ok (.ireturn, 1) := by decide +kernel
theorem dX7_bits_0 : decode cX7_bits 0 = .ok (.iconst 0, 1) := by decide +kernel
theorem dX7_bits_1 : decode cX7_bits 1 = .ok (.istore_n 1, 1) := by decide +kernel
theorem dX7_bits_2 : decode cX7_bits 2 = .ok (.iload_n 0, 1) := by decide +kernel
theorem dX7_bits_3 : decode cX7_bits 3 = .ok (.istore_n 2, 1) := by decide +kernel
theorem dX7_bits_4 : decode cX7_bits 4 = .ok (.iload_n 2, 1) := by decide +kernel
theorem dX7_bits_5 : decode cX7_bits 5 = .ok (.ifCond .eq 15, 3) := by decide +kernel
theorem dX7_bits_8 : decode cX7_bits 8 = .ok (.iinc 1 1, 3) := by decide +kernel
theorem dX7_bits_11 : decode cX7_bits 11 = .ok (.iload_n 2, 1) := by decide +kernel
theorem dX7_bits_12 : decode cX7_bits 12 = .ok (.iload_n 2, 1) := by decide +kernel
theorem dX7_bits_13 : decode cX7_bits 13 = .ok (.iconst 1, 1) := by decide +kernel
theorem dX7_bits_14 : decode cX7_bits 14 = .ok (.isub, 1) := by decide +kernel
theorem dX7_bits_15 : decode cX7_bits 15 = .ok (.iand, 1) := by decide +kernel
theorem dX7_bits_16 : decode cX7_bits 16 = .ok (.istore_n 2, 1) := by decide +kernel
theorem dX7_bits_17 : decode cX7_bits 17 = .ok (.goto (-13), 3) := by decide +kernel
theorem dX7_bits_20 : decode cX7_bits 20 = .ok (.iload_n 1, 1) := by decide +kernel
theorem dX7_bits_21 : decode cX7_bits 21 = .ok (.ireturn, 1) := by decide +kernel
theorem dX7_lay_0 : decode cX7_lay 0 = .ok (.bipush 24, 2) := by decide +kernel
theorem dX7_lay_2 : decode cX7_lay 2 = .ok (.istore_n 2, 1) := by decide +kernel
theorem dX7_lay_3 : decode cX7_lay 3 = .ok (.iload_n 2, 1) := by decide +kernel
theorem dX7_lay_4 : decode cX7_lay 4 = .ok (.ifCond .lt 35, 3) := by decide +kernel
theorem dX7_lay_7 : decode cX7_lay 7 = .ok (.aload_n 0, 1) := by decide +kernel
theorem dX7_lay_8 : decode cX7_lay 8 = .ok (.getfield 7, 3) := by decide +kernel
theorem dX7_lay_11 : decode cX7_lay 11 = .ok (.aload_n 0, 1) := by decide +kernel
theorem dX7_lay_12 : decode cX7_lay 12 = .ok (.getfield 11, 3) := by decide +kernel
theorem dX7_lay_15 : decode cX7_lay 15 = .ok (.iload_n 1, 1) := by decide +kernel
theorem dX7_lay_16 : decode cX7_lay 16 = .ok (.iload_n 2, 1) := by decide +kernel
theorem dX7_lay_17 : decode cX7_lay 17 = .ok (.iushr, 1) := by decide +kernel
theorem dX7_lay_18 : decode cX7_lay 18 = .ok (.sipush 255, 3) := by decide +kernel
theorem dX7_lay_21 : decode cX7_lay 21 = .ok (.iand, 1) := by decide +kernel
theorem dX7_lay_22 : decode cX7_lay 22 = .ok (.iastore, 1) := by decide +kernel
theorem dX7_lay_23 : decode cX7_lay 23 = .ok (.aload_n 0, 1) := by decide +kernel
theorem dX7_lay_24 : decode cX7_lay 24 = .ok (.dup, 1) := by decide +kernel
theorem dX7_lay_25 : decode cX7_lay 25 = .ok (.getfield 11, 3) := by decide +kernel
theorem dX7_lay_28 : decode cX7_lay 28 = .ok (.iconst 1, 1) := by decide +kernel
theorem dX7_lay_29 : decode cX7_lay 29 = .ok (.iadd, 1) := by decide +kernel
theorem dX7_lay_30 : decode cX7_lay 30 = .ok (.putfield 11, 3) := by decide +kernel
theorem dX7_lay_33 : decode cX7_lay 33 = .ok (.iinc 2 (-8), 3) := by decide +kernel
theorem dX7_lay_36 : decode cX7_lay 36 = .ok (.goto (-33), 3) := by decide +kernel
theorem dX7_lay_39 : decode cX7_lay 39 = .ok (.return_, 1) := by decide +kernel
set_option maxRecDepth 20000 in
theorem ggX7_feed_X7_lay : GoodIn wsX7_feed wsX7_lay := goodIn_r _ [7, 8, 2, 9, 10, 11, 12, 13, 14, 15, 16, 17, 18, 19, 20, 21, 22, 23, 24, 25, 26, 27, 28, 29, 30, 31, 32, 33, 34, 35, 36, 37, 38, 39] (by decide +kernel) (by decide +kernel)
set_option maxRecDepth 20000 in
theorem gX7_feed_X7_lay : GoodIn wsX7_feed (wsV RX7 14 RX7 yX7_lay wsX7_lay) := goodIn_app (goodIn_of _ (by decide +kernel)) ggX7_feed_X7_lay
theorem dX7_feed_0 : decode cX7_feed 0 = .ok (.aload_n 0, 1) := by decide +kernel
theorem dX7_feed_1 : decode cX7_feed 1 = .ok (.iconst 0, 1) := by decide +kernel
theorem dX7_feed_2 : decode cX7_feed 2 = .ok (.putfield 1, 3) := by decide +kernel
theorem dX7_feed_5 : decode cX7_feed 5 = .ok (.aload_n 0, 1) := by decide +kernel
theorem dX7_feed_6 : decode cX7_feed 6 = .ok (.getfield 11, 3) := by decide +kernel
theorem dX7_feed_9 : decode cX7_feed 9 = .ok (.bipush 20, 2) := by decide +kernel
theorem dX7_feed_11 : decode cX7_feed 11 = .ok (.iadd, 1) := by decide +kernel
theorem dX7_feed_12 : decode cX7_feed 12 = .ok (.sipush 340, 3) := by decide +kernel
theorem dX7_feed_15 : decode cX7_feed 15 = .ok (.if_icmp .le 5, 3) := by decide +kernel
theorem dX7_feed_18 : decode cX7_feed 18 = .ok (.iconst (-1), 1) := by decide +kernel
theorem dX7_feed_19 : decode cX7_feed 19 = .ok (.ireturn, 1) := by decide +kernel
theorem dX7_feed_20 : decode cX7_feed 20 = .ok (.aload_n 0, 1) := by decide +kernel
theorem dX7_feed_21 : decode cX7_feed 21 = .ok (.iload_n 1, 1) := by decide +kernel
theorem dX7_feed_22 : decode cX7_feed 22 = .ok (.invokevirtual 14, 3) := by decide +kernel
theorem dX7_feed_25 : decode cX7_feed 25 = .ok (.aload_n 0, 1) := by decide +kernel
theorem dX7_feed_26 : decode cX7_feed 26 = .ok (.iload_n 2, 1) := by decide +kernel
theorem dX7_feed_27 : decode cX7_feed 27 = .ok (.invokevirtual 14, 3) := by decide +kernel
theorem dX7_feed_30 : decode cX7_feed 30 = .ok (.aload_n 0, 1) := by decide +kernel
theorem dX7_feed_31 : decode cX7_feed 31 = .ok (.iload_n 3, 1) := by decide +kernel
theorem dX7_feed_32 : decode cX7_feed 32 = .ok (.invokevirtual 14, 3) := by decide +kernel
theorem dX7_feed_35 : decode cX7_feed 35 = .ok (.aload_n 0, 1) := by decide +kernel
theorem dX7_feed_36 : decode cX7_feed 36 = .ok (.iload 4, 2) := by decide +kernel
theorem dX7_feed_38 : decode cX7_feed 38 = .ok (.invokevirtual 14, 3) := by decide +kernel
theorem dX7_feed_41 : decode cX7_feed 41 = .ok (.aload_n 0, 1) := by decide +kernel
theorem dX7_feed_42 : decode cX7_feed 42 = .ok (.iload 5, 2) := by decide +kernel
theorem dX7_feed_44 : decode cX7_feed 44 = .ok (.invokevirtual 14, 3) := by decide +kernel
theorem dX7_feed_47 : decode cX7_feed 47 = .ok (.aload_n 0, 1) := by decide +kernel
theorem dX7_feed_48 : decode cX7_feed 48 = .ok (.getfield 11, 3) := by decide +kernel
theorem dX7_feed_51 : decode cX7_feed 51 = .ok (.ireturn, 1) := by decide +kernel
theorem dX7_end_0 : decode cX7_end 0 = .ok (.aload_n 0, 1) := by decide +kernel
theorem dX7_end_1 : decode cX7_end 1 = .ok (.iconst 0, 1) := by decide +kernel
theorem dX7_end_2 : decode cX7_end 2 = .ok (.putfield 1, 3) := by decide +kernel
theorem dX7_end_5 : decode cX7_end 5 = .ok (.iload_n 1, 1) := by decide +kernel
theorem dX7_end_6 : decode cX7_end 6 = .ok (.ifCond .lt 11, 3) := by decide +kernel
theorem dX7_end_9 : decode cX7_end 9 = .ok (.iload_n 1, 1) := by decide +kernel
theorem dX7_end_10 : decode cX7_end 10 = .ok (.aload_n 0, 1) := by decide +kernel
theorem dX7_end_11 : decode cX7_end 11 = .ok (.getfield 11, 3) := by decide +kernel
theorem dX7_end_14 : decode cX7_end 14 = .ok (.if_icmp .le 5, 3) := by decide +kernel
theorem dX7_end_17 : decode cX7_end 17 = .ok (.iconst 0, 1) := by decide +kernel
theorem dX7_end_18 : decode cX7_end 18 = .ok (.ireturn, 1) := by decide +kernel
theorem dX7_end_19 : decode cX7_end 19 = .ok (.aload_n 0, 1) := by decide +kernel
theorem dX7_end_20 : decode cX7_end 20 = .ok (.iload_n 1, 1) := by decide +kernel
theorem dX7_end_21 : decode cX7_end 21 = .ok (.putfield 11, 3) := by decide +kernel
theorem dX7_end_24 : decode cX7_end 24 = .ok (.iconst 1, 1) := by decide +kernel
theorem dX7_end_25 : decode cX7_end 25 = .ok (.ireturn, 1) := by decide +kernel
theorem dX7_tapeAt_0 : decode cX7_tapeAt 0 = .ok (.iload_n 1, 1) := by decide +kernel
theorem dX7_tapeAt_1 : decode cX7_tapeAt 1 = .ok (.aload_n 0, 1) := by decide +kernel
theorem dX7_tapeAt_2 : decode cX7_tapeAt 2 = .ok (.getfield 18, 3) := by decide +kernel
theorem dX7_tapeAt_5 : decode cX7_tapeAt 5 = .ok (.if_icmp .ge 12, 3) := by decide +kernel
theorem dX7_tapeAt_8 : decode cX7_tapeAt 8 = .ok (.aload_n 0, 1) := by decide +kernel
theorem dX7_tapeAt_9 : decode cX7_tapeAt 9 = .ok (.getfield 7, 3) := by decide +kernel
theorem dX7_tapeAt_12 : decode cX7_tapeAt 12 = .ok (.iload_n 1, 1) := by decide +kernel
theorem dX7_tapeAt_13 : decode cX7_tapeAt 13 = .ok (.iaload, 1) := by decide +kernel
theorem dX7_tapeAt_14 : decode cX7_tapeAt 14 = .ok (.goto 4, 3) := by decide +kernel
theorem dX7_tapeAt_17 : decode cX7_tapeAt 17 = .ok (.iconst 0, 1) := by decide +kernel
theorem dX7_tapeAt_18 : decode cX7_tapeAt 18 = .ok (.ireturn, 1) := by decide +kernel
theorem dX7_isDigit_0 : decode cX7_isDigit 0 = .ok (.iload_n 0, 1) := by decide +kernel
theorem dX7_isDigit_1 : decode cX7_isDigit 1 = .ok (.bipush 48, 2) := by decide +kernel
theorem dX7_isDigit_3 : decode cX7_isDigit 3 = .ok (.if_icmp .lt 13, 3) := by decide +kernel
theorem dX7_isDigit_6 : decode cX7_isDigit 6 = .ok (.iload_n 0, 1) := by decide +kernel
theorem dX7_isDigit_7 : decode cX7_isDigit 7 = .ok (.bipush 57, 2) := by decide +kernel
theorem dX7_isDigit_9 : decode cX7_isDigit 9 = .ok (.if_icmp .gt 7, 3) := by decide +kernel
theorem dX7_isDigit_12 : decode cX7_isDigit 12 = .ok (.iconst 1, 1) := by decide +kernel
theorem dX7_isDigit_13 : decode cX7_isDigit 13 = .ok (.goto 4, 3) := by decide +kernel
theorem dX7_isDigit_16 : decode cX7_isDigit 16 = .ok (.iconst 0, 1) := by decide +kernel
theorem dX7_isDigit_17 : decode cX7_isDigit 17 = .ok (.ireturn, 1) := by decide +kernel
theorem dX7_isLetter_0 : decode cX7_isLetter 0 = .ok (.iload_n 0, 1) := by decide +kernel
theorem dX7_isLetter_1 : decode cX7_isLetter 1 = .ok (.bipush 97, 2) := by decide +kernel
theorem dX7_isLetter_3 : decode cX7_isLetter 3 = .ok (.if_icmp .lt 13, 3) := by decide +kernel
theorem dX7_isLetter_6 : decode cX7_isLetter 6 = .ok (.iload_n 0, 1) := by decide +kernel
theorem dX7_isLetter_7 : decode cX7_isLetter 7 = .ok (.bipush 122, 2) := by decide +kernel
theorem dX7_isLetter_9 : decode cX7_isLetter 9 = .ok (.if_icmp .gt 7, 3) := by decide +kernel
theorem dX7_isLetter_12 : decode cX7_isLetter 12 = .ok (.iconst 1, 1) := by decide +kernel
theorem dX7_isLetter_13 : decode cX7_isLetter 13 = .ok (.goto 4, 3) := by decide +kernel
theorem dX7_isLetter_16 : decode cX7_isLetter 16 = .ok (.iconst 0, 1) := by decide +kernel
theorem dX7_isLetter_17 : decode cX7_isLetter 17 = .ok (.ireturn, 1) := by decide +kernel
set_option maxRecDepth 20000 in
theorem ggX7_goes_X7_isLetter : GoodIn wsX7_goes wsX7_isLetter := goodIn_r _ [13] (by decide +kernel) (by decide +kernel)
set_option maxRecDepth 20000 in
theorem gX7_goes_X7_isLetter : GoodIn wsX7_goes (va_wsS RX7 30 yX7_isLetter wsX7_isLetter) := goodIn_app (goodIn_of _ (by decide +kernel)) ggX7_goes_X7_isLetter
set_option maxRecDepth 20000 in
theorem ggX7_goes_X7_isDigit : GoodIn wsX7_goes wsX7_isDigit := goodIn_r _ [16] (by decide +kernel) (by decide +kernel)
set_option maxRecDepth 20000 in
theorem gX7_goes_X7_isDigit : GoodIn wsX7_goes (va_wsS RX7 34 yX7_isDigit wsX7_isDigit) := goodIn_app (goodIn_of _ (by decide +kernel)) ggX7_goes_X7_isDigit
set_option maxRecDepth 20000 in
theorem ggX7_goes_X7_tapeAt : GoodIn wsX7_goes wsX7_tapeAt := goodIn_r _ [20, 2, 3, 21, 22, 23, 24, 25, 26, 27, 28, 29, 30, 31, 32, 33, 34, 35, 36, 37, 38, 39, 40, 41, 42, 43, 44, 45, 46, 47, 48, 49, 50, 51] (by decide +kernel) (by decide +kernel)
set_option maxRecDepth 20000 in
theorem gX7_goes_X7_tapeAt : GoodIn wsX7_goes (wsV RX7 44 RX7 yX7_tapeAt wsX7_tapeAt) := goodIn_app (goodIn_of _ (by decide +kernel)) ggX7_goes_X7_tapeAt
theorem dX7_goes_0 : decode cX7_goes 0 = .ok (.aload_n 0, 1) := by decide +kernel
theorem dX7_goes_1 : decode cX7_goes 1 = .ok (.getfield 21, 3) := by decide +kernel
theorem dX7_goes_4 : decode cX7_goes 4 = .ok (.aload_n 0, 1) := by decide +kernel
theorem dX7_goes_5 : decode cX7_goes 5 = .ok (.getfield 18, 3) := by decide +kernel
theorem dX7_goes_8 : decode cX7_goes 8 = .ok (.if_icmp .ge 44, 3) := by decide +kernel
theorem dX7_goes_11 : decode cX7_goes 11 = .ok (.aload_n 0, 1) := by decide +kernel
theorem dX7_goes_12 : decode cX7_goes 12 = .ok (.getfield 7, 3) := by decide +kernel
theorem dX7_goes_15 : decode cX7_goes 15 = .ok (.aload_n 0, 1) := by decide +kernel
theorem dX7_goes_16 : decode cX7_goes 16 = .ok (.getfield 21, 3) := by decide +kernel
theorem dX7_goes_19 : decode cX7_goes 19 = .ok (.iaload, 1) := by decide +kernel
theorem dX7_goes_20 : decode cX7_goes 20 = .ok (.bipush 32, 2) := by decide +kernel
theorem dX7_goes_22 : decode cX7_goes 22 = .ok (.if_icmp .eq 17, 3) := by decide +kernel
theorem dX7_goes_25 : decode cX7_goes 25 = .ok (.aload_n 0, 1) := by decide +kernel
theorem dX7_goes_26 : decode cX7_goes 26 = .ok (.getfield 7, 3) := by decide +kernel
theorem dX7_goes_29 : decode cX7_goes 29 = .ok (.aload_n 0, 1) := by decide +kernel
theorem dX7_goes_30 : decode cX7_goes 30 = .ok (.getfield 21, 3) := by decide +kernel
theorem dX7_goes_33 : decode cX7_goes 33 = .ok (.iaload, 1) := by decide +kernel
theorem dX7_goes_34 : decode cX7_goes 34 = .ok (.bipush 10, 2) := by decide +kernel
theorem dX7_goes_36 : decode cX7_goes 36 = .ok (.if_icmp .ne 16, 3) := by decide +kernel
theorem dX7_goes_39 : decode cX7_goes 39 = .ok (.aload_n 0, 1) := by decide +kernel
theorem dX7_goes_40 : decode cX7_goes 40 = .ok (.dup, 1) := by decide +kernel
theorem dX7_goes_41 : decode cX7_goes 41 = .ok (.getfield 21, 3) := by decide +kernel
theorem dX7_goes_44 : decode cX7_goes 44 = .ok (.iconst 1, 1) := by decide +kernel
theorem dX7_goes_45 : decode cX7_goes 45 = .ok (.iadd, 1) := by decide +kernel
theorem dX7_goes_46 : decode cX7_goes 46 = .ok (.putfield 21, 3) := by decide +kernel
theorem dX7_goes_49 : decode cX7_goes 49 = .ok (.goto (-49), 3) := by decide +kernel
theorem dX7_goes_52 : decode cX7_goes 52 = .ok (.aload_n 0, 1) := by decide +kernel
theorem dX7_goes_53 : decode cX7_goes 53 = .ok (.aload_n 0, 1) := by decide +kernel
theorem dX7_goes_54 : decode cX7_goes 54 = .ok (.getfield 21, 3) := by decide +kernel
theorem dX7_goes_57 : decode cX7_goes 57 = .ok (.putfield 24, 3) := by decide +kernel
theorem dX7_goes_60 : decode cX7_goes 60 = .ok (.aload_n 0, 1) := by decide +kernel
theorem dX7_goes_61 : decode cX7_goes 61 = .ok (.getfield 18, 3) := by decide +kernel
theorem dX7_goes_64 : decode cX7_goes 64 = .ok (.sipush 300, 3) := by decide +kernel
theorem dX7_goes_67 : decode cX7_goes 67 = .ok (.if_icmp .le 26, 3) := by decide +kernel
theorem dX7_goes_70 : decode cX7_goes 70 = .ok (.aload_n 0, 1) := by decide +kernel
theorem dX7_goes_71 : decode cX7_goes 71 = .ok (.getfield 24, 3) := by decide +kernel
theorem dX7_goes_74 : decode cX7_goes 74 = .ok (.sipush 300, 3) := by decide +kernel
theorem dX7_goes_77 : decode cX7_goes 77 = .ok (.if_icmp .lt 16, 3) := by decide +kernel
theorem dX7_goes_80 : decode cX7_goes 80 = .ok (.aload_n 0, 1) := by decide +kernel
theorem dX7_goes_81 : decode cX7_goes 81 = .ok (.sipush 300, 3) := by decide +kernel
theorem dX7_goes_84 : decode cX7_goes 84 = .ok (.putfield 24, 3) := by decide +kernel
theorem dX7_goes_87 : decode cX7_goes 87 = .ok (.aload_n 0, 1) := by decide +kernel
theorem dX7_goes_88 : decode cX7_goes 88 = .ok (.iconst 1, 1) := by decide +kernel
theorem dX7_goes_89 : decode cX7_goes 89 = .ok (.putfield 27, 3) := by decide +kernel
theorem dX7_goes_92 : decode cX7_goes 92 = .ok (.return_, 1) := by decide +kernel
theorem dX7_goes_93 : decode cX7_goes 93 = .ok (.aload_n 0, 1) := by decide +kernel
theorem dX7_goes_94 : decode cX7_goes 94 = .ok (.getfield 21, 3) := by decide +kernel
theorem dX7_goes_97 : decode cX7_goes 97 = .ok (.aload_n 0, 1) := by decide +kernel
theorem dX7_goes_98 : decode cX7_goes 98 = .ok (.getfield 18, 3) := by decide +kernel
theorem dX7_goes_101 : decode cX7_goes 101 = .ok (.if_icmp .lt 9, 3) := by decide +kernel
theorem dX7_goes_104 : decode cX7_goes 104 = .ok (.aload_n 0, 1) := by decide +kernel
theorem dX7_goes_105 : decode cX7_goes 105 = .ok (.iconst 0, 1) := by decide +kernel
theorem dX7_goes_106 : decode cX7_goes 106 = .ok (.putfield 27, 3) := by decide +kernel
theorem dX7_goes_109 : decode cX7_goes 109 = .ok (.return_, 1) := by decide +kernel
theorem dX7_goes_110 : decode cX7_goes 110 = .ok (.aload_n 0, 1) := by decide +kernel
theorem dX7_goes_111 : decode cX7_goes 111 = .ok (.getfield 7, 3) := by decide +kernel
theorem dX7_goes_114 : decode cX7_goes 114 = .ok (.aload_n 0, 1) := by decide +kernel
theorem dX7_goes_115 : decode cX7_goes 115 = .ok (.getfield 21, 3) := by decide +kernel
theorem dX7_goes_118 : decode cX7_goes 118 = .ok (.iaload, 1) := by decide +kernel
theorem dX7_goes_119 : decode cX7_goes 119 = .ok (.istore_n 1, 1) := by decide +kernel
theorem dX7_goes_120 : decode cX7_goes 120 = .ok (.iload_n 1, 1) := by decide +kernel
theorem dX7_goes_121 : decode cX7_goes 121 = .ok (.invokestatic 30, 3) := by decide +kernel
theorem dX7_goes_124 : decode cX7_goes 124 = .ok (.ifCond .ne 36, 3) := by decide +kernel
theorem dX7_goes_127 : decode cX7_goes 127 = .ok (.iload_n 1, 1) := by decide +kernel
theorem dX7_goes_128 : decode cX7_goes 128 = .ok (.invokestatic 34, 3) := by decide +kernel
theorem dX7_goes_131 : decode cX7_goes 131 = .ok (.ifCond .ne 29, 3) := by decide +kernel
theorem dX7_goes_134 : decode cX7_goes 134 = .ok (.aload_n 0, 1) := by decide +kernel
theorem dX7_goes_135 : decode cX7_goes 135 = .ok (.iload_n 1, 1) := by decide +kernel
theorem dX7_goes_136 : decode cX7_goes 136 = .ok (.bipush 59, 2) := by decide +kernel
theorem dX7_goes_138 : decode cX7_goes 138 = .ok (.if_icmp .ne 7, 3) := by decide +kernel
theorem dX7_goes_141 : decode cX7_goes 141 = .ok (.iconst 4, 1) := by decide +kernel
theorem dX7_goes_142 : decode cX7_goes 142 = .ok (.goto 4, 3) := by decide +kernel
theorem dX7_goes_145 : decode cX7_goes 145 = .ok (.iconst 1, 1) := by decide +kernel
theorem dX7_goes_146 : decode cX7_goes 146 = .ok (.putfield 27, 3) := by decide +kernel
theorem dX7_goes_149 : decode cX7_goes 149 = .ok (.aload_n 0, 1) := by decide +kernel
theorem dX7_goes_150 : decode cX7_goes 150 = .ok (.dup, 1) := by decide +kernel
theorem dX7_goes_151 : decode cX7_goes 151 = .ok (.getfield 21, 3) := by decide +kernel
theorem dX7_goes_154 : decode cX7_goes 154 = .ok (.iconst 1, 1) := by decide +kernel
theorem dX7_goes_155 : decode cX7_goes 155 = .ok (.iadd, 1) := by decide +kernel
theorem dX7_goes_156 : decode cX7_goes 156 = .ok (.putfield 21, 3) := by decide +kernel
theorem dX7_goes_159 : decode cX7_goes 159 = .ok (.return_, 1) := by decide +kernel
theorem dX7_goes_160 : decode cX7_goes 160 = .ok (.iload_n 1, 1) := by decide +kernel
theorem dX7_goes_161 : decode cX7_goes 161 = .ok (.invokestatic 30, 3) := by decide +kernel
theorem dX7_goes_164 : decode cX7_goes 164 = .ok (.istore_n 2, 1) := by decide +kernel
theorem dX7_goes_165 : decode cX7_goes 165 = .ok (.iconst 1, 1) := by decide +kernel
theorem dX7_goes_166 : decode cX7_goes 166 = .ok (.istore_n 3, 1) := by decide +kernel
theorem dX7_goes_167 : decode cX7_goes 167 = .ok (.aload_n 0, 1) := by decide +kernel
theorem dX7_goes_168 : decode cX7_goes 168 = .ok (.lconst 0, 1) := by decide +kernel
theorem dX7_goes_169 : decode cX7_goes 169 = .ok (.putfield 37, 3) := by decide +kernel
theorem dX7_goes_172 : decode cX7_goes 172 = .ok (.aload_n 0, 1) := by decide +kernel
theorem dX7_goes_173 : decode cX7_goes 173 = .ok (.iconst 0, 1) := by decide +kernel
theorem dX7_goes_174 : decode cX7_goes 174 = .ok (.putfield 41, 3) := by decide +kernel
theorem dX7_goes_177 : decode cX7_goes 177 = .ok (.aload_n 0, 1) := by decide +kernel
theorem dX7_goes_178 : decode cX7_goes 178 = .ok (.aload_n 0, 1) := by decide +kernel
theorem dX7_goes_179 : decode cX7_goes 179 = .ok (.getfield 21, 3) := by decide +kernel
theorem dX7_goes_182 : decode cX7_goes 182 = .ok (.invokevirtual 44, 3) := by decide +kernel
theorem dX7_goes_185 : decode cX7_goes 185 = .ok (.invokestatic 30, 3) := by decide +kernel
theorem dX7_goes_188 : decode cX7_goes 188 = .ok (.ifCond .ne 17, 3) := by decide +kernel
theorem dX7_goes_191 : decode cX7_goes 191 = .ok (.aload_n 0, 1) := by decide +kernel
theorem dX7_goes_192 : decode cX7_goes 192 = .ok (.aload_n 0, 1) := by decide +kernel
theorem dX7_goes_193 : decode cX7_goes 193 = .ok (.getfield 21, 3) := by decide +kernel
theorem dX7_goes_196 : decode cX7_goes 196 = .ok (.invokevirtual 44, 3) := by decide +kernel
theorem dX7_goes_199 : decode cX7_goes 199 = .ok (.invokestatic 34, 3) := by decide +kernel
theorem dX7_goes_202 : decode cX7_goes 202 = .ok (.ifCond .eq 110, 3) := by decide +kernel
theorem dX7_goes_205 : decode cX7_goes 205 = .ok (.aload_n 0, 1) := by decide +kernel
theorem dX7_goes_206 : decode cX7_goes 206 = .ok (.getfield 7, 3) := by decide +kernel
theorem dX7_goes_209 : decode cX7_goes 209 = .ok (.aload_n 0, 1) := by decide +kernel
theorem dX7_goes_210 : decode cX7_goes 210 = .ok (.getfield 21, 3) := by decide +kernel
theorem dX7_goes_213 : decode cX7_goes 213 = .ok (.iaload, 1) := by decide +kernel
theorem dX7_goes_214 : decode cX7_goes 214 = .ok (.istore 4, 2) := by decide +kernel
theorem dX7_goes_216 : decode cX7_goes 216 = .ok (.iload_n 3, 1) := by decide +kernel
theorem dX7_goes_217 : decode cX7_goes 217 = .ok (.ifCond .eq 16, 3) := by decide +kernel
theorem dX7_goes_220 : decode cX7_goes 220 = .ok (.iload 4, 2) := by decide +kernel
theorem dX7_goes_222 : decode cX7_goes 222 = .ok (.invokestatic 30, 3) := by decide +kernel
theorem dX7_goes_225 : decode cX7_goes 225 = .ok (.iload_n 2, 1) := by decide +kernel
theorem dX7_goes_226 : decode cX7_goes 226 = .ok (.if_icmp .ne 7, 3) := by decide +kernel
theorem dX7_goes_229 : decode cX7_goes 229 = .ok (.iconst 1, 1) := by decide +kernel
theorem dX7_goes_230 : decode cX7_goes 230 = .ok (.goto 4, 3) := by decide +kernel
theorem dX7_goes_233 : decode cX7_goes 233 = .ok (.iconst 0, 1) := by decide +kernel
theorem dX7_goes_234 : decode cX7_goes 234 = .ok (.istore_n 3, 1) := by decide +kernel
theorem dX7_goes_235 : decode cX7_goes 235 = .ok (.aload_n 0, 1) := by decide +kernel
theorem dX7_goes_236 : decode cX7_goes 236 = .ok (.getfield 21, 3) := by decide +kernel
theorem dX7_goes_239 : decode cX7_goes 239 = .ok (.aload_n 0, 1) := by decide +kernel
theorem dX7_goes_240 : decode cX7_goes 240 = .ok (.getfield 24, 3) := by decide +kernel
theorem dX7_goes_243 : decode cX7_goes 243 = .ok (.isub, 1) := by decide +kernel
theorem dX7_goes_244 : decode cX7_goes 244 = .ok (.bipush 6, 2) := by decide +kernel
theorem dX7_goes_246 : decode cX7_goes 246 = .ok (.if_icmp .ge 23, 3) := by decide +kernel
theorem dX7_goes_249 : decode cX7_goes 249 = .ok (.aload_n 0, 1) := by decide +kernel
theorem dX7_goes_250 : decode cX7_goes 250 = .ok (.ldc2_w 48, 3) := by decide +kernel
theorem dX7_goes_253 : decode cX7_goes 253 = .ok (.aload_n 0, 1) := by decide +kernel
theorem dX7_goes_254 : decode cX7_goes 254 = .ok (.getfield 37, 3) := by decide +kernel
theorem dX7_goes_257 : decode cX7_goes 257 = .ok (.lmul, 1) := by decide +kernel
theorem dX7_goes_258 : decode cX7_goes 258 = .ok (.iload 4, 2) := by decide +kernel
theorem dX7_goes_260 : decode cX7_goes 260 = .ok (.i2l, 1) := by decide +kernel
theorem dX7_goes_261 : decode cX7_goes 261 = .ok (.ladd, 1) := by decide +kernel
theorem dX7_goes_262 : decode cX7_goes 262 = .ok (.ldc2_w 50, 3) := by decide +kernel
theorem dX7_goes_265 : decode cX7_goes 265 = .ok (.lsub, 1) := by decide +kernel
theorem dX7_goes_266 : decode cX7_goes 266 = .ok (.putfield 37, 3) := by decide +kernel
theorem dX7_goes_269 : decode cX7_goes 269 = .ok (.aload_n 0, 1) := by decide +kernel
theorem dX7_goes_270 : decode cX7_goes 270 = .ok (.getfield 21, 3) := by decide +kernel
theorem dX7_goes_273 : decode cX7_goes 273 = .ok (.aload_n 0, 1) := by decide +kernel
theorem dX7_goes_274 : decode cX7_goes 274 = .ok (.getfield 24, 3) := by decide +kernel
theorem dX7_goes_277 : decode cX7_goes 277 = .ok (.isub, 1) := by decide +kernel
theorem dX7_goes_278 : decode cX7_goes 278 = .ok (.iconst 2, 1) := by decide +kernel
theorem dX7_goes_279 : decode cX7_goes 279 = .ok (.if_icmp .ge 20, 3) := by decide +kernel
theorem dX7_goes_282 : decode cX7_goes 282 = .ok (.aload_n 0, 1) := by decide +kernel
theorem dX7_goes_283 : decode cX7_goes 283 = .ok (.bipush 10, 2) := by decide +kernel
theorem dX7_goes_285 : decode cX7_goes 285 = .ok (.aload_n 0, 1) := by decide +kernel
theorem dX7_goes_286 : decode cX7_goes 286 = .ok (.getfield 41, 3) := by decide +kernel
theorem dX7_goes_289 : decode cX7_goes 289 = .ok (.imul, 1) := by decide +kernel
theorem dX7_goes_290 : decode cX7_goes 290 = .ok (.iload 4, 2) := by decide +kernel
theorem dX7_goes_292 : decode cX7_goes 292 = .ok (.iadd, 1) := by decide +kernel
theorem dX7_goes_293 : decode cX7_goes 293 = .ok (.bipush 48, 2) := by decide +kernel
theorem dX7_goes_295 : decode cX7_goes 295 = .ok (.isub, 1) := by decide +kernel
theorem dX7_goes_296 : decode cX7_goes 296 = .ok (.putfield 41, 3) := by decide +kernel
theorem dX7_goes_299 : decode cX7_goes 299 = .ok (.aload_n 0, 1) := by decide +kernel
theorem dX7_goes_300 : decode cX7_goes 300 = .ok (.dup, 1) := by decide +kernel
theorem dX7_goes_301 : decode cX7_goes 301 = .ok (.getfield 21, 3) := by decide +kernel
theorem dX7_goes_304 : decode cX7_goes 304 = .ok (.iconst 1, 1) := by decide +kernel
theorem dX7_goes_305 : decode cX7_goes 305 = .ok (.iadd, 1) := by decide +kernel
theorem dX7_goes_306 : decode cX7_goes 306 = .ok (.putfield 21, 3) := by decide +kernel
theorem dX7_goes_309 : decode cX7_goes 309 = .ok (.goto (-132), 3) := by decide +kernel
theorem dX7_goes_312 : decode cX7_goes 312 = .ok (.aload_n 0, 1) := by decide +kernel
theorem dX7_goes_313 : decode cX7_goes 313 = .ok (.iload_n 3, 1) := by decide +kernel
theorem dX7_goes_314 : decode cX7_goes 314 = .ok (.ifCond .eq 20, 3) := by decide +kernel
theorem dX7_goes_317 : decode cX7_goes 317 = .ok (.iload_n 2, 1) := by decide +kernel
theorem dX7_goes_318 : decode cX7_goes 318 = .ok (.ifCond .ne 20, 3) := by decide +kernel
theorem dX7_goes_321 : decode cX7_goes 321 = .ok (.aload_n 0, 1) := by decide +kernel
theorem dX7_goes_322 : decode cX7_goes 322 = .ok (.getfield 21, 3) := by decide +kernel
theorem dX7_goes_325 : decode cX7_goes 325 = .ok (.aload_n 0, 1) := by decide +kernel
theorem dX7_goes_326 : decode cX7_goes 326 = .ok (.getfield 24, 3) := by decide +kernel
theorem dX7_goes_329 : decode cX7_goes 329 = .ok (.isub, 1) := by decide +kernel
theorem dX7_goes_330 : decode cX7_goes 330 = .ok (.iconst 2, 1) := by decide +kernel
theorem dX7_goes_331 : decode cX7_goes 331 = .ok (.if_icmp .le 7, 3) := by decide +kernel
theorem dX7_goes_334 : decode cX7_goes 334 = .ok (.iconst 1, 1) := by decide +kernel
theorem dX7_goes_335 : decode cX7_goes 335 = .ok (.goto 12, 3) := by decide +kernel
theorem dX7_goes_338 : decode cX7_goes 338 = .ok (.iload_n 2, 1) := by decide +kernel
theorem dX7_goes_339 : decode cX7_goes 339 = .ok (.ifCond .eq 7, 3) := by decide +kernel
theorem dX7_goes_342 : decode cX7_goes 342 = .ok (.iconst 2, 1) := by decide +kernel
theorem dX7_goes_343 : decode cX7_goes 343 = .ok (.goto 4, 3) := by decide +kernel
theorem dX7_goes_346 : decode cX7_goes 346 = .ok (.iconst 3, 1) := by decide +kernel
theorem dX7_goes_347 : decode cX7_goes 347 = .ok (.putfield 27, 3) := by decide +kernel
theorem dX7_goes_350 : decode cX7_goes 350 = .ok (.return_, 1) := by decide +kernel
theorem dX7_spelt_0 : decode cX7_spelt 0 = .ok (.ldc2_w 48, 3) := by decide +kernel
theorem dX7_spelt_3 : decode cX7_spelt 3 = .ok (.iload_n 0, 1) := by decide +kernel
theorem dX7_spelt_4 : decode cX7_spelt 4 = .ok (.i2l, 1) := by decide +kernel
theorem dX7_spelt_5 : decode cX7_spelt 5 = .ok (.ldc2_w 50, 3) := by decide +kernel
theorem dX7_spelt_8 : decode cX7_spelt 8 = .ok (.lsub, 1) := by decide +kernel
theorem dX7_spelt_9 : decode cX7_spelt 9 = .ok (.lmul, 1) := by decide +kernel
theorem dX7_spelt_10 : decode cX7_spelt 10 = .ok (.iload_n 1, 1) := by decide +kernel
theorem dX7_spelt_11 : decode cX7_spelt 11 = .ok (.i2l, 1) := by decide +kernel
theorem dX7_spelt_12 : decode cX7_spelt 12 = .ok (.ladd, 1) := by decide +kernel
theorem dX7_spelt_13 : decode cX7_spelt 13 = .ok (.ldc2_w 50, 3) := by decide +kernel
theorem dX7_spelt_16 : decode cX7_spelt 16 = .ok (.lsub, 1) := by decide +kernel
theorem dX7_spelt_17 : decode cX7_spelt 17 = .ok (.lstore 5, 2) := by decide +kernel
theorem dX7_spelt_19 : decode cX7_spelt 19 = .ok (.iload_n 2, 1) := by decide +kernel
theorem dX7_spelt_20 : decode cX7_spelt 20 = .ok (.ifCond .le 18, 3) := by decide +kernel
theorem dX7_spelt_23 : decode cX7_spelt 23 = .ok (.ldc2_w 48, 3) := by decide +kernel
theorem dX7_spelt_26 : decode cX7_spelt 26 = .ok (.lload 5, 2) := by decide +kernel
theorem dX7_spelt_28 : decode cX7_spelt 28 = .ok (.lmul, 1) := by decide +kernel
theorem dX7_spelt_29 : decode cX7_spelt 29 = .ok (.iload_n 2, 1) := by decide +kernel
theorem dX7_spelt_30 : decode cX7_spelt 30 = .ok (.i2l, 1) := by decide +kernel
theorem dX7_spelt_31 : decode cX7_spelt 31 = .ok (.ladd, 1) := by decide +kernel
theorem dX7_spelt_32 : decode cX7_spelt 32 = .ok (.ldc2_w 50, 3) := by decide +kernel
theorem dX7_spelt_35 : decode cX7_spelt 35 = .ok (.lsub, 1) := by decide +kernel
theorem dX7_spelt_36 : decode cX7_spelt 36 = .ok (.lstore 5, 2) := by decide +kernel
theorem dX7_spelt_38 : decode cX7_spelt 38 = .ok (.iload_n 3, 1) := by decide +kernel
theorem dX7_spelt_39 : decode cX7_spelt 39 = .ok (.ifCond .le 18, 3) := by decide +kernel
theorem dX7_spelt_42 : decode cX7_spelt 42 = .ok (.ldc2_w 48, 3) := by decide +kernel
theorem dX7_spelt_45 : decode cX7_spelt 45 = .ok (.lload 5, 2) := by decide +kernel
theorem dX7_spelt_47 : decode cX7_spelt 47 = .ok (.lmul, 1) := by decide +kernel
theorem dX7_spelt_48 : decode cX7_spelt 48 = .ok (.iload_n 3, 1) := by decide +kernel
theorem dX7_spelt_49 : decode cX7_spelt 49 = .ok (.i2l, 1) := by decide +kernel
theorem dX7_spelt_50 : decode cX7_spelt 50 = .ok (.ladd, 1) := by decide +kernel
theorem dX7_spelt_51 : decode cX7_spelt 51 = .ok (.ldc2_w 50, 3) := by decide +kernel
theorem dX7_spelt_54 : decode cX7_spelt 54 = .ok (.lsub, 1) := by decide +kernel
theorem dX7_spelt_55 : decode cX7_spelt 55 = .ok (.lstore 5, 2) := by decide +kernel
theorem dX7_spelt_57 : decode cX7_spelt 57 = .ok (.iload 4, 2) := by decide +kernel
theorem dX7_spelt_59 : decode cX7_spelt 59 = .ok (.ifCond .le 20, 3) := by decide +kernel
theorem dX7_spelt_62 : decode cX7_spelt 62 = .ok (.ldc2_w 48, 3) := by decide +kernel
theorem dX7_spelt_65 : decode cX7_spelt 65 = .ok (.lload 5, 2) := by decide +kernel
theorem dX7_spelt_67 : decode cX7_spelt 67 = .ok (.lmul, 1) := by decide +kernel
theorem dX7_spelt_68 : decode cX7_spelt 68 = .ok (.iload 4, 2) := by decide +kernel
theorem dX7_spelt_70 : decode cX7_spelt 70 = .ok (.i2l, 1) := by decide +kernel
theorem dX7_spelt_71 : decode cX7_spelt 71 = .ok (.ladd, 1) := by decide +kernel
theorem dX7_spelt_72 : decode cX7_spelt 72 = .ok (.ldc2_w 50, 3) := by decide +kernel
theorem dX7_spelt_75 : decode cX7_spelt 75 = .ok (.lsub, 1) := by decide +kernel
theorem dX7_spelt_76 : decode cX7_spelt 76 = .ok (.goto 5, 3) := by decide +kernel
theorem dX7_spelt_79 : decode cX7_spelt 79 = .ok (.lload 5, 2) := by decide +kernel
theorem dX7_spelt_81 : decode cX7_spelt 81 = .ok (.lreturn, 1) := by decide +kernel
theorem dX7_isWord_0 : decode cX7_isWord 0 = .ok (.aload_n 0, 1) := by decide +kernel
theorem dX7_isWord_1 : decode cX7_isWord 1 = .ok (.getfield 27, 3) := by decide +kernel
theorem dX7_isWord_4 : decode cX7_isWord 4 = .ok (.iconst 2, 1) := by decide +kernel
theorem dX7_isWord_5 : decode cX7_isWord 5 = .ok (.if_icmp .ne 16, 3) := by decide +kernel
theorem dX7_isWord_8 : decode cX7_isWord 8 = .ok (.aload_n 0, 1) := by decide +kernel
theorem dX7_isWord_9 : decode cX7_isWord 9 = .ok (.getfield 37, 3) := by decide +kernel
theorem dX7_isWord_12 : decode cX7_isWord 12 = .ok (.lload_n 1, 1) := by decide +kernel
theorem dX7_isWord_13 : decode cX7_isWord 13 = .ok (.lcmp, 1) := by decide +kernel
theorem dX7_isWord_14 : decode cX7_isWord 14 = .ok (.ifCond .ne 7, 3) := by decide +kernel
theorem dX7_isWord_17 : decode cX7_isWord 17 = .ok (.iconst 1, 1) := by decide +kernel
theorem dX7_isWord_18 : decode cX7_isWord 18 = .ok (.goto 4, 3) := by decide +kernel
theorem dX7_isWord_21 : decode cX7_isWord 21 = .ok (.iconst 0, 1) := by decide +kernel
theorem dX7_isWord_22 : decode cX7_isWord 22 = .ok (.ireturn, 1) := by decide +kernel
set_option maxRecDepth 20000 in
theorem ggX7_isCells_X7_spelt : GoodIn wsX7_isCells wsX7_spelt := goodIn_r _ [4, 5, 6] (by decide +kernel) (by decide +kernel)
set_option maxRecDepth 20000 in
theorem gX7_isCells_X7_spelt : GoodIn wsX7_isCells (va_wsS RX7 52 yX7_spelt wsX7_spelt) := goodIn_app (goodIn_of _ (by decide +kernel)) ggX7_isCells_X7_spelt
set_option maxRecDepth 20000 in
theorem ggX7_isCells_X7_isWord : GoodIn wsX7_isCells wsX7_isWord := goodIn_r _ [10, 11, 12, 13, 14, 15, 16, 17, 18, 19, 20, 21, 22, 23, 24, 25, 26, 27, 28, 29, 30, 31, 32, 33, 34, 35, 36, 37, 38, 39, 40, 41, 42, 43] (by decide +kernel) (by decide +kernel)
set_option maxRecDepth 20000 in
theorem gX7_isCells_X7_isWord : GoodIn wsX7_isCells (wsV RX7 56 RX7 yX7_isWord wsX7_isWord) := goodIn_app (goodIn_of _ (by decide +kernel)) ggX7_isCells_X7_isWord
theorem dX7_isCells_0 : decode cX7_isCells 0 = .ok (.aload_n 0, 1) := by decide +kernel
theorem dX7_isCells_1 : decode cX7_isCells 1 = .ok (.bipush 99, 2) := by decide +kernel
theorem dX7_isCells_3 : decode cX7_isCells 3 = .ok (.bipush 101, 2) := by decide +kernel
theorem dX7_isCells_5 : decode cX7_isCells 5 = .ok (.bipush 108, 2) := by decide +kernel
theorem dX7_isCells_7 : decode cX7_isCells 7 = .ok (.bipush 108, 2) := by decide +kernel
theorem dX7_isCells_9 : decode cX7_isCells 9 = .ok (.bipush 115, 2) := by decide +kernel
theorem dX7_isCells_11 : decode cX7_isCells 11 = .ok (.invokestatic 52, 3) := by decide +kernel
theorem dX7_isCells_14 : decode cX7_isCells 14 = .ok (.invokevirtual 56, 3) := by decide +kernel
theorem dX7_isCells_17 : decode cX7_isCells 17 = .ok (.ireturn, 1) := by decide +kernel
set_option maxRecDepth 20000 in
theorem ggX7_isHole_X7_spelt : GoodIn wsX7_isHole wsX7_spelt := goodIn_r _ [4, 5, 6] (by decide +kernel) (by decide +kernel)
set_option maxRecDepth 20000 in
theorem gX7_isHole_X7_spelt : GoodIn wsX7_isHole (va_wsS RX7 52 yX7_spelt wsX7_spelt) := goodIn_app (goodIn_of _ (by decide +kernel)) ggX7_isHole_X7_spelt
set_option maxRecDepth 20000 in
theorem ggX7_isHole_X7_isWord : GoodIn wsX7_isHole wsX7_isWord := goodIn_r _ [10, 11, 12, 13, 14, 15, 16, 17, 18, 19, 20, 21, 22, 23, 24, 25, 26, 27, 28, 29, 30, 31, 32, 33, 34, 35, 36, 37, 38, 39, 40, 41, 42, 43] (by decide +kernel) (by decide +kernel)
set_option maxRecDepth 20000 in
theorem gX7_isHole_X7_isWord : GoodIn wsX7_isHole (wsV RX7 56 RX7 yX7_isWord wsX7_isWord) := goodIn_app (goodIn_of _ (by decide +kernel)) ggX7_isHole_X7_isWord
theorem dX7_isHole_0 : decode cX7_isHole 0 = .ok (.aload_n 0, 1) := by decide +kernel
theorem dX7_isHole_1 : decode cX7_isHole 1 = .ok (.bipush 104, 2) := by decide +kernel
theorem dX7_isHole_3 : decode cX7_isHole 3 = .ok (.bipush 111, 2) := by decide +kernel
theorem dX7_isHole_5 : decode cX7_isHole 5 = .ok (.bipush 108, 2) := by decide +kernel
theorem dX7_isHole_7 : decode cX7_isHole 7 = .ok (.bipush 101, 2) := by decide +kernel
theorem dX7_isHole_9 : decode cX7_isHole 9 = .ok (.iconst 0, 1) := by decide +kernel
theorem dX7_isHole_10 : decode cX7_isHole 10 = .ok (.invokestatic 52, 3) := by decide +kernel
theorem dX7_isHole_13 : decode cX7_isHole 13 = .ok (.invokevirtual 56, 3) := by decide +kernel
theorem dX7_isHole_16 : decode cX7_isHole 16 = .ok (.ireturn, 1) := by decide +kernel
set_option maxRecDepth 20000 in
theorem ggX7_isPair_X7_spelt : GoodIn wsX7_isPair wsX7_spelt := goodIn_r _ [4, 5, 6] (by decide +kernel) (by decide +kernel)
set_option maxRecDepth 20000 in
theorem gX7_isPair_X7_spelt : GoodIn wsX7_isPair (va_wsS RX7 52 yX7_spelt wsX7_spelt) := goodIn_app (goodIn_of _ (by decide +kernel)) ggX7_isPair_X7_spelt
set_option maxRecDepth 20000 in
theorem ggX7_isPair_X7_isWord : GoodIn wsX7_isPair wsX7_isWord := goodIn_r _ [10, 11, 12, 13, 14, 15, 16, 17, 18, 19, 20, 21, 22, 23, 24, 25, 26, 27, 28, 29, 30, 31, 32, 33, 34, 35, 36, 37, 38, 39, 40, 41, 42, 43] (by decide +kernel) (by decide +kernel)
set_option maxRecDepth 20000 in
theorem gX7_isPair_X7_isWord : GoodIn wsX7_isPair (wsV RX7 56 RX7 yX7_isWord wsX7_isWord) := goodIn_app (goodIn_of _ (by decide +kernel)) ggX7_isPair_X7_isWord
theorem dX7_isPair_0 : decode cX7_isPair 0 = .ok (.aload_n 0, 1) := by decide +kernel
theorem dX7_isPair_1 : decode cX7_isPair 1 = .ok (.bipush 112, 2) := by decide +kernel
theorem dX7_isPair_3 : decode cX7_isPair 3 = .ok (.bipush 97, 2) := by decide +kernel
theorem dX7_isPair_5 : decode cX7_isPair 5 = .ok (.bipush 105, 2) := by decide +kernel
theorem dX7_isPair_7 : decode cX7_isPair 7 = .ok (.bipush 114, 2) := by decide +kernel
theorem dX7_isPair_9 : decode cX7_isPair 9 = .ok (.iconst 0, 1) := by decide +kernel
theorem dX7_isPair_10 : decode cX7_isPair 10 = .ok (.invokestatic 52, 3) := by decide +kernel
theorem dX7_isPair_13 : decode cX7_isPair 13 = .ok (.invokevirtual 56, 3) := by decide +kernel
theorem dX7_isPair_16 : decode cX7_isPair 16 = .ok (.ireturn, 1) := by decide +kernel
set_option maxRecDepth 20000 in
theorem ggX7_isAt_X7_spelt : GoodIn wsX7_isAt wsX7_spelt := goodIn_r _ [4, 5, 6] (by decide +kernel) (by decide +kernel)
set_option maxRecDepth 20000 in
theorem gX7_isAt_X7_spelt : GoodIn wsX7_isAt (va_wsS RX7 52 yX7_spelt wsX7_spelt) := goodIn_app (goodIn_of _ (by decide +kernel)) ggX7_isAt_X7_spelt
set_option maxRecDepth 20000 in
theorem ggX7_isAt_X7_isWord : GoodIn wsX7_isAt wsX7_isWord := goodIn_r _ [10, 11, 12, 13, 14, 15, 16, 17, 18, 19, 20, 21, 22, 23, 24, 25, 26, 27, 28, 29, 30, 31, 32, 33, 34, 35, 36, 37, 38, 39, 40, 41, 42, 43] (by decide +kernel) (by decide +kernel)
set_option maxRecDepth 20000 in
theorem gX7_isAt_X7_isWord : GoodIn wsX7_isAt (wsV RX7 56 RX7 yX7_isWord wsX7_isWord) := goodIn_app (goodIn_of _ (by decide +kernel)) ggX7_isAt_X7_isWord
theorem dX7_isAt_0 : decode cX7_isAt 0 = .ok (.aload_n 0, 1) := by decide +kernel
theorem dX7_isAt_1 : decode cX7_isAt 1 = .ok (.bipush 97, 2) := by decide +kernel
theorem dX7_isAt_3 : decode cX7_isAt 3 = .ok (.bipush 116, 2) := by decide +kernel
theorem dX7_isAt_5 : decode cX7_isAt 5 = .ok (.iconst 0, 1) := by decide +kernel
theorem dX7_isAt_6 : decode cX7_isAt 6 = .ok (.iconst 0, 1) := by decide +kernel
theorem dX7_isAt_7 : decode cX7_isAt 7 = .ok (.iconst 0, 1) := by decide +kernel
theorem dX7_isAt_8 : decode cX7_isAt 8 = .ok (.invokestatic 52, 3) := by decide +kernel
theorem dX7_isAt_11 : decode cX7_isAt 11 = .ok (.invokevirtual 56, 3) := by decide +kernel
theorem dX7_isAt_14 : decode cX7_isAt 14 = .ok (.ireturn, 1) := by decide +kernel
theorem dX7_bad_0 : decode cX7_bad 0 = .ok (.aload_n 0, 1) := by decide +kernel
theorem dX7_bad_1 : decode cX7_bad 1 = .ok (.aload_n 0, 1) := by decide +kernel
theorem dX7_bad_2 : decode cX7_bad 2 = .ok (.getfield 27, 3) := by decide +kernel
theorem dX7_bad_5 : decode cX7_bad 5 = .ok (.iconst 1, 1) := by decide +kernel
theorem dX7_bad_6 : decode cX7_bad 6 = .ok (.if_icmp .ne 7, 3) := by decide +kernel
theorem dX7_bad_9 : decode cX7_bad 9 = .ok (.iconst 1, 1) := by decide +kernel
theorem dX7_bad_10 : decode cX7_bad 10 = .ok (.goto 4, 3) := by decide +kernel
theorem dX7_bad_13 : decode cX7_bad 13 = .ok (.iload_n 1, 1) := by decide +kernel
theorem dX7_bad_14 : decode cX7_bad 14 = .ok (.putfield 60, 3) := by decide +kernel
theorem dX7_bad_17 : decode cX7_bad 17 = .ok (.aload_n 0, 1) := by decide +kernel
theorem dX7_bad_18 : decode cX7_bad 18 = .ok (.aload_n 0, 1) := by decide +kernel
theorem dX7_bad_19 : decode cX7_bad 19 = .ok (.getfield 24, 3) := by decide +kernel
theorem dX7_bad_22 : decode cX7_bad 22 = .ok (.putfield 63, 3) := by decide +kernel
theorem dX7_bad_25 : decode cX7_bad 25 = .ok (.iconst 0, 1) := by decide +kernel
theorem dX7_bad_26 : decode cX7_bad 26 = .ok (.ireturn, 1) := by decide +kernel
set_option maxRecDepth 20000 in
theorem ggX7_isNumber_X7_bad : GoodIn wsX7_isNumber wsX7_bad := goodIn_r _ [7, 1, 8, 9, 10, 14, 15, 16, 17, 18, 19, 20, 21, 22, 23, 24, 25, 26, 27, 28, 29, 30, 31, 32, 33, 34, 35, 36, 37, 38, 39, 40, 41, 42, 43, 44] (by decide +kernel) (by decide +kernel)
set_option maxRecDepth 20000 in
theorem gX7_isNumber_X7_bad : GoodIn wsX7_isNumber (wsV RX7 66 RX7 yX7_bad wsX7_bad) := goodIn_app (goodIn_of _ (by decide +kernel)) ggX7_isNumber_X7_bad
set_option maxRecDepth 20000 in
theorem ggX7_isNumber_X7_isIn : GoodIn wsX7_isNumber wsX7_isIn := goodIn_r _ [13] (by decide +kernel) (by decide +kernel)
set_option maxRecDepth 20000 in
theorem gX7_isNumber_X7_isIn : GoodIn wsX7_isNumber (va_wsS RX7 69 yX7_isIn wsX7_isIn) := goodIn_app (goodIn_of _ (by decide +kernel)) ggX7_isNumber_X7_isIn
theorem dX7_isNumber_0 : decode cX7_isNumber 0 = .ok (.aload_n 0, 1) := by decide +kernel
theorem dX7_isNumber_1 : decode cX7_isNumber 1 = .ok (.getfield 27, 3) := by decide +kernel
theorem dX7_isNumber_4 : decode cX7_isNumber 4 = .ok (.iconst 3, 1) := by decide +kernel
theorem dX7_isNumber_5 : decode cX7_isNumber 5 = .ok (.if_icmp .eq 9, 3) := by decide +kernel
theorem dX7_isNumber_8 : decode cX7_isNumber 8 = .ok (.aload_n 0, 1) := by decide +kernel
theorem dX7_isNumber_9 : decode cX7_isNumber 9 = .ok (.iconst 1, 1) := by decide +kernel
theorem dX7_isNumber_10 : decode cX7_isNumber 10 = .ok (.invokevirtual 66, 3) := by decide +kernel
theorem dX7_isNumber_13 : decode cX7_isNumber 13 = .ok (.ireturn, 1) := by decide +kernel
theorem dX7_isNumber_14 : decode cX7_isNumber 14 = .ok (.aload_n 0, 1) := by decide +kernel
theorem dX7_isNumber_15 : decode cX7_isNumber 15 = .ok (.getfield 41, 3) := by decide +kernel
theorem dX7_isNumber_18 : decode cX7_isNumber 18 = .ok (.iload_n 1, 1) := by decide +kernel
theorem dX7_isNumber_19 : decode cX7_isNumber 19 = .ok (.iload_n 2, 1) := by decide +kernel
theorem dX7_isNumber_20 : decode cX7_isNumber 20 = .ok (.invokestatic 69, 3) := by decide +kernel
theorem dX7_isNumber_23 : decode cX7_isNumber 23 = .ok (.ifCond .ne 11, 3) := by decide +kernel
theorem dX7_isNumber_26 : decode cX7_isNumber 26 = .ok (.aload_n 0, 1) := by decide +kernel
theorem dX7_isNumber_27 : decode cX7_isNumber 27 = .ok (.iconst 2, 1) := by decide +kernel
theorem dX7_isNumber_28 : decode cX7_isNumber 28 = .ok (.invokevirtual 66, 3) := by decide +kernel
theorem dX7_isNumber_31 : decode cX7_isNumber 31 = .ok (.ifCond .eq 7, 3) := by decide +kernel
theorem dX7_isNumber_34 : decode cX7_isNumber 34 = .ok (.iconst 1, 1) := by decide +kernel
theorem dX7_isNumber_35 : decode cX7_isNumber 35 = .ok (.goto 4, 3) := by decide +kernel
theorem dX7_isNumber_38 : decode cX7_isNumber 38 = .ok (.iconst 0, 1) := by decide +kernel
theorem dX7_isNumber_39 : decode cX7_isNumber 39 = .ok (.ireturn, 1) := by decide +kernel
theorem dX7_init_0 : decode cX7_init 0 = .ok (.aload_n 0, 1) := by decide +kernel
theorem dX7_init_1 : decode cX7_init 1 = .ok (.invokespecial 73, 3) := by decide +kernel
theorem dX7_init_4 : decode cX7_init 4 = .ok (.aload_n 0, 1) := by decide +kernel
theorem dX7_init_5 : decode cX7_init 5 = .ok (.sipush 340, 3) := by decide +kernel
theorem dX7_init_8 : decode cX7_init 8 = .ok (.newarray .int, 2) := by decide +kernel
theorem dX7_init_10 : decode cX7_init 10 = .ok (.putfield 7, 3) := by decide +kernel
theorem dX7_init_13 : decode cX7_init 13 = .ok (.aload_n 0, 1) := by decide +kernel
theorem dX7_init_14 : decode cX7_init 14 = .ok (.bipush 19, 2) := by decide +kernel
theorem dX7_init_16 : decode cX7_init 16 = .ok (.newarray .int, 2) := by decide +kernel
theorem dX7_init_18 : decode cX7_init 18 = .ok (.putfield 79, 3) := by decide +kernel
theorem dX7_init_21 : decode cX7_init 21 = .ok (.aload_n 0, 1) := by decide +kernel
theorem dX7_init_22 : decode cX7_init 22 = .ok (.bipush 19, 2) := by decide +kernel
theorem dX7_init_24 : decode cX7_init 24 = .ok (.newarray .int, 2) := by decide +kernel
theorem dX7_init_26 : decode cX7_init 26 = .ok (.putfield 82, 3) := by decide +kernel
theorem dX7_init_29 : decode cX7_init 29 = .ok (.aload_n 0, 1) := by decide +kernel
theorem dX7_init_30 : decode cX7_init 30 = .ok (.bipush 38, 2) := by decide +kernel
theorem dX7_init_32 : decode cX7_init 32 = .ok (.newarray .int, 2) := by decide +kernel
theorem dX7_init_34 : decode cX7_init 34 = .ok (.putfield 85, 3) := by decide +kernel
theorem dX7_init_37 : decode cX7_init 37 = .ok (.aload_n 0, 1) := by decide +kernel
theorem dX7_init_38 : decode cX7_init 38 = .ok (.sipush 152, 3) := by decide +kernel
theorem dX7_init_41 : decode cX7_init 41 = .ok (.newarray .int, 2) := by decide +kernel
theorem dX7_init_43 : decode cX7_init 43 = .ok (.putfield 88, 3) := by decide +kernel
theorem dX7_init_46 : decode cX7_init 46 = .ok (.aload_n 0, 1) := by decide +kernel
theorem dX7_init_47 : decode cX7_init 47 = .ok (.bipush 19, 2) := by decide +kernel
theorem dX7_init_49 : decode cX7_init 49 = .ok (.newarray .int, 2) := by decide +kernel
theorem dX7_init_51 : decode cX7_init 51 = .ok (.putfield 91, 3) := by decide +kernel
theorem dX7_init_54 : decode cX7_init 54 = .ok (.aload_n 0, 1) := by decide +kernel
theorem dX7_init_55 : decode cX7_init 55 = .ok (.bipush 19, 2) := by decide +kernel
theorem dX7_init_57 : decode cX7_init 57 = .ok (.newarray .int, 2) := by decide +kernel
theorem dX7_init_59 : decode cX7_init 59 = .ok (.putfield 94, 3) := by decide +kernel
theorem dX7_init_62 : decode cX7_init 62 = .ok (.aload_n 0, 1) := by decide +kernel
theorem dX7_init_63 : decode cX7_init 63 = .ok (.bipush 19, 2) := by decide +kernel
theorem dX7_init_65 : decode cX7_init 65 = .ok (.newarray .int, 2) := by decide +kernel
theorem dX7_init_67 : decode cX7_init 67 = .ok (.putfield 97, 3) := by decide +kernel
theorem dX7_init_70 : decode cX7_init 70 = .ok (.aload_n 0, 1) := by decide +kernel
theorem dX7_init_71 : decode cX7_init 71 = .ok (.iconst 2, 1) := by decide +kernel
theorem dX7_init_72 : decode cX7_init 72 = .ok (.newarray .boolean, 2) := by decide +kernel
theorem dX7_init_74 : decode cX7_init 74 = .ok (.putfield 100, 3) := by decide +kernel
theorem dX7_init_77 : decode cX7_init 77 = .ok (.aload_n 0, 1) := by decide +kernel
theorem dX7_init_78 : decode cX7_init 78 = .ok (.bipush 18, 2) := by decide +kernel
theorem dX7_init_80 : decode cX7_init 80 = .ok (.newarray .int, 2) := by decide +kernel
theorem dX7_init_82 : decode cX7_init 82 = .ok (.putfield 104, 3) := by decide +kernel
theorem dX7_init_85 : decode cX7_init 85 = .ok (.aload_n 0, 1) := by decide +kernel
theorem dX7_init_86 : decode cX7_init 86 = .ok (.bipush 18, 2) := by decide +kernel
theorem dX7_init_88 : decode cX7_init 88 = .ok (.newarray .int, 2) := by decide +kernel
theorem dX7_init_90 : decode cX7_init 90 = .ok (.putfield 107, 3) := by decide +kernel
theorem dX7_init_93 : decode cX7_init 93 = .ok (.aload_n 0, 1) := by decide +kernel
theorem dX7_init_94 : decode cX7_init 94 = .ok (.bipush 18, 2) := by decide +kernel
theorem dX7_init_96 : decode cX7_init 96 = .ok (.newarray .int, 2) := by decide +kernel
theorem dX7_init_98 : decode cX7_init 98 = .ok (.putfield 110, 3) := by decide +kernel
theorem dX7_init_101 : decode cX7_init 101 = .ok (.aload_n 0, 1) := by decide +kernel
theorem dX7_init_102 : decode cX7_init 102 = .ok (.sipush 320, 3) := by decide +kernel
theorem dX7_init_105 : decode cX7_init 105 = .ok (.newarray .int, 2) := by decide +kernel
theorem dX7_init_107 : decode cX7_init 107 = .ok (.putfield 113, 3) := by decide +kernel
theorem dX7_init_110 : decode cX7_init 110 = .ok (.aload_n 0, 1) := by decide +kernel
theorem dX7_init_111 : decode cX7_init 111 = .ok (.bipush 121, 2) := by decide +kernel
theorem dX7_init_113 : decode cX7_init 113 = .ok (.newarray .int, 2) := by decide +kernel
theorem dX7_init_115 : decode cX7_init 115 = .ok (.putfield 116, 3) := by decide +kernel
theorem dX7_init_118 : decode cX7_init 118 = .ok (.aload_n 0, 1) := by decide +kernel
theorem dX7_init_119 : decode cX7_init 119 = .ok (.iconst (-1), 1) := by decide +kernel
theorem dX7_init_120 : decode cX7_init 120 = .ok (.putfield 119, 3) := by decide +kernel
theorem dX7_init_123 : decode cX7_init 123 = .ok (.aload_n 0, 1) := by decide +kernel
theorem dX7_init_124 : decode cX7_init 124 = .ok (.bipush 121, 2) := by decide +kernel
theorem dX7_init_126 : decode cX7_init 126 = .ok (.newarray .int, 2) := by decide +kernel
theorem dX7_init_128 : decode cX7_init 128 = .ok (.putfield 122, 3) := by decide +kernel
theorem dX7_init_131 : decode cX7_init 131 = .ok (.return_, 1) := by decide +kernel
theorem dX7_copy_0 : decode cX7_copy 0 = .ok (.iconst 0, 1) := by decide +kernel
theorem dX7_copy_1 : decode cX7_copy 1 = .ok (.istore 4, 2) := by decide +kernel
theorem dX7_copy_3 : decode cX7_copy 3 = .ok (.iload 4, 2) := by decide +kernel
theorem dX7_copy_5 : decode cX7_copy 5 = .ok (.bipush 19, 2) := by decide +kernel
theorem dX7_copy_7 : decode cX7_copy 7 = .ok (.if_icmp .ge 21, 3) := by decide +kernel
theorem dX7_copy_10 : decode cX7_copy 10 = .ok (.aload_n 2, 1) := by decide +kernel
theorem dX7_copy_11 : decode cX7_copy 11 = .ok (.iload_n 3, 1) := by decide +kernel
theorem dX7_copy_12 : decode cX7_copy 12 = .ok (.iload 4, 2) := by decide +kernel
theorem dX7_copy_14 : decode cX7_copy 14 = .ok (.iadd, 1) := by decide +kernel
theorem dX7_copy_15 : decode cX7_copy 15 = .ok (.aload_n 0, 1) := by decide +kernel
theorem dX7_copy_16 : decode cX7_copy 16 = .ok (.iload_n 1, 1) := by decide +kernel
theorem dX7_copy_17 : decode cX7_copy 17 = .ok (.iload 4, 2) := by decide +kernel
theorem dX7_copy_19 : decode cX7_copy 19 = .ok (.iadd, 1) := by decide +kernel
theorem dX7_copy_20 : decode cX7_copy 20 = .ok (.iaload, 1) := by decide +kernel
theorem dX7_copy_21 : decode cX7_copy 21 = .ok (.iastore, 1) := by decide +kernel
theorem dX7_copy_22 : decode cX7_copy 22 = .ok (.iinc 4 1, 3) := by decide +kernel
theorem dX7_copy_25 : decode cX7_copy 25 = .ok (.goto (-22), 3) := by decide +kernel
theorem dX7_copy_28 : decode cX7_copy 28 = .ok (.return_, 1) := by decide +kernel
set_option maxRecDepth 20000 in
theorem ggX7_isTold_X7_isIn : GoodIn wsX7_isTold wsX7_isIn := goodIn_r _ [4] (by decide +kernel) (by decide +kernel)
set_option maxRecDepth 20000 in
theorem gX7_isTold_X7_isIn : GoodIn wsX7_isTold (va_wsS RX7 69 yX7_isIn wsX7_isIn) := goodIn_app (goodIn_of _ (by decide +kernel)) ggX7_isTold_X7_isIn
set_option maxRecDepth 20000 in
theorem ggX7_isTold_X7_has : GoodIn wsX7_isTold wsX7_has := goodIn_r _ [7] (by decide +kernel) (by decide +kernel)
set_option maxRecDepth 20000 in
theorem gX7_isTold_X7_has : GoodIn wsX7_isTold (va_wsS RX7 125 yX7_has wsX7_has) := goodIn_app (goodIn_of _ (by decide +kernel)) ggX7_isTold_X7_has
theorem dX7_isTold_0 : decode cX7_isTold 0 = .ok (.iload_n 1, 1) := by decide +kernel
theorem dX7_isTold_1 : decode cX7_isTold 1 = .ok (.iconst 1, 1) := by decide +kernel
theorem dX7_isTold_2 : decode cX7_isTold 2 = .ok (.bipush 15, 2) := by decide +kernel
theorem dX7_isTold_4 : decode cX7_isTold 4 = .ok (.invokestatic 69, 3) := by decide +kernel
theorem dX7_isTold_7 : decode cX7_isTold 7 = .ok (.ifCond .eq 19, 3) := by decide +kernel
theorem dX7_isTold_10 : decode cX7_isTold 10 = .ok (.aload_n 0, 1) := by decide +kernel
theorem dX7_isTold_11 : decode cX7_isTold 11 = .ok (.iconst 2, 1) := by decide +kernel
theorem dX7_isTold_12 : decode cX7_isTold 12 = .ok (.iaload, 1) := by decide +kernel
theorem dX7_isTold_13 : decode cX7_isTold 13 = .ok (.iload_n 1, 1) := by decide +kernel
theorem dX7_isTold_14 : decode cX7_isTold 14 = .ok (.iconst 1, 1) := by decide +kernel
theorem dX7_isTold_15 : decode cX7_isTold 15 = .ok (.isub, 1) := by decide +kernel
theorem dX7_isTold_16 : decode cX7_isTold 16 = .ok (.invokestatic 125, 3) := by decide +kernel
theorem dX7_isTold_19 : decode cX7_isTold 19 = .ok (.ifCond .eq 7, 3) := by decide +kernel
theorem dX7_isTold_22 : decode cX7_isTold 22 = .ok (.iconst 1, 1) := by decide +kernel
theorem dX7_isTold_23 : decode cX7_isTold 23 = .ok (.goto 4, 3) := by decide +kernel
theorem dX7_isTold_26 : decode cX7_isTold 26 = .ok (.iconst 0, 1) := by decide +kernel
theorem dX7_isTold_27 : decode cX7_isTold 27 = .ok (.ireturn, 1) := by decide +kernel
set_option maxRecDepth 20000 in
theorem ggX7_pins_X7_isTold : GoodIn wsX7_pins wsX7_isTold := goodIn_r _ [4, 5, 6, 3, 7, 8, 9, 10] (by decide +kernel) (by decide +kernel)
set_option maxRecDepth 20000 in
theorem gX7_pins_X7_isTold : GoodIn wsX7_pins (va_wsS RX7 129 yX7_isTold wsX7_isTold) := goodIn_app (goodIn_of _ (by decide +kernel)) ggX7_pins_X7_isTold
theorem dX7_pins_0 : decode cX7_pins 0 = .ok (.iconst 0, 1) := by decide +kernel
theorem dX7_pins_1 : decode cX7_pins 1 = .ok (.istore_n 2, 1) := by decide +kernel
theorem dX7_pins_2 : decode cX7_pins 2 = .ok (.iconst 1, 1) := by decide +kernel
theorem dX7_pins_3 : decode cX7_pins 3 = .ok (.istore_n 3, 1) := by decide +kernel
theorem dX7_pins_4 : decode cX7_pins 4 = .ok (.iload_n 3, 1) := by decide +kernel
theorem dX7_pins_5 : decode cX7_pins 5 = .ok (.bipush 15, 2) := by decide +kernel
theorem dX7_pins_7 : decode cX7_pins 7 = .ok (.if_icmp .gt 54, 3) := by decide +kernel
theorem dX7_pins_10 : decode cX7_pins 10 = .ok (.iload_n 3, 1) := by decide +kernel
theorem dX7_pins_11 : decode cX7_pins 11 = .ok (.iload_n 1, 1) := by decide +kernel
theorem dX7_pins_12 : decode cX7_pins 12 = .ok (.if_icmp .eq 43, 3) := by decide +kernel
theorem dX7_pins_15 : decode cX7_pins 15 = .ok (.aload_n 0, 1) := by decide +kernel
theorem dX7_pins_16 : decode cX7_pins 16 = .ok (.iload_n 3, 1) := by decide +kernel
theorem dX7_pins_17 : decode cX7_pins 17 = .ok (.invokestatic 129, 3) := by decide +kernel
theorem dX7_pins_20 : decode cX7_pins 20 = .ok (.ifCond .eq 35, 3) := by decide +kernel
theorem dX7_pins_23 : decode cX7_pins 23 = .ok (.aload_n 0, 1) := by decide +kernel
theorem dX7_pins_24 : decode cX7_pins 24 = .ok (.iconst 3, 1) := by decide +kernel
theorem dX7_pins_25 : decode cX7_pins 25 = .ok (.iload_n 3, 1) := by decide +kernel
theorem dX7_pins_26 : decode cX7_pins 26 = .ok (.iadd, 1) := by decide +kernel
theorem dX7_pins_27 : decode cX7_pins 27 = .ok (.iaload, 1) := by decide +kernel
theorem dX7_pins_28 : decode cX7_pins 28 = .ok (.ifCond .le 27, 3) := by decide +kernel
theorem dX7_pins_31 : decode cX7_pins 31 = .ok (.iload_n 2, 1) := by decide +kernel
theorem dX7_pins_32 : decode cX7_pins 32 = .ok (.iconst 1, 1) := by decide +kernel
theorem dX7_pins_33 : decode cX7_pins 33 = .ok (.aload_n 0, 1) := by decide +kernel
theorem dX7_pins_34 : decode cX7_pins 34 = .ok (.iconst 3, 1) := by decide +kernel
theorem dX7_pins_35 : decode cX7_pins 35 = .ok (.iload_n 3, 1) := by decide +kernel
theorem dX7_pins_36 : decode cX7_pins 36 = .ok (.iadd, 1) := by decide +kernel
theorem dX7_pins_37 : decode cX7_pins 37 = .ok (.iaload, 1) := by decide +kernel
theorem dX7_pins_38 : decode cX7_pins 38 = .ok (.iconst 1, 1) := by decide +kernel
theorem dX7_pins_39 : decode cX7_pins 39 = .ok (.isub, 1) := by decide +kernel
theorem dX7_pins_40 : decode cX7_pins 40 = .ok (.ishl, 1) := by decide +kernel
theorem dX7_pins_41 : decode cX7_pins 41 = .ok (.iconst 1, 1) := by decide +kernel
theorem dX7_pins_42 : decode cX7_pins 42 = .ok (.aload_n 0, 1) := by decide +kernel
theorem dX7_pins_43 : decode cX7_pins 43 = .ok (.iconst 3, 1) := by decide +kernel
theorem dX7_pins_44 : decode cX7_pins 44 = .ok (.iload_n 3, 1) := by decide +kernel
theorem dX7_pins_45 : decode cX7_pins 45 = .ok (.iadd, 1) := by decide +kernel
theorem dX7_pins_46 : decode cX7_pins 46 = .ok (.iaload, 1) := by decide +kernel
theorem dX7_pins_47 : decode cX7_pins 47 = .ok (.iload_n 3, 1) := by decide +kernel
theorem dX7_pins_48 : decode cX7_pins 48 = .ok (.iadd, 1) := by decide +kernel
theorem dX7_pins_49 : decode cX7_pins 49 = .ok (.iconst 1, 1) := by decide +kernel
theorem dX7_pins_50 : decode cX7_pins 50 = .ok (.isub, 1) := by decide +kernel
theorem dX7_pins_51 : decode cX7_pins 51 = .ok (.ishl, 1) := by decide +kernel
theorem dX7_pins_52 : decode cX7_pins 52 = .ok (.ior, 1) := by decide +kernel
theorem dX7_pins_53 : decode cX7_pins 53 = .ok (.ior, 1) := by decide +kernel
theorem dX7_pins_54 : decode cX7_pins 54 = .ok (.istore_n 2, 1) := by decide +kernel
theorem dX7_pins_55 : decode cX7_pins 55 = .ok (.iinc 3 1, 3) := by decide +kernel
theorem dX7_pins_58 : decode cX7_pins 58 = .ok (.goto (-54), 3) := by decide +kernel
theorem dX7_pins_61 : decode cX7_pins 61 = .ok (.iload_n 2, 1) := by decide +kernel
theorem dX7_pins_62 : decode cX7_pins 62 = .ok (.ireturn, 1) := by decide +kernel
set_option maxRecDepth 20000 in
theorem ggX7_mayPin_X7_pins : GoodIn wsX7_mayPin wsX7_pins := goodIn_r _ [4, 5, 6, 3, 7, 8, 9, 10, 11, 12, 13] (by decide +kernel) (by decide +kernel)
set_option maxRecDepth 20000 in
theorem gX7_mayPin_X7_pins : GoodIn wsX7_mayPin (va_wsS RX7 133 yX7_pins wsX7_pins) := goodIn_app (goodIn_of _ (by decide +kernel)) ggX7_mayPin_X7_pins
theorem dX7_mayPin_0 : decode cX7_mayPin 0 = .ok (.aload_n 0, 1) := by decide +kernel
theorem dX7_mayPin_1 : decode cX7_mayPin 1 = .ok (.iconst 1, 1) := by decide +kernel
theorem dX7_mayPin_2 : decode cX7_mayPin 2 = .ok (.iaload, 1) := by decide +kernel
theorem dX7_mayPin_3 : decode cX7_mayPin 3 = .ok (.aload_n 0, 1) := by decide +kernel
theorem dX7_mayPin_4 : decode cX7_mayPin 4 = .ok (.iload_n 1, 1) := by decide +kernel
theorem dX7_mayPin_5 : decode cX7_mayPin 5 = .ok (.invokestatic 133, 3) := by decide +kernel
theorem dX7_mayPin_8 : decode cX7_mayPin 8 = .ok (.ior, 1) := by decide +kernel
theorem dX7_mayPin_9 : decode cX7_mayPin 9 = .ok (.iconst 1, 1) := by decide +kernel
theorem dX7_mayPin_10 : decode cX7_mayPin 10 = .ok (.iload_n 2, 1) := by decide +kernel
theorem dX7_mayPin_11 : decode cX7_mayPin 11 = .ok (.iconst 1, 1) := by decide +kernel
theorem dX7_mayPin_12 : decode cX7_mayPin 12 = .ok (.isub, 1) := by decide +kernel
theorem dX7_mayPin_13 : decode cX7_mayPin 13 = .ok (.ishl, 1) := by decide +kernel
theorem dX7_mayPin_14 : decode cX7_mayPin 14 = .ok (.iconst 1, 1) := by decide +kernel
theorem dX7_mayPin_15 : decode cX7_mayPin 15 = .ok (.iload_n 2, 1) := by decide +kernel
theorem dX7_mayPin_16 : decode cX7_mayPin 16 = .ok (.iload_n 1, 1) := by decide +kernel
theorem dX7_mayPin_17 : decode cX7_mayPin 17 = .ok (.iadd, 1) := by decide +kernel
theorem dX7_mayPin_18 : decode cX7_mayPin 18 = .ok (.iconst 1, 1) := by decide +kernel
theorem dX7_mayPin_19 : decode cX7_mayPin 19 = .ok (.isub, 1) := by decide +kernel
theorem dX7_mayPin_20 : decode cX7_mayPin 20 = .ok (.ishl, 1) := by decide +kernel
theorem dX7_mayPin_21 : decode cX7_mayPin 21 = .ok (.ior, 1) := by decide +kernel
theorem dX7_mayPin_22 : decode cX7_mayPin 22 = .ok (.iand, 1) := by decide +kernel
theorem dX7_mayPin_23 : decode cX7_mayPin 23 = .ok (.ifCond .ne 7, 3) := by decide +kernel
theorem dX7_mayPin_26 : decode cX7_mayPin 26 = .ok (.iconst 1, 1) := by decide +kernel
theorem dX7_mayPin_27 : decode cX7_mayPin 27 = .ok (.goto 4, 3) := by decide +kernel
theorem dX7_mayPin_30 : decode cX7_mayPin 30 = .ok (.iconst 0, 1) := by decide +kernel
theorem dX7_mayPin_31 : decode cX7_mayPin 31 = .ok (.ireturn, 1) := by decide +kernel
set_option maxRecDepth 20000 in
theorem ggX7_readHole_X7_goes : GoodIn wsX7_readHole wsX7_goes := goodIn_r _ [7, 8, 9, 10, 11, 12, 13, 2, 14, 15, 16, 17, 6, 18, 19, 20, 21, 22, 23, 24, 25, 48, 49, 50, 51, 52, 53, 54, 55, 56, 57, 58, 59, 60, 61, 62, 63, 64, 65, 66, 67, 68, 69, 70, 71, 72, 73, 74, 75, 76, 77, 78] (by decide +kernel) (by decide +kernel)
set_option maxRecDepth 20000 in
theorem gX7_readHole_X7_goes : GoodIn wsX7_readHole (wsV RX7 137 RX7 yX7_goes wsX7_goes) := goodIn_app (goodIn_of _ (by decide +kernel)) ggX7_readHole_X7_goes
set_option maxRecDepth 20000 in
theorem ggX7_readHole_X7_isNumber : GoodIn wsX7_readHole wsX7_isNumber := goodIn_r _ [29, 12, 2, 30, 31, 32, 6, 33, 34, 11, 35, 36, 37, 38, 48, 49, 50, 51, 52, 53, 54, 55, 56, 57, 58, 59, 60, 61, 62, 63, 64, 65, 66, 67, 68, 69, 70, 71, 72, 73, 74, 75, 76, 77, 78] (by decide +kernel) (by decide +kernel)
set_option maxRecDepth 20000 in
theorem gX7_readHole_X7_isNumber : GoodIn wsX7_readHole (wsV RX7 140 RX7 yX7_isNumber wsX7_isNumber) := goodIn_app (goodIn_of _ (by decide +kernel)) ggX7_readHole_X7_isNumber
set_option maxRecDepth 20000 in
theorem ggX7_readHole_X7_pins : GoodIn wsX7_readHole wsX7_pins := goodIn_r _ [41, 42, 43, 6, 44, 36, 37, 38, 45, 46, 47] (by decide +kernel) (by decide +kernel)
set_option maxRecDepth 20000 in
theorem gX7_readHole_X7_pins : GoodIn wsX7_readHole (va_wsS RX7 133 yX7_pins wsX7_pins) := goodIn_app (goodIn_of _ (by decide +kernel)) ggX7_readHole_X7_pins
set_option maxRecDepth 20000 in
theorem ggX7_readHole_X7_has : GoodIn wsX7_readHole wsX7_has := goodIn_r _ [47] (by decide +kernel) (by decide +kernel)
set_option maxRecDepth 20000 in
theorem gX7_readHole_X7_has : GoodIn wsX7_readHole (va_wsS RX7 125 yX7_has wsX7_has) := goodIn_app (goodIn_of _ (by decide +kernel)) ggX7_readHole_X7_has
set_option maxRecDepth 20000 in
theorem ggX7_readHole_X7_bad : GoodIn wsX7_readHole wsX7_bad := goodIn_r _ [33, 12, 34, 11, 35, 48, 49, 50, 51, 52, 53, 54, 55, 56, 57, 58, 59, 60, 61, 62, 63, 64, 65, 66, 67, 68, 69, 70, 71, 72, 73, 74, 75, 76, 77, 78] (by decide +kernel) (by decide +kernel)
set_option maxRecDepth 20000 in
theorem gX7_readHole_X7_bad : GoodIn wsX7_readHole (wsV RX7 66 RX7 yX7_bad wsX7_bad) := goodIn_app (goodIn_of _ (by decide +kernel)) ggX7_readHole_X7_bad
theorem dX7_readHole_0 : decode cX7_readHole 0 = .ok (.aload_n 0, 1) := by decide +kernel
theorem dX7_readHole_1 : decode cX7_readHole 1 = .ok (.invokevirtual 137, 3) := by decide +kernel
theorem dX7_readHole_4 : decode cX7_readHole 4 = .ok (.aload_n 0, 1) := by decide +kernel
theorem dX7_readHole_5 : decode cX7_readHole 5 = .ok (.iconst 1, 1) := by decide +kernel
theorem dX7_readHole_6 : decode cX7_readHole 6 = .ok (.aload_n 0, 1) := by decide +kernel
theorem dX7_readHole_7 : decode cX7_readHole 7 = .ok (.getfield 82, 3) := by decide +kernel
theorem dX7_readHole_10 : decode cX7_readHole 10 = .ok (.iconst 0, 1) := by decide +kernel
theorem dX7_readHole_11 : decode cX7_readHole 11 = .ok (.iaload, 1) := by decide +kernel
theorem dX7_readHole_12 : decode cX7_readHole 12 = .ok (.invokevirtual 140, 3) := by decide +kernel
theorem dX7_readHole_15 : decode cX7_readHole 15 = .ok (.ifCond .ne 5, 3) := by decide +kernel
theorem dX7_readHole_18 : decode cX7_readHole 18 = .ok (.iconst 0, 1) := by decide +kernel
theorem dX7_readHole_19 : decode cX7_readHole 19 = .ok (.ireturn, 1) := by decide +kernel
theorem dX7_readHole_20 : decode cX7_readHole 20 = .ok (.aload_n 0, 1) := by decide +kernel
theorem dX7_readHole_21 : decode cX7_readHole 21 = .ok (.getfield 82, 3) := by decide +kernel
theorem dX7_readHole_24 : decode cX7_readHole 24 = .ok (.iconst 1, 1) := by decide +kernel
theorem dX7_readHole_25 : decode cX7_readHole 25 = .ok (.iaload, 1) := by decide +kernel
theorem dX7_readHole_26 : decode cX7_readHole 26 = .ok (.aload_n 0, 1) := by decide +kernel
theorem dX7_readHole_27 : decode cX7_readHole 27 = .ok (.getfield 82, 3) := by decide +kernel
theorem dX7_readHole_30 : decode cX7_readHole 30 = .ok (.iconst 0, 1) := by decide +kernel
theorem dX7_readHole_31 : decode cX7_readHole 31 = .ok (.invokestatic 133, 3) := by decide +kernel
theorem dX7_readHole_34 : decode cX7_readHole 34 = .ok (.ior, 1) := by decide +kernel
theorem dX7_readHole_35 : decode cX7_readHole 35 = .ok (.aload_n 0, 1) := by decide +kernel
theorem dX7_readHole_36 : decode cX7_readHole 36 = .ok (.getfield 41, 3) := by decide +kernel
theorem dX7_readHole_39 : decode cX7_readHole 39 = .ok (.iconst 1, 1) := by decide +kernel
theorem dX7_readHole_40 : decode cX7_readHole 40 = .ok (.isub, 1) := by decide +kernel
theorem dX7_readHole_41 : decode cX7_readHole 41 = .ok (.invokestatic 125, 3) := by decide +kernel
theorem dX7_readHole_44 : decode cX7_readHole 44 = .ok (.ifCond .eq 9, 3) := by decide +kernel
theorem dX7_readHole_47 : decode cX7_readHole 47 = .ok (.aload_n 0, 1) := by decide +kernel
theorem dX7_readHole_48 : decode cX7_readHole 48 = .ok (.iconst 3, 1) := by decide +kernel
theorem dX7_readHole_49 : decode cX7_readHole 49 = .ok (.invokevirtual 66, 3) := by decide +kernel
theorem dX7_readHole_52 : decode cX7_readHole 52 = .ok (.ireturn, 1) := by decide +kernel
theorem dX7_readHole_53 : decode cX7_readHole 53 = .ok (.aload_n 0, 1) := by decide +kernel
theorem dX7_readHole_54 : decode cX7_readHole 54 = .ok (.getfield 82, 3) := by decide +kernel
theorem dX7_readHole_57 : decode cX7_readHole 57 = .ok (.iconst 1, 1) := by decide +kernel
theorem dX7_readHole_58 : decode cX7_readHole 58 = .ok (.dup2, 1) := by decide +kernel
theorem dX7_readHole_59 : decode cX7_readHole 59 = .ok (.iaload, 1) := by decide +kernel
theorem dX7_readHole_60 : decode cX7_readHole 60 = .ok (.iconst 1, 1) := by decide +kernel
theorem dX7_readHole_61 : decode cX7_readHole 61 = .ok (.aload_n 0, 1) := by decide +kernel
theorem dX7_readHole_62 : decode cX7_readHole 62 = .ok (.getfield 41, 3) := by decide +kernel
theorem dX7_readHole_65 : decode cX7_readHole 65 = .ok (.iconst 1, 1) := by decide +kernel
theorem dX7_readHole_66 : decode cX7_readHole 66 = .ok (.isub, 1) := by decide +kernel
theorem dX7_readHole_67 : decode cX7_readHole 67 = .ok (.ishl, 1) := by decide +kernel
theorem dX7_readHole_68 : decode cX7_readHole 68 = .ok (.ior, 1) := by decide +kernel
theorem dX7_readHole_69 : decode cX7_readHole 69 = .ok (.iastore, 1) := by decide +kernel
theorem dX7_readHole_70 : decode cX7_readHole 70 = .ok (.aload_n 0, 1) := by decide +kernel
theorem dX7_readHole_71 : decode cX7_readHole 71 = .ok (.invokevirtual 137, 3) := by decide +kernel
theorem dX7_readHole_74 : decode cX7_readHole 74 = .ok (.iconst 1, 1) := by decide +kernel
theorem dX7_readHole_75 : decode cX7_readHole 75 = .ok (.ireturn, 1) := by decide +kernel
set_option maxRecDepth 20000 in
theorem ggX7_readPair_X7_bits : GoodIn wsX7_readPair wsX7_bits := goodIn_r _ [6] (by decide +kernel) (by decide +kernel)
set_option maxRecDepth 20000 in
theorem gX7_readPair_X7_bits : GoodIn wsX7_readPair (va_wsS RX7 143 yX7_bits wsX7_bits) := goodIn_app (goodIn_of _ (by decide +kernel)) ggX7_readPair_X7_bits
set_option maxRecDepth 20000 in
theorem ggX7_readPair_X7_bad : GoodIn wsX7_readPair wsX7_bad := goodIn_r _ [10, 11, 12, 13, 14, 65, 66, 67, 68, 69, 70, 71, 72, 73, 74, 75, 76, 77, 78, 79, 80, 81, 82, 83, 84, 85, 86, 87, 88, 89, 90, 91, 92, 93, 94, 95] (by decide +kernel) (by decide +kernel)
set_option maxRecDepth 20000 in
theorem gX7_readPair_X7_bad : GoodIn wsX7_readPair (wsV RX7 66 RX7 yX7_bad wsX7_bad) := goodIn_app (goodIn_of _ (by decide +kernel)) ggX7_readPair_X7_bad
set_option maxRecDepth 20000 in
theorem ggX7_readPair_X7_goes : GoodIn wsX7_readPair wsX7_goes := goodIn_r _ [18, 19, 20, 21, 13, 11, 22, 2, 23, 24, 25, 26, 5, 27, 28, 29, 30, 31, 32, 33, 34, 65, 66, 67, 68, 69, 70, 71, 72, 73, 74, 75, 76, 77, 78, 79, 80, 81, 82, 83, 84, 85, 86, 87, 88, 89, 90, 91, 92, 93, 94, 95] (by decide +kernel) (by decide +kernel)
set_option maxRecDepth 20000 in
theorem gX7_readPair_X7_goes : GoodIn wsX7_readPair (wsV RX7 137 RX7 yX7_goes wsX7_goes) := goodIn_app (goodIn_of _ (by decide +kernel)) ggX7_readPair_X7_goes
set_option maxRecDepth 20000 in
theorem ggX7_readPair_X7_isNumber : GoodIn wsX7_readPair wsX7_isNumber := goodIn_r _ [38, 11, 2, 7, 8, 9, 5, 10, 12, 13, 14, 39, 40, 41, 65, 66, 67, 68, 69, 70, 71, 72, 73, 74, 75, 76, 77, 78, 79, 80, 81, 82, 83, 84, 85, 86, 87, 88, 89, 90, 91, 92, 93, 94, 95] (by decide +kernel) (by decide +kernel)
set_option maxRecDepth 20000 in
theorem gX7_readPair_X7_isNumber : GoodIn wsX7_readPair (wsV RX7 140 RX7 yX7_isNumber wsX7_isNumber) := goodIn_app (goodIn_of _ (by decide +kernel)) ggX7_readPair_X7_isNumber
set_option maxRecDepth 20000 in
theorem ggX7_readPair_X7_isTold : GoodIn wsX7_readPair wsX7_isTold := goodIn_r _ [44, 39, 40, 5, 41, 45, 46, 47] (by decide +kernel) (by decide +kernel)
set_option maxRecDepth 20000 in
theorem gX7_readPair_X7_isTold : GoodIn wsX7_readPair (va_wsS RX7 129 yX7_isTold wsX7_isTold) := goodIn_app (goodIn_of _ (by decide +kernel)) ggX7_readPair_X7_isTold
set_option maxRecDepth 20000 in
theorem ggX7_readPair_X7_isAt : GoodIn wsX7_readPair wsX7_isAt := goodIn_r _ [51, 52, 53, 5, 54, 23, 24, 55, 56, 57, 58, 11, 22, 65, 66, 67, 68, 69, 70, 71, 72, 73, 74, 75, 76, 77, 78, 79, 80, 81, 82, 83, 84, 85, 86, 87, 88, 89, 90, 91, 92, 93, 94, 95] (by decide +kernel) (by decide +kernel)
set_option maxRecDepth 20000 in
theorem gX7_readPair_X7_isAt : GoodIn wsX7_readPair (wsV RX7 146 RX7 yX7_isAt wsX7_isAt) := goodIn_app (goodIn_of _ (by decide +kernel)) ggX7_readPair_X7_isAt
set_option maxRecDepth 20000 in
theorem ggX7_readPair_X7_mayPin : GoodIn wsX7_readPair wsX7_mayPin := goodIn_r _ [61, 62, 63, 5, 64, 42, 43, 44, 39, 40, 41, 45, 46, 47] (by decide +kernel) (by decide +kernel)
set_option maxRecDepth 20000 in
theorem gX7_readPair_X7_mayPin : GoodIn wsX7_readPair (va_wsS RX7 150 yX7_mayPin wsX7_mayPin) := goodIn_app (goodIn_of _ (by decide +kernel)) ggX7_readPair_X7_mayPin
theorem dX7_readPair_0 : decode cX7_readPair 0 = .ok (.aload_n 0, 1) := by decide +kernel
theorem dX7_readPair_1 : decode cX7_readPair 1 = .ok (.getfield 82, 3) := by decide +kernel
theorem dX7_readPair_4 : decode cX7_readPair 4 = .ok (.iconst 2, 1) := by decide +kernel
theorem dX7_readPair_5 : decode cX7_readPair 5 = .ok (.iaload, 1) := by decide +kernel
theorem dX7_readPair_6 : decode cX7_readPair 6 = .ok (.invokestatic 143, 3) := by decide +kernel
theorem dX7_readPair_9 : decode cX7_readPair 9 = .ok (.bipush 9, 2) := by decide +kernel
theorem dX7_readPair_11 : decode cX7_readPair 11 = .ok (.if_icmp .ne 9, 3) := by decide +kernel
theorem dX7_readPair_14 : decode cX7_readPair 14 = .ok (.aload_n 0, 1) := by decide +kernel
theorem dX7_readPair_15 : decode cX7_readPair 15 = .ok (.iconst 4, 1) := by decide +kernel
theorem dX7_readPair_16 : decode cX7_readPair 16 = .ok (.invokevirtual 66, 3) := by decide +kernel
theorem dX7_readPair_19 : decode cX7_readPair 19 = .ok (.ireturn, 1) := by decide +kernel
theorem dX7_readPair_20 : decode cX7_readPair 20 = .ok (.aload_n 0, 1) := by decide +kernel
theorem dX7_readPair_21 : decode cX7_readPair 21 = .ok (.invokevirtual 137, 3) := by decide +kernel
theorem dX7_readPair_24 : decode cX7_readPair 24 = .ok (.aload_n 0, 1) := by decide +kernel
theorem dX7_readPair_25 : decode cX7_readPair 25 = .ok (.iconst 1, 1) := by decide +kernel
theorem dX7_readPair_26 : decode cX7_readPair 26 = .ok (.bipush 15, 2) := by decide +kernel
theorem dX7_readPair_28 : decode cX7_readPair 28 = .ok (.invokevirtual 140, 3) := by decide +kernel
theorem dX7_readPair_31 : decode cX7_readPair 31 = .ok (.ifCond .ne 5, 3) := by decide +kernel
theorem dX7_readPair_34 : decode cX7_readPair 34 = .ok (.iconst 0, 1) := by decide +kernel
theorem dX7_readPair_35 : decode cX7_readPair 35 = .ok (.ireturn, 1) := by decide +kernel
theorem dX7_readPair_36 : decode cX7_readPair 36 = .ok (.aload_n 0, 1) := by decide +kernel
theorem dX7_readPair_37 : decode cX7_readPair 37 = .ok (.getfield 41, 3) := by decide +kernel
theorem dX7_readPair_40 : decode cX7_readPair 40 = .ok (.istore_n 1, 1) := by decide +kernel
theorem dX7_readPair_41 : decode cX7_readPair 41 = .ok (.aload_n 0, 1) := by decide +kernel
theorem dX7_readPair_42 : decode cX7_readPair 42 = .ok (.getfield 82, 3) := by decide +kernel
theorem dX7_readPair_45 : decode cX7_readPair 45 = .ok (.iload_n 1, 1) := by decide +kernel
theorem dX7_readPair_46 : decode cX7_readPair 46 = .ok (.invokestatic 129, 3) := by decide +kernel
theorem dX7_readPair_49 : decode cX7_readPair 49 = .ok (.ifCond .eq 9, 3) := by decide +kernel
theorem dX7_readPair_52 : decode cX7_readPair 52 = .ok (.aload_n 0, 1) := by decide +kernel
theorem dX7_readPair_53 : decode cX7_readPair 53 = .ok (.iconst 3, 1) := by decide +kernel
theorem dX7_readPair_54 : decode cX7_readPair 54 = .ok (.invokevirtual 66, 3) := by decide +kernel
theorem dX7_readPair_57 : decode cX7_readPair 57 = .ok (.ireturn, 1) := by decide +kernel
theorem dX7_readPair_58 : decode cX7_readPair 58 = .ok (.aload_n 0, 1) := by decide +kernel
theorem dX7_readPair_59 : decode cX7_readPair 59 = .ok (.invokevirtual 137, 3) := by decide +kernel
theorem dX7_readPair_62 : decode cX7_readPair 62 = .ok (.iconst 0, 1) := by decide +kernel
theorem dX7_readPair_63 : decode cX7_readPair 63 = .ok (.istore_n 2, 1) := by decide +kernel
theorem dX7_readPair_64 : decode cX7_readPair 64 = .ok (.aload_n 0, 1) := by decide +kernel
theorem dX7_readPair_65 : decode cX7_readPair 65 = .ok (.invokevirtual 146, 3) := by decide +kernel
theorem dX7_readPair_68 : decode cX7_readPair 68 = .ok (.ifCond .eq 52, 3) := by decide +kernel
theorem dX7_readPair_71 : decode cX7_readPair 71 = .ok (.aload_n 0, 1) := by decide +kernel
theorem dX7_readPair_72 : decode cX7_readPair 72 = .ok (.invokevirtual 137, 3) := by decide +kernel
theorem dX7_readPair_75 : decode cX7_readPair 75 = .ok (.aload_n 0, 1) := by decide +kernel
theorem dX7_readPair_76 : decode cX7_readPair 76 = .ok (.iconst 1, 1) := by decide +kernel
theorem dX7_readPair_77 : decode cX7_readPair 77 = .ok (.aload_n 0, 1) := by decide +kernel
theorem dX7_readPair_78 : decode cX7_readPair 78 = .ok (.getfield 82, 3) := by decide +kernel
theorem dX7_readPair_81 : decode cX7_readPair 81 = .ok (.iconst 0, 1) := by decide +kernel
theorem dX7_readPair_82 : decode cX7_readPair 82 = .ok (.iaload, 1) := by decide +kernel
theorem dX7_readPair_83 : decode cX7_readPair 83 = .ok (.iload_n 1, 1) := by decide +kernel
theorem dX7_readPair_84 : decode cX7_readPair 84 = .ok (.isub, 1) := by decide +kernel
theorem dX7_readPair_85 : decode cX7_readPair 85 = .ok (.invokevirtual 140, 3) := by decide +kernel
theorem dX7_readPair_88 : decode cX7_readPair 88 = .ok (.ifCond .ne 5, 3) := by decide +kernel
theorem dX7_readPair_91 : decode cX7_readPair 91 = .ok (.iconst 0, 1) := by decide +kernel
theorem dX7_readPair_92 : decode cX7_readPair 92 = .ok (.ireturn, 1) := by decide +kernel
theorem dX7_readPair_93 : decode cX7_readPair 93 = .ok (.aload_n 0, 1) := by decide +kernel
theorem dX7_readPair_94 : decode cX7_readPair 94 = .ok (.getfield 41, 3) := by decide +kernel
theorem dX7_readPair_97 : decode cX7_readPair 97 = .ok (.istore_n 2, 1) := by decide +kernel
theorem dX7_readPair_98 : decode cX7_readPair 98 = .ok (.aload_n 0, 1) := by decide +kernel
theorem dX7_readPair_99 : decode cX7_readPair 99 = .ok (.getfield 82, 3) := by decide +kernel
theorem dX7_readPair_102 : decode cX7_readPair 102 = .ok (.iload_n 1, 1) := by decide +kernel
theorem dX7_readPair_103 : decode cX7_readPair 103 = .ok (.iload_n 2, 1) := by decide +kernel
theorem dX7_readPair_104 : decode cX7_readPair 104 = .ok (.invokestatic 150, 3) := by decide +kernel
theorem dX7_readPair_107 : decode cX7_readPair 107 = .ok (.ifCond .ne 9, 3) := by decide +kernel
theorem dX7_readPair_110 : decode cX7_readPair 110 = .ok (.aload_n 0, 1) := by decide +kernel
theorem dX7_readPair_111 : decode cX7_readPair 111 = .ok (.iconst 3, 1) := by decide +kernel
theorem dX7_readPair_112 : decode cX7_readPair 112 = .ok (.invokevirtual 66, 3) := by decide +kernel
theorem dX7_readPair_115 : decode cX7_readPair 115 = .ok (.ireturn, 1) := by decide +kernel
theorem dX7_readPair_116 : decode cX7_readPair 116 = .ok (.aload_n 0, 1) := by decide +kernel
theorem dX7_readPair_117 : decode cX7_readPair 117 = .ok (.invokevirtual 137, 3) := by decide +kernel
theorem dX7_readPair_120 : decode cX7_readPair 120 = .ok (.aload_n 0, 1) := by decide +kernel
theorem dX7_readPair_121 : decode cX7_readPair 121 = .ok (.getfield 82, 3) := by decide +kernel
theorem dX7_readPair_124 : decode cX7_readPair 124 = .ok (.iconst 2, 1) := by decide +kernel
theorem dX7_readPair_125 : decode cX7_readPair 125 = .ok (.dup2, 1) := by decide +kernel
theorem dX7_readPair_126 : decode cX7_readPair 126 = .ok (.iaload, 1) := by decide +kernel
theorem dX7_readPair_127 : decode cX7_readPair 127 = .ok (.iconst 1, 1) := by decide +kernel
theorem dX7_readPair_128 : decode cX7_readPair 128 = .ok (.iload_n 1, 1) := by decide +kernel
theorem dX7_readPair_129 : decode cX7_readPair 129 = .ok (.iconst 1, 1) := by decide +kernel
theorem dX7_readPair_130 : decode cX7_readPair 130 = .ok (.isub, 1) := by decide +kernel
theorem dX7_readPair_131 : decode cX7_readPair 131 = .ok (.ishl, 1) := by decide +kernel
theorem dX7_readPair_132 : decode cX7_readPair 132 = .ok (.ior, 1) := by decide +kernel
theorem dX7_readPair_133 : decode cX7_readPair 133 = .ok (.iastore, 1) := by decide +kernel
theorem dX7_readPair_134 : decode cX7_readPair 134 = .ok (.aload_n 0, 1) := by decide +kernel
theorem dX7_readPair_135 : decode cX7_readPair 135 = .ok (.getfield 82, 3) := by decide +kernel
theorem dX7_readPair_138 : decode cX7_readPair 138 = .ok (.iconst 3, 1) := by decide +kernel
theorem dX7_readPair_139 : decode cX7_readPair 139 = .ok (.iload_n 1, 1) := by decide +kernel
theorem dX7_readPair_140 : decode cX7_readPair 140 = .ok (.iadd, 1) := by decide +kernel
theorem dX7_readPair_141 : decode cX7_readPair 141 = .ok (.iload_n 2, 1) := by decide +kernel
theorem dX7_readPair_142 : decode cX7_readPair 142 = .ok (.iastore, 1) := by decide +kernel
theorem dX7_readPair_143 : decode cX7_readPair 143 = .ok (.iconst 1, 1) := by decide +kernel
theorem dX7_readPair_144 : decode cX7_readPair 144 = .ok (.ireturn, 1) := by decide +kernel
set_option maxRecDepth 20000 in
theorem ggX7_readCells_X7_goes : GoodIn wsX7_readCells wsX7_goes := goodIn_r _ [7, 8, 9, 10, 11, 12, 13, 2, 14, 15, 16, 17, 6, 18, 19, 20, 21, 22, 23, 24, 25, 39, 40, 41, 42, 43, 44, 45, 46, 47, 48, 49, 50, 51, 52, 53, 54, 55, 56, 57, 58, 59, 60, 61, 62, 63, 64, 65, 66, 67, 68, 69] (by decide +kernel) (by decide +kernel)
set_option maxRecDepth 20000 in
theorem gX7_readCells_X7_goes : GoodIn wsX7_readCells (wsV RX7 137 RX7 yX7_goes wsX7_goes) := goodIn_app (goodIn_of _ (by decide +kernel)) ggX7_readCells_X7_goes
set_option maxRecDepth 20000 in
theorem ggX7_readCells_X7_isNumber : GoodIn wsX7_readCells wsX7_isNumber := goodIn_r _ [29, 12, 2, 30, 31, 32, 6, 33, 34, 11, 35, 36, 37, 38, 39, 40, 41, 42, 43, 44, 45, 46, 47, 48, 49, 50, 51, 52, 53, 54, 55, 56, 57, 58, 59, 60, 61, 62, 63, 64, 65, 66, 67, 68, 69] (by decide +kernel) (by decide +kernel)
set_option maxRecDepth 20000 in
theorem gX7_readCells_X7_isNumber : GoodIn wsX7_readCells (wsV RX7 140 RX7 yX7_isNumber wsX7_isNumber) := goodIn_app (goodIn_of _ (by decide +kernel)) ggX7_readCells_X7_isNumber
theorem dX7_readCells_0 : decode cX7_readCells 0 = .ok (.aload_n 0, 1) := by decide +kernel
theorem dX7_readCells_1 : decode cX7_readCells 1 = .ok (.invokevirtual 137, 3) := by decide +kernel
theorem dX7_readCells_4 : decode cX7_readCells 4 = .ok (.aload_n 0, 1) := by decide +kernel
theorem dX7_readCells_5 : decode cX7_readCells 5 = .ok (.iconst 1, 1) := by decide +kernel
theorem dX7_readCells_6 : decode cX7_readCells 6 = .ok (.bipush 18, 2) := by decide +kernel
theorem dX7_readCells_8 : decode cX7_readCells 8 = .ok (.invokevirtual 140, 3) := by decide +kernel
theorem dX7_readCells_11 : decode cX7_readCells 11 = .ok (.ifCond .ne 5, 3) := by decide +kernel
theorem dX7_readCells_14 : decode cX7_readCells 14 = .ok (.iconst 0, 1) := by decide +kernel
theorem dX7_readCells_15 : decode cX7_readCells 15 = .ok (.ireturn, 1) := by decide +kernel
theorem dX7_readCells_16 : decode cX7_readCells 16 = .ok (.aload_n 0, 1) := by decide +kernel
theorem dX7_readCells_17 : decode cX7_readCells 17 = .ok (.getfield 82, 3) := by decide +kernel
theorem dX7_readCells_20 : decode cX7_readCells 20 = .ok (.iconst 0, 1) := by decide +kernel
theorem dX7_readCells_21 : decode cX7_readCells 21 = .ok (.aload_n 0, 1) := by decide +kernel
theorem dX7_readCells_22 : decode cX7_readCells 22 = .ok (.getfield 41, 3) := by decide +kernel
theorem dX7_readCells_25 : decode cX7_readCells 25 = .ok (.iastore, 1) := by decide +kernel
theorem dX7_readCells_26 : decode cX7_readCells 26 = .ok (.aload_n 0, 1) := by decide +kernel
theorem dX7_readCells_27 : decode cX7_readCells 27 = .ok (.invokevirtual 137, 3) := by decide +kernel
theorem dX7_readCells_30 : decode cX7_readCells 30 = .ok (.iconst 1, 1) := by decide +kernel
theorem dX7_readCells_31 : decode cX7_readCells 31 = .ok (.ireturn, 1) := by decide +kernel
set_option maxRecDepth 20000 in
theorem ggX7_readRow_X7_isCells : GoodIn wsX7_readRow wsX7_isCells := goodIn_r _ [6, 7, 8, 5, 9, 10, 11, 12, 13, 14, 15, 16, 17, 89, 90, 91, 92, 93, 94, 95, 96, 97, 98, 99, 100, 101, 102, 103, 104, 105, 106, 107, 108, 109, 110, 111, 112, 113, 114, 115, 116, 117, 118, 119] (by decide +kernel) (by decide +kernel)
set_option maxRecDepth 20000 in
theorem gX7_readRow_X7_isCells : GoodIn wsX7_readRow (wsV RX7 154 RX7 yX7_isCells wsX7_isCells) := goodIn_app (goodIn_of _ (by decide +kernel)) ggX7_readRow_X7_isCells
set_option maxRecDepth 20000 in
theorem ggX7_readRow_X7_readCells : GoodIn wsX7_readRow wsX7_readCells := goodIn_r _ [21, 1, 22, 23, 24, 25, 5, 26, 27, 28, 29, 30, 16, 17, 10, 11, 31, 32, 33, 34, 35, 36, 37, 38, 39, 40, 41, 42, 43, 44, 45, 46, 47, 48, 49, 50, 51, 52, 53, 89, 90, 91, 92, 93, 94, 95, 96, 97, 98, 99, 100, 101, 102, 103, 104, 105, 106, 107, 108, 109, 110, 111, 112, 113, 114, 115, 116, 117, 118, 119] (by decide +kernel) (by decide +kernel)
set_option maxRecDepth 20000 in
theorem gX7_readRow_X7_readCells : GoodIn wsX7_readRow (wsV RX7 157 RX7 yX7_readCells wsX7_readCells) := goodIn_app (goodIn_of _ (by decide +kernel)) ggX7_readRow_X7_readCells
set_option maxRecDepth 20000 in
theorem ggX7_readRow_X7_bad : GoodIn wsX7_readRow wsX7_bad := goodIn_r _ [48, 16, 49, 30, 50, 89, 90, 91, 92, 93, 94, 95, 96, 97, 98, 99, 100, 101, 102, 103, 104, 105, 106, 107, 108, 109, 110, 111, 112, 113, 114, 115, 116, 117, 118, 119] (by decide +kernel) (by decide +kernel)
set_option maxRecDepth 20000 in
theorem gX7_readRow_X7_bad : GoodIn wsX7_readRow (wsV RX7 66 RX7 yX7_bad wsX7_bad) := goodIn_app (goodIn_of _ (by decide +kernel)) ggX7_readRow_X7_bad
set_option maxRecDepth 20000 in
theorem ggX7_readRow_X7_isHole : GoodIn wsX7_readRow wsX7_isHole := goodIn_r _ [57, 7, 8, 5, 9, 10, 11, 12, 13, 14, 15, 16, 17, 89, 90, 91, 92, 93, 94, 95, 96, 97, 98, 99, 100, 101, 102, 103, 104, 105, 106, 107, 108, 109, 110, 111, 112, 113, 114, 115, 116, 117, 118, 119] (by decide +kernel) (by decide +kernel)
set_option maxRecDepth 20000 in
theorem gX7_readRow_X7_isHole : GoodIn wsX7_readRow (wsV RX7 160 RX7 yX7_isHole wsX7_isHole) := goodIn_app (goodIn_of _ (by decide +kernel)) ggX7_readRow_X7_isHole
set_option maxRecDepth 20000 in
theorem ggX7_readRow_X7_readHole : GoodIn wsX7_readRow wsX7_readHole := goodIn_r _ [61, 1, 22, 23, 24, 25, 5, 26, 27, 28, 29, 30, 16, 17, 10, 11, 31, 32, 33, 34, 35, 36, 37, 38, 39, 40, 41, 42, 43, 44, 45, 46, 47, 48, 49, 50, 51, 52, 53, 62, 63, 64, 65, 66, 67, 68, 69, 70, 89, 90, 91, 92, 93, 94, 95, 96, 97, 98, 99, 100, 101, 102, 103, 104, 105, 106, 107, 108, 109, 110, 111, 112, 113, 114, 115, 116, 117, 118, 119] (by decide +kernel) (by decide +kernel)
set_option maxRecDepth 20000 in
theorem gX7_readRow_X7_readHole : GoodIn wsX7_readRow (wsV RX7 163 RX7 yX7_readHole wsX7_readHole) := goodIn_app (goodIn_of _ (by decide +kernel)) ggX7_readRow_X7_readHole
set_option maxRecDepth 20000 in
theorem ggX7_readRow_X7_isPair : GoodIn wsX7_readRow wsX7_isPair := goodIn_r _ [74, 7, 8, 5, 9, 10, 11, 12, 13, 14, 15, 16, 17, 89, 90, 91, 92, 93, 94, 95, 96, 97, 98, 99, 100, 101, 102, 103, 104, 105, 106, 107, 108, 109, 110, 111, 112, 113, 114, 115, 116, 117, 118, 119] (by decide +kernel) (by decide +kernel)
set_option maxRecDepth 20000 in
theorem gX7_readRow_X7_isPair : GoodIn wsX7_readRow (wsV RX7 166 RX7 yX7_isPair wsX7_isPair) := goodIn_app (goodIn_of _ (by decide +kernel)) ggX7_readRow_X7_isPair
set_option maxRecDepth 20000 in
theorem ggX7_readRow_X7_readPair : GoodIn wsX7_readRow wsX7_readPair := goodIn_r _ [78, 1, 22, 79, 80, 5, 81, 45, 46, 47, 48, 16, 49, 30, 50, 23, 24, 25, 26, 27, 28, 29, 17, 10, 11, 31, 32, 33, 34, 35, 36, 37, 38, 39, 40, 41, 42, 43, 44, 51, 52, 53, 65, 66, 67, 68, 69, 70, 82, 83, 84, 85, 7, 8, 9, 12, 13, 14, 15, 86, 87, 88, 62, 63, 64, 89, 90, 91, 92, 93, 94, 95, 96, 97, 98, 99, 100, 101, 102, 103, 104, 105, 106, 107, 108, 109, 110, 111, 112, 113, 114, 115, 116, 117, 118, 119] (by decide +kernel) (by decide +kernel)
set_option maxRecDepth 20000 in
theorem gX7_readRow_X7_readPair : GoodIn wsX7_readRow (wsV RX7 169 RX7 yX7_readPair wsX7_readPair) := goodIn_app (goodIn_of _ (by decide +kernel)) ggX7_readRow_X7_readPair
theorem dX7_readRow_0 : decode cX7_readRow 0 = .ok (.aload_n 0, 1) := by decide +kernel
theorem dX7_readRow_1 : decode cX7_readRow 1 = .ok (.getfield 82, 3) := by decide +kernel
theorem dX7_readRow_4 : decode cX7_readRow 4 = .ok (.iconst 0, 1) := by decide +kernel
theorem dX7_readRow_5 : decode cX7_readRow 5 = .ok (.iaload, 1) := by decide +kernel
theorem dX7_readRow_6 : decode cX7_readRow 6 = .ok (.ifCond .ne 23, 3) := by decide +kernel
theorem dX7_readRow_9 : decode cX7_readRow 9 = .ok (.aload_n 0, 1) := by decide +kernel
theorem dX7_readRow_10 : decode cX7_readRow 10 = .ok (.invokevirtual 154, 3) := by decide +kernel
theorem dX7_readRow_13 : decode cX7_readRow 13 = .ok (.ifCond .eq 10, 3) := by decide +kernel
theorem dX7_readRow_16 : decode cX7_readRow 16 = .ok (.aload_n 0, 1) := by decide +kernel
theorem dX7_readRow_17 : decode cX7_readRow 17 = .ok (.invokevirtual 157, 3) := by decide +kernel
theorem dX7_readRow_20 : decode cX7_readRow 20 = .ok (.goto 8, 3) := by decide +kernel
theorem dX7_readRow_23 : decode cX7_readRow 23 = .ok (.aload_n 0, 1) := by decide +kernel
theorem dX7_readRow_24 : decode cX7_readRow 24 = .ok (.iconst 1, 1) := by decide +kernel
theorem dX7_readRow_25 : decode cX7_readRow 25 = .ok (.invokevirtual 66, 3) := by decide +kernel
theorem dX7_readRow_28 : decode cX7_readRow 28 = .ok (.ireturn, 1) := by decide +kernel
theorem dX7_readRow_29 : decode cX7_readRow 29 = .ok (.aload_n 0, 1) := by decide +kernel
theorem dX7_readRow_30 : decode cX7_readRow 30 = .ok (.invokevirtual 160, 3) := by decide +kernel
theorem dX7_readRow_33 : decode cX7_readRow 33 = .ok (.ifCond .eq 10, 3) := by decide +kernel
theorem dX7_readRow_36 : decode cX7_readRow 36 = .ok (.aload_n 0, 1) := by decide +kernel
theorem dX7_readRow_37 : decode cX7_readRow 37 = .ok (.invokevirtual 163, 3) := by decide +kernel
theorem dX7_readRow_40 : decode cX7_readRow 40 = .ok (.goto 22, 3) := by decide +kernel
theorem dX7_readRow_43 : decode cX7_readRow 43 = .ok (.aload_n 0, 1) := by decide +kernel
theorem dX7_readRow_44 : decode cX7_readRow 44 = .ok (.invokevirtual 166, 3) := by decide +kernel
theorem dX7_readRow_47 : decode cX7_readRow 47 = .ok (.ifCond .eq 10, 3) := by decide +kernel
theorem dX7_readRow_50 : decode cX7_readRow 50 = .ok (.aload_n 0, 1) := by decide +kernel
theorem dX7_readRow_51 : decode cX7_readRow 51 = .ok (.invokevirtual 169, 3) := by decide +kernel
theorem dX7_readRow_54 : decode cX7_readRow 54 = .ok (.goto 8, 3) := by decide +kernel
theorem dX7_readRow_57 : decode cX7_readRow 57 = .ok (.aload_n 0, 1) := by decide +kernel
theorem dX7_readRow_58 : decode cX7_readRow 58 = .ok (.iconst 1, 1) := by decide +kernel
theorem dX7_readRow_59 : decode cX7_readRow 59 = .ok (.invokevirtual 66, 3) := by decide +kernel
theorem dX7_readRow_62 : decode cX7_readRow 62 = .ok (.ireturn, 1) := by decide +kernel
set_option maxRecDepth 20000 in
theorem ggX7_readEnd_X7_bad : GoodIn wsX7_readEnd wsX7_bad := goodIn_r _ [6, 1, 7, 8, 9, 31, 32, 33, 34, 35, 36, 37, 38, 39, 40, 41, 42, 43, 44, 45, 46, 47, 48, 49, 50, 51, 52, 53, 54, 55, 56, 57, 58, 59, 60, 61] (by decide +kernel) (by decide +kernel)
set_option maxRecDepth 20000 in
theorem gX7_readEnd_X7_bad : GoodIn wsX7_readEnd (wsV RX7 66 RX7 yX7_bad wsX7_bad) := goodIn_app (goodIn_of _ (by decide +kernel)) ggX7_readEnd_X7_bad
set_option maxRecDepth 20000 in
theorem ggX7_readEnd_X7_goes : GoodIn wsX7_readEnd wsX7_goes := goodIn_r _ [13, 14, 15, 16, 8, 1, 17, 18, 19, 20, 21, 22, 5, 23, 24, 25, 26, 27, 28, 29, 30, 31, 32, 33, 34, 35, 36, 37, 38, 39, 40, 41, 42, 43, 44, 45, 46, 47, 48, 49, 50, 51, 52, 53, 54, 55, 56, 57, 58, 59, 60, 61] (by decide +kernel) (by decide +kernel)
set_option maxRecDepth 20000 in
theorem gX7_readEnd_X7_goes : GoodIn wsX7_readEnd (wsV RX7 137 RX7 yX7_goes wsX7_goes) := goodIn_app (goodIn_of _ (by decide +kernel)) ggX7_readEnd_X7_goes
theorem dX7_readEnd_0 : decode cX7_readEnd 0 = .ok (.aload_n 0, 1) := by decide +kernel
theorem dX7_readEnd_1 : decode cX7_readEnd 1 = .ok (.getfield 27, 3) := by decide +kernel
theorem dX7_readEnd_4 : decode cX7_readEnd 4 = .ok (.iconst 4, 1) := by decide +kernel
theorem dX7_readEnd_5 : decode cX7_readEnd 5 = .ok (.if_icmp .eq 9, 3) := by decide +kernel
theorem dX7_readEnd_8 : decode cX7_readEnd 8 = .ok (.aload_n 0, 1) := by decide +kernel
theorem dX7_readEnd_9 : decode cX7_readEnd 9 = .ok (.iconst 1, 1) := by decide +kernel
theorem dX7_readEnd_10 : decode cX7_readEnd 10 = .ok (.invokevirtual 66, 3) := by decide +kernel
theorem dX7_readEnd_13 : decode cX7_readEnd 13 = .ok (.ireturn, 1) := by decide +kernel
theorem dX7_readEnd_14 : decode cX7_readEnd 14 = .ok (.aload_n 0, 1) := by decide +kernel
theorem dX7_readEnd_15 : decode cX7_readEnd 15 = .ok (.invokevirtual 137, 3) := by decide +kernel
theorem dX7_readEnd_18 : decode cX7_readEnd 18 = .ok (.iconst 1, 1) := by decide +kernel
theorem dX7_readEnd_19 : decode cX7_readEnd 19 = .ok (.ireturn, 1) := by decide +kernel
set_option maxRecDepth 20000 in
theorem ggX7_frame_X7_goes : GoodIn wsX7_frame wsX7_goes := goodIn_r _ [15, 5, 3, 16, 17, 7, 18, 19, 20, 21, 22, 23, 14, 24, 25, 26, 27, 28, 29, 30, 31, 104, 105, 106, 107, 108, 109, 110, 111, 112, 113, 114, 115, 116, 117, 118, 119, 120, 121, 122, 123, 124, 125, 126, 127, 128, 129, 130, 131, 132, 133, 134] (by decide +kernel) (by decide +kernel)
set_option maxRecDepth 20000 in
theorem gX7_frame_X7_goes : GoodIn wsX7_frame (wsV RX7 137 RX7 yX7_goes wsX7_goes) := goodIn_app (goodIn_of _ (by decide +kernel)) ggX7_frame_X7_goes
set_option maxRecDepth 20000 in
theorem ggX7_frame_X7_readRow : GoodIn wsX7_frame wsX7_readRow := goodIn_r _ [35, 6, 36, 37, 38, 14, 39, 40, 41, 42, 20, 21, 43, 44, 45, 46, 7, 18, 47, 48, 49, 50, 19, 11, 12, 13, 15, 5, 3, 16, 17, 22, 23, 24, 25, 26, 27, 28, 29, 30, 31, 51, 52, 53, 54, 55, 56, 57, 58, 4, 8, 59, 60, 61, 62, 63, 64, 65, 66, 67, 68, 69, 70, 71, 72, 73, 74, 75, 76, 77, 78, 79, 80, 81, 82, 83, 84, 85, 86, 87, 88, 89, 90, 91, 92, 93, 94, 95, 96, 104, 105, 106, 107, 108, 109, 110, 111, 112, 113, 114, 115, 116, 117, 118, 119, 120, 121, 122, 123, 124, 125, 126, 127, 128, 129, 130, 131, 132, 133, 134] (by decide +kernel) (by decide +kernel)
set_option maxRecDepth 20000 in
theorem gX7_frame_X7_readRow : GoodIn wsX7_frame (wsV RX7 172 RX7 yX7_readRow wsX7_readRow) := goodIn_app (goodIn_of _ (by decide +kernel)) ggX7_frame_X7_readRow
set_option maxRecDepth 20000 in
theorem ggX7_frame_X7_readEnd : GoodIn wsX7_frame wsX7_readEnd := goodIn_r _ [100, 7, 55, 56, 57, 14, 58, 4, 17, 8, 11, 12, 13, 15, 5, 3, 16, 18, 19, 20, 21, 22, 23, 24, 25, 26, 27, 28, 29, 30, 31, 104, 105, 106, 107, 108, 109, 110, 111, 112, 113, 114, 115, 116, 117, 118, 119, 120, 121, 122, 123, 124, 125, 126, 127, 128, 129, 130, 131, 132, 133, 134] (by decide +kernel) (by decide +kernel)
set_option maxRecDepth 20000 in
theorem gX7_frame_X7_readEnd : GoodIn wsX7_frame (wsV RX7 175 RX7 yX7_readEnd wsX7_readEnd) := goodIn_app (goodIn_of _ (by decide +kernel)) ggX7_frame_X7_readEnd
set_option maxRecDepth 20000 in
theorem ggX7_frame_X7_copy : GoodIn wsX7_frame wsX7_copy := goodIn_r _ [103] (by decide +kernel) (by decide +kernel)
set_option maxRecDepth 20000 in
theorem gX7_frame_X7_copy : GoodIn wsX7_frame (va_wsS RX7 178 yX7_copy wsX7_copy) := goodIn_app (goodIn_of _ (by decide +kernel)) ggX7_frame_X7_copy
theorem dX7_frame_0 : decode cX7_frame 0 = .ok (.aload_n 0, 1) := by decide +kernel
theorem dX7_frame_1 : decode cX7_frame 1 = .ok (.iconst 0, 1) := by decide +kernel
theorem dX7_frame_2 : decode cX7_frame 2 = .ok (.putfield 1, 3) := by decide +kernel
theorem dX7_frame_5 : decode cX7_frame 5 = .ok (.aload_n 0, 1) := by decide +kernel
theorem dX7_frame_6 : decode cX7_frame 6 = .ok (.aload_n 0, 1) := by decide +kernel
theorem dX7_frame_7 : decode cX7_frame 7 = .ok (.getfield 11, 3) := by decide +kernel
theorem dX7_frame_10 : decode cX7_frame 10 = .ok (.putfield 18, 3) := by decide +kernel
theorem dX7_frame_13 : decode cX7_frame 13 = .ok (.aload_n 0, 1) := by decide +kernel
theorem dX7_frame_14 : decode cX7_frame 14 = .ok (.iconst 0, 1) := by decide +kernel
theorem dX7_frame_15 : decode cX7_frame 15 = .ok (.putfield 11, 3) := by decide +kernel
theorem dX7_frame_18 : decode cX7_frame 18 = .ok (.aload_n 0, 1) := by decide +kernel
theorem dX7_frame_19 : decode cX7_frame 19 = .ok (.iconst 0, 1) := by decide +kernel
theorem dX7_frame_20 : decode cX7_frame 20 = .ok (.putfield 60, 3) := by decide +kernel
theorem dX7_frame_23 : decode cX7_frame 23 = .ok (.aload_n 0, 1) := by decide +kernel
theorem dX7_frame_24 : decode cX7_frame 24 = .ok (.iconst 0, 1) := by decide +kernel
theorem dX7_frame_25 : decode cX7_frame 25 = .ok (.putfield 21, 3) := by decide +kernel
theorem dX7_frame_28 : decode cX7_frame 28 = .ok (.iconst 0, 1) := by decide +kernel
theorem dX7_frame_29 : decode cX7_frame 29 = .ok (.istore_n 1, 1) := by decide +kernel
theorem dX7_frame_30 : decode cX7_frame 30 = .ok (.iconst 0, 1) := by decide +kernel
theorem dX7_frame_31 : decode cX7_frame 31 = .ok (.istore_n 2, 1) := by decide +kernel
theorem dX7_frame_32 : decode cX7_frame 32 = .ok (.iload_n 2, 1) := by decide +kernel
theorem dX7_frame_33 : decode cX7_frame 33 = .ok (.bipush 19, 2) := by decide +kernel
theorem dX7_frame_35 : decode cX7_frame 35 = .ok (.if_icmp .ge 16, 3) := by decide +kernel
theorem dX7_frame_38 : decode cX7_frame 38 = .ok (.aload_n 0, 1) := by decide +kernel
theorem dX7_frame_39 : decode cX7_frame 39 = .ok (.getfield 82, 3) := by decide +kernel
theorem dX7_frame_42 : decode cX7_frame 42 = .ok (.iload_n 2, 1) := by decide +kernel
theorem dX7_frame_43 : decode cX7_frame 43 = .ok (.iconst 0, 1) := by decide +kernel
theorem dX7_frame_44 : decode cX7_frame 44 = .ok (.iastore, 1) := by decide +kernel
theorem dX7_frame_45 : decode cX7_frame 45 = .ok (.iinc 2 1, 3) := by decide +kernel
theorem dX7_frame_48 : decode cX7_frame 48 = .ok (.goto (-16), 3) := by decide +kernel
theorem dX7_frame_51 : decode cX7_frame 51 = .ok (.aload_n 0, 1) := by decide +kernel
theorem dX7_frame_52 : decode cX7_frame 52 = .ok (.invokevirtual 137, 3) := by decide +kernel
theorem dX7_frame_55 : decode cX7_frame 55 = .ok (.aload_n 0, 1) := by decide +kernel
theorem dX7_frame_56 : decode cX7_frame 56 = .ok (.getfield 27, 3) := by decide +kernel
theorem dX7_frame_59 : decode cX7_frame 59 = .ok (.ifCond .eq 30, 3) := by decide +kernel
theorem dX7_frame_62 : decode cX7_frame 62 = .ok (.aload_n 0, 1) := by decide +kernel
theorem dX7_frame_63 : decode cX7_frame 63 = .ok (.invokevirtual 172, 3) := by decide +kernel
theorem dX7_frame_66 : decode cX7_frame 66 = .ok (.ifCond .eq 10, 3) := by decide +kernel
theorem dX7_frame_69 : decode cX7_frame 69 = .ok (.aload_n 0, 1) := by decide +kernel
theorem dX7_frame_70 : decode cX7_frame 70 = .ok (.invokevirtual 175, 3) := by decide +kernel
theorem dX7_frame_73 : decode cX7_frame 73 = .ok (.ifCond .ne 10, 3) := by decide +kernel
theorem dX7_frame_76 : decode cX7_frame 76 = .ok (.iconst (-1), 1) := by decide +kernel
theorem dX7_frame_77 : decode cX7_frame 77 = .ok (.aload_n 0, 1) := by decide +kernel
theorem dX7_frame_78 : decode cX7_frame 78 = .ok (.getfield 63, 3) := by decide +kernel
theorem dX7_frame_81 : decode cX7_frame 81 = .ok (.isub, 1) := by decide +kernel
theorem dX7_frame_82 : decode cX7_frame 82 = .ok (.ireturn, 1) := by decide +kernel
theorem dX7_frame_83 : decode cX7_frame 83 = .ok (.iinc 1 1, 3) := by decide +kernel
theorem dX7_frame_86 : decode cX7_frame 86 = .ok (.goto (-31), 3) := by decide +kernel
theorem dX7_frame_89 : decode cX7_frame 89 = .ok (.aload_n 0, 1) := by decide +kernel
theorem dX7_frame_90 : decode cX7_frame 90 = .ok (.getfield 82, 3) := by decide +kernel
theorem dX7_frame_93 : decode cX7_frame 93 = .ok (.iconst 0, 1) := by decide +kernel
theorem dX7_frame_94 : decode cX7_frame 94 = .ok (.aload_n 0, 1) := by decide +kernel
theorem dX7_frame_95 : decode cX7_frame 95 = .ok (.getfield 79, 3) := by decide +kernel
theorem dX7_frame_98 : decode cX7_frame 98 = .ok (.iconst 0, 1) := by decide +kernel
theorem dX7_frame_99 : decode cX7_frame 99 = .ok (.invokestatic 178, 3) := by decide +kernel
theorem dX7_frame_102 : decode cX7_frame 102 = .ok (.aload_n 0, 1) := by decide +kernel
theorem dX7_frame_103 : decode cX7_frame 103 = .ok (.iconst 0, 1) := by decide +kernel
theorem dX7_frame_104 : decode cX7_frame 104 = .ok (.putfield 182, 3) := by decide +kernel
theorem dX7_frame_107 : decode cX7_frame 107 = .ok (.iload_n 1, 1) := by decide +kernel
theorem dX7_frame_108 : decode cX7_frame 108 = .ok (.ireturn, 1) := by decide +kernel
theorem dX7_fault_0 : decode cX7_fault 0 = .ok (.aload_n 0, 1) := by decide +kernel
theorem dX7_fault_1 : decode cX7_fault 1 = .ok (.iconst 0, 1) := by decide +kernel
theorem dX7_fault_2 : decode cX7_fault 2 = .ok (.putfield 1, 3) := by decide +kernel
theorem dX7_fault_5 : decode cX7_fault 5 = .ok (.aload_n 0, 1) := by decide +kernel
theorem dX7_fault_6 : decode cX7_fault 6 = .ok (.getfield 60, 3) := by decide +kernel
theorem dX7_fault_9 : decode cX7_fault 9 = .ok (.ireturn, 1) := by decide +kernel
theorem dX7_laysKind_0 : decode cX7_laysKind 0 = .ok (.iconst 0, 1) := by decide +kernel
theorem dX7_laysKind_1 : decode cX7_laysKind 1 = .ok (.istore_n 3, 1) := by decide +kernel
theorem dX7_laysKind_2 : decode cX7_laysKind 2 = .ok (.iload_n 3, 1) := by decide +kernel
theorem dX7_laysKind_3 : decode cX7_laysKind 3 = .ok (.bipush 19, 2) := by decide +kernel
theorem dX7_laysKind_5 : decode cX7_laysKind 5 = .ok (.if_icmp .ge 13, 3) := by decide +kernel
theorem dX7_laysKind_8 : decode cX7_laysKind 8 = .ok (.aload_n 0, 1) := by decide +kernel
theorem dX7_laysKind_9 : decode cX7_laysKind 9 = .ok (.iload_n 3, 1) := by decide +kernel
theorem dX7_laysKind_10 : decode cX7_laysKind 10 = .ok (.iconst 0, 1) := by decide +kernel
theorem dX7_laysKind_11 : decode cX7_laysKind 11 = .ok (.iastore, 1) := by decide +kernel
theorem dX7_laysKind_12 : decode cX7_laysKind 12 = .ok (.iinc 3 1, 3) := by decide +kernel
theorem dX7_laysKind_15 : decode cX7_laysKind 15 = .ok (.goto (-13), 3) := by decide +kernel
theorem dX7_laysKind_18 : decode cX7_laysKind 18 = .ok (.aload_n 0, 1) := by decide +kernel
theorem dX7_laysKind_19 : decode cX7_laysKind 19 = .ok (.iconst 0, 1) := by decide +kernel
theorem dX7_laysKind_20 : decode cX7_laysKind 20 = .ok (.iload_n 1, 1) := by decide +kernel
theorem dX7_laysKind_21 : decode cX7_laysKind 21 = .ok (.iconst 1, 1) := by decide +kernel
theorem dX7_laysKind_22 : decode cX7_laysKind 22 = .ok (.if_icmp .eq 8, 3) := by decide +kernel
theorem dX7_laysKind_25 : decode cX7_laysKind 25 = .ok (.iload_n 1, 1) := by decide +kernel
theorem dX7_laysKind_26 : decode cX7_laysKind 26 = .ok (.iconst 3, 1) := by decide +kernel
theorem dX7_laysKind_27 : decode cX7_laysKind 27 = .ok (.if_icmp .ne 11, 3) := by decide +kernel
theorem dX7_laysKind_30 : decode cX7_laysKind 30 = .ok (.iconst 2, 1) := by decide +kernel
theorem dX7_laysKind_31 : decode cX7_laysKind 31 = .ok (.iload_n 2, 1) := by decide +kernel
theorem dX7_laysKind_32 : decode cX7_laysKind 32 = .ok (.imul, 1) := by decide +kernel
theorem dX7_laysKind_33 : decode cX7_laysKind 33 = .ok (.iconst 1, 1) := by decide +kernel
theorem dX7_laysKind_34 : decode cX7_laysKind 34 = .ok (.iadd, 1) := by decide +kernel
theorem dX7_laysKind_35 : decode cX7_laysKind 35 = .ok (.goto 6, 3) := by decide +kernel
theorem dX7_laysKind_38 : decode cX7_laysKind 38 = .ok (.iconst 2, 1) := by decide +kernel
theorem dX7_laysKind_39 : decode cX7_laysKind 39 = .ok (.iload_n 2, 1) := by decide +kernel
theorem dX7_laysKind_40 : decode cX7_laysKind 40 = .ok (.imul, 1) := by decide +kernel
theorem dX7_laysKind_41 : decode cX7_laysKind 41 = .ok (.iastore, 1) := by decide +kernel
theorem dX7_laysKind_42 : decode cX7_laysKind 42 = .ok (.aload_n 0, 1) := by decide +kernel
theorem dX7_laysKind_43 : decode cX7_laysKind 43 = .ok (.iconst 1, 1) := by decide +kernel
theorem dX7_laysKind_44 : decode cX7_laysKind 44 = .ok (.iload_n 1, 1) := by decide +kernel
theorem dX7_laysKind_45 : decode cX7_laysKind 45 = .ok (.iconst 1, 1) := by decide +kernel
theorem dX7_laysKind_46 : decode cX7_laysKind 46 = .ok (.if_icmp .ne 13, 3) := by decide +kernel
theorem dX7_laysKind_49 : decode cX7_laysKind 49 = .ok (.iconst 1, 1) := by decide +kernel
theorem dX7_laysKind_50 : decode cX7_laysKind 50 = .ok (.iconst 2, 1) := by decide +kernel
theorem dX7_laysKind_51 : decode cX7_laysKind 51 = .ok (.iload_n 2, 1) := by decide +kernel
theorem dX7_laysKind_52 : decode cX7_laysKind 52 = .ok (.imul, 1) := by decide +kernel
theorem dX7_laysKind_53 : decode cX7_laysKind 53 = .ok (.iconst 1, 1) := by decide +kernel
theorem dX7_laysKind_54 : decode cX7_laysKind 54 = .ok (.isub, 1) := by decide +kernel
theorem dX7_laysKind_55 : decode cX7_laysKind 55 = .ok (.ishl, 1) := by decide +kernel
theorem dX7_laysKind_56 : decode cX7_laysKind 56 = .ok (.goto 15, 3) := by decide +kernel
theorem dX7_laysKind_59 : decode cX7_laysKind 59 = .ok (.iload_n 1, 1) := by decide +kernel
theorem dX7_laysKind_60 : decode cX7_laysKind 60 = .ok (.iconst 3, 1) := by decide +kernel
theorem dX7_laysKind_61 : decode cX7_laysKind 61 = .ok (.if_icmp .ne 9, 3) := by decide +kernel
theorem dX7_laysKind_64 : decode cX7_laysKind 64 = .ok (.iconst 1, 1) := by decide +kernel
theorem dX7_laysKind_65 : decode cX7_laysKind 65 = .ok (.iload_n 2, 1) := by decide +kernel
theorem dX7_laysKind_66 : decode cX7_laysKind 66 = .ok (.ishl, 1) := by decide +kernel
theorem dX7_laysKind_67 : decode cX7_laysKind 67 = .ok (.goto 4, 3) := by decide +kernel
theorem dX7_laysKind_70 : decode cX7_laysKind 70 = .ok (.iconst 0, 1) := by decide +kernel
theorem dX7_laysKind_71 : decode cX7_laysKind 71 = .ok (.iastore, 1) := by decide +kernel
theorem dX7_laysKind_72 : decode cX7_laysKind 72 = .ok (.aload_n 0, 1) := by decide +kernel
theorem dX7_laysKind_73 : decode cX7_laysKind 73 = .ok (.iconst 2, 1) := by decide +kernel
theorem dX7_laysKind_74 : decode cX7_laysKind 74 = .ok (.iload_n 1, 1) := by decide +kernel
theorem dX7_laysKind_75 : decode cX7_laysKind 75 = .ok (.iconst 2, 1) := by decide +kernel
theorem dX7_laysKind_76 : decode cX7_laysKind 76 = .ok (.if_icmp .ne 13, 3) := by decide +kernel
theorem dX7_laysKind_79 : decode cX7_laysKind 79 = .ok (.iconst 1, 1) := by decide +kernel
theorem dX7_laysKind_80 : decode cX7_laysKind 80 = .ok (.iload_n 2, 1) := by decide +kernel
theorem dX7_laysKind_81 : decode cX7_laysKind 81 = .ok (.ishl, 1) := by decide +kernel
theorem dX7_laysKind_82 : decode cX7_laysKind 82 = .ok (.iconst 1, 1) := by decide +kernel
theorem dX7_laysKind_83 : decode cX7_laysKind 83 = .ok (.isub, 1) := by decide +kernel
theorem dX7_laysKind_84 : decode cX7_laysKind 84 = .ok (.iconst 1, 1) := by decide +kernel
theorem dX7_laysKind_85 : decode cX7_laysKind 85 = .ok (.ishl, 1) := by decide +kernel
theorem dX7_laysKind_86 : decode cX7_laysKind 86 = .ok (.goto 8, 3) := by decide +kernel
theorem dX7_laysKind_89 : decode cX7_laysKind 89 = .ok (.iconst 1, 1) := by decide +kernel
theorem dX7_laysKind_90 : decode cX7_laysKind 90 = .ok (.iload_n 2, 1) := by decide +kernel
theorem dX7_laysKind_91 : decode cX7_laysKind 91 = .ok (.ishl, 1) := by decide +kernel
theorem dX7_laysKind_92 : decode cX7_laysKind 92 = .ok (.iconst 1, 1) := by decide +kernel
theorem dX7_laysKind_93 : decode cX7_laysKind 93 = .ok (.isub, 1) := by decide +kernel
theorem dX7_laysKind_94 : decode cX7_laysKind 94 = .ok (.iastore, 1) := by decide +kernel
theorem dX7_laysKind_95 : decode cX7_laysKind 95 = .ok (.return_, 1) := by decide +kernel
set_option maxRecDepth 20000 in
theorem ggX7_kind_X7_isIn : GoodIn wsX7_kind wsX7_isIn := goodIn_r _ [6] (by decide +kernel) (by decide +kernel)
set_option maxRecDepth 20000 in
theorem gX7_kind_X7_isIn : GoodIn wsX7_kind (va_wsS RX7 69 yX7_isIn wsX7_isIn) := goodIn_app (goodIn_of _ (by decide +kernel)) ggX7_kind_X7_isIn
set_option maxRecDepth 20000 in
theorem ggX7_kind_X7_snap : GoodIn wsX7_kind wsX7_snap := goodIn_r _ [10, 11, 12, 2, 13, 14, 5, 15, 19, 20, 21, 22, 23, 24, 25, 26, 27, 28, 29, 30, 31, 32, 33, 34, 35, 36, 37, 38, 39, 40, 41, 42, 43, 44, 45, 46, 47, 48, 49] (by decide +kernel) (by decide +kernel)
set_option maxRecDepth 20000 in
theorem gX7_kind_X7_snap : GoodIn wsX7_kind (wsV RX7 185 RX7 yX7_snap wsX7_snap) := goodIn_app (goodIn_of _ (by decide +kernel)) ggX7_kind_X7_snap
set_option maxRecDepth 20000 in
theorem ggX7_kind_X7_laysKind : GoodIn wsX7_kind wsX7_laysKind := goodIn_r _ [18] (by decide +kernel) (by decide +kernel)
set_option maxRecDepth 20000 in
theorem gX7_kind_X7_laysKind : GoodIn wsX7_kind (va_wsS RX7 188 yX7_laysKind wsX7_laysKind) := goodIn_app (goodIn_of _ (by decide +kernel)) ggX7_kind_X7_laysKind
theorem dX7_kind_0 : decode cX7_kind 0 = .ok (.aload_n 0, 1) := by decide +kernel
theorem dX7_kind_1 : decode cX7_kind 1 = .ok (.iconst 0, 1) := by decide +kernel
theorem dX7_kind_2 : decode cX7_kind 2 = .ok (.putfield 1, 3) := by decide +kernel
theorem dX7_kind_5 : decode cX7_kind 5 = .ok (.iload_n 1, 1) := by decide +kernel
theorem dX7_kind_6 : decode cX7_kind 6 = .ok (.iconst 0, 1) := by decide +kernel
theorem dX7_kind_7 : decode cX7_kind 7 = .ok (.iconst 3, 1) := by decide +kernel
theorem dX7_kind_8 : decode cX7_kind 8 = .ok (.invokestatic 69, 3) := by decide +kernel
theorem dX7_kind_11 : decode cX7_kind 11 = .ok (.ifCond .eq 25, 3) := by decide +kernel
theorem dX7_kind_14 : decode cX7_kind 14 = .ok (.iload_n 2, 1) := by decide +kernel
theorem dX7_kind_15 : decode cX7_kind 15 = .ok (.iconst 1, 1) := by decide +kernel
theorem dX7_kind_16 : decode cX7_kind 16 = .ok (.iload_n 1, 1) := by decide +kernel
theorem dX7_kind_17 : decode cX7_kind 17 = .ok (.iconst 2, 1) := by decide +kernel
theorem dX7_kind_18 : decode cX7_kind 18 = .ok (.irem, 1) := by decide +kernel
theorem dX7_kind_19 : decode cX7_kind 19 = .ok (.iconst 1, 1) := by decide +kernel
theorem dX7_kind_20 : decode cX7_kind 20 = .ok (.if_icmp .ne 8, 3) := by decide +kernel
theorem dX7_kind_23 : decode cX7_kind 23 = .ok (.bipush 8, 2) := by decide +kernel
theorem dX7_kind_25 : decode cX7_kind 25 = .ok (.goto 5, 3) := by decide +kernel
theorem dX7_kind_28 : decode cX7_kind 28 = .ok (.bipush 9, 2) := by decide +kernel
theorem dX7_kind_30 : decode cX7_kind 30 = .ok (.invokestatic 69, 3) := by decide +kernel
theorem dX7_kind_33 : decode cX7_kind 33 = .ok (.ifCond .ne 5, 3) := by decide +kernel
theorem dX7_kind_36 : decode cX7_kind 36 = .ok (.iconst (-1), 1) := by decide +kernel
theorem dX7_kind_37 : decode cX7_kind 37 = .ok (.ireturn, 1) := by decide +kernel
theorem dX7_kind_38 : decode cX7_kind 38 = .ok (.aload_n 0, 1) := by decide +kernel
theorem dX7_kind_39 : decode cX7_kind 39 = .ok (.invokevirtual 185, 3) := by decide +kernel
theorem dX7_kind_42 : decode cX7_kind 42 = .ok (.aload_n 0, 1) := by decide +kernel
theorem dX7_kind_43 : decode cX7_kind 43 = .ok (.getfield 79, 3) := by decide +kernel
theorem dX7_kind_46 : decode cX7_kind 46 = .ok (.iload_n 1, 1) := by decide +kernel
theorem dX7_kind_47 : decode cX7_kind 47 = .ok (.iload_n 2, 1) := by decide +kernel
theorem dX7_kind_48 : decode cX7_kind 48 = .ok (.invokestatic 188, 3) := by decide +kernel
theorem dX7_kind_51 : decode cX7_kind 51 = .ok (.aload_n 0, 1) := by decide +kernel
theorem dX7_kind_52 : decode cX7_kind 52 = .ok (.getfield 79, 3) := by decide +kernel
theorem dX7_kind_55 : decode cX7_kind 55 = .ok (.iconst 0, 1) := by decide +kernel
theorem dX7_kind_56 : decode cX7_kind 56 = .ok (.iaload, 1) := by decide +kernel
theorem dX7_kind_57 : decode cX7_kind 57 = .ok (.ireturn, 1) := by decide +kernel
set_option maxRecDepth 20000 in
theorem ggX7_isEven_X7_has : GoodIn wsX7_isEven wsX7_has := goodIn_r _ [4] (by decide +kernel) (by decide +kernel)
set_option maxRecDepth 20000 in
theorem gX7_isEven_X7_has : GoodIn wsX7_isEven (va_wsS RX7 125 yX7_has wsX7_has) := goodIn_app (goodIn_of _ (by decide +kernel)) ggX7_isEven_X7_has
set_option maxRecDepth 20000 in
theorem ggX7_isEven_X7_isTold : GoodIn wsX7_isEven wsX7_isTold := goodIn_r _ [7, 8, 9, 3, 10, 1, 2, 4] (by decide +kernel) (by decide +kernel)
set_option maxRecDepth 20000 in
theorem gX7_isEven_X7_isTold : GoodIn wsX7_isEven (va_wsS RX7 129 yX7_isTold wsX7_isTold) := goodIn_app (goodIn_of _ (by decide +kernel)) ggX7_isEven_X7_isTold
set_option maxRecDepth 20000 in
theorem ggX7_isEven_X7_bits : GoodIn wsX7_isEven wsX7_bits := goodIn_r _ [13] (by decide +kernel) (by decide +kernel)
set_option maxRecDepth 20000 in
theorem gX7_isEven_X7_bits : GoodIn wsX7_isEven (va_wsS RX7 143 yX7_bits wsX7_bits) := goodIn_app (goodIn_of _ (by decide +kernel)) ggX7_isEven_X7_bits
theorem dX7_isEven_0 : decode cX7_isEven 0 = .ok (.iconst 0, 1) := by decide +kernel
theorem dX7_isEven_1 : decode cX7_isEven 1 = .ok (.istore_n 2, 1) := by decide +kernel
theorem dX7_isEven_2 : decode cX7_isEven 2 = .ok (.iconst 0, 1) := by decide +kernel
theorem dX7_isEven_3 : decode cX7_isEven 3 = .ok (.istore_n 3, 1) := by decide +kernel
theorem dX7_isEven_4 : decode cX7_isEven 4 = .ok (.iconst 1, 1) := by decide +kernel
theorem dX7_isEven_5 : decode cX7_isEven 5 = .ok (.istore 4, 2) := by decide +kernel
theorem dX7_isEven_7 : decode cX7_isEven 7 = .ok (.iload 4, 2) := by decide +kernel
theorem dX7_isEven_9 : decode cX7_isEven 9 = .ok (.aload_n 1, 1) := by decide +kernel
theorem dX7_isEven_10 : decode cX7_isEven 10 = .ok (.iconst 0, 1) := by decide +kernel
theorem dX7_isEven_11 : decode cX7_isEven 11 = .ok (.iaload, 1) := by decide +kernel
theorem dX7_isEven_12 : decode cX7_isEven 12 = .ok (.if_icmp .gt 33, 3) := by decide +kernel
theorem dX7_isEven_15 : decode cX7_isEven 15 = .ok (.aload_n 1, 1) := by decide +kernel
theorem dX7_isEven_16 : decode cX7_isEven 16 = .ok (.iconst 1, 1) := by decide +kernel
theorem dX7_isEven_17 : decode cX7_isEven 17 = .ok (.iaload, 1) := by decide +kernel
theorem dX7_isEven_18 : decode cX7_isEven 18 = .ok (.iload 4, 2) := by decide +kernel
theorem dX7_isEven_20 : decode cX7_isEven 20 = .ok (.iconst 1, 1) := by decide +kernel
theorem dX7_isEven_21 : decode cX7_isEven 21 = .ok (.isub, 1) := by decide +kernel
theorem dX7_isEven_22 : decode cX7_isEven 22 = .ok (.invokestatic 125, 3) := by decide +kernel
theorem dX7_isEven_25 : decode cX7_isEven 25 = .ok (.ifCond .eq 6, 3) := by decide +kernel
theorem dX7_isEven_28 : decode cX7_isEven 28 = .ok (.goto 11, 3) := by decide +kernel
theorem dX7_isEven_31 : decode cX7_isEven 31 = .ok (.iinc 3 1, 3) := by decide +kernel
theorem dX7_isEven_34 : decode cX7_isEven 34 = .ok (.iload_n 2, 1) := by decide +kernel
theorem dX7_isEven_35 : decode cX7_isEven 35 = .ok (.iload 4, 2) := by decide +kernel
theorem dX7_isEven_37 : decode cX7_isEven 37 = .ok (.iadd, 1) := by decide +kernel
theorem dX7_isEven_38 : decode cX7_isEven 38 = .ok (.istore_n 2, 1) := by decide +kernel
theorem dX7_isEven_39 : decode cX7_isEven 39 = .ok (.iinc 4 1, 3) := by decide +kernel
theorem dX7_isEven_42 : decode cX7_isEven 42 = .ok (.goto (-35), 3) := by decide +kernel
theorem dX7_isEven_45 : decode cX7_isEven 45 = .ok (.iconst 1, 1) := by decide +kernel
theorem dX7_isEven_46 : decode cX7_isEven 46 = .ok (.istore 4, 2) := by decide +kernel
theorem dX7_isEven_48 : decode cX7_isEven 48 = .ok (.iload 4, 2) := by decide +kernel
theorem dX7_isEven_50 : decode cX7_isEven 50 = .ok (.bipush 15, 2) := by decide +kernel
theorem dX7_isEven_52 : decode cX7_isEven 52 = .ok (.if_icmp .gt 23, 3) := by decide +kernel
theorem dX7_isEven_55 : decode cX7_isEven 55 = .ok (.aload_n 1, 1) := by decide +kernel
theorem dX7_isEven_56 : decode cX7_isEven 56 = .ok (.iload 4, 2) := by decide +kernel
theorem dX7_isEven_58 : decode cX7_isEven 58 = .ok (.invokestatic 129, 3) := by decide +kernel
theorem dX7_isEven_61 : decode cX7_isEven 61 = .ok (.ifCond .eq 8, 3) := by decide +kernel
theorem dX7_isEven_64 : decode cX7_isEven 64 = .ok (.iload_n 2, 1) := by decide +kernel
theorem dX7_isEven_65 : decode cX7_isEven 65 = .ok (.iload 4, 2) := by decide +kernel
theorem dX7_isEven_67 : decode cX7_isEven 67 = .ok (.isub, 1) := by decide +kernel
theorem dX7_isEven_68 : decode cX7_isEven 68 = .ok (.istore_n 2, 1) := by decide +kernel
theorem dX7_isEven_69 : decode cX7_isEven 69 = .ok (.iinc 4 1, 3) := by decide +kernel
theorem dX7_isEven_72 : decode cX7_isEven 72 = .ok (.goto (-24), 3) := by decide +kernel
theorem dX7_isEven_75 : decode cX7_isEven 75 = .ok (.iload_n 3, 1) := by decide +kernel
theorem dX7_isEven_76 : decode cX7_isEven 76 = .ok (.iconst 2, 1) := by decide +kernel
theorem dX7_isEven_77 : decode cX7_isEven 77 = .ok (.aload_n 1, 1) := by decide +kernel
theorem dX7_isEven_78 : decode cX7_isEven 78 = .ok (.iconst 2, 1) := by decide +kernel
theorem dX7_isEven_79 : decode cX7_isEven 79 = .ok (.iaload, 1) := by decide +kernel
theorem dX7_isEven_80 : decode cX7_isEven 80 = .ok (.invokestatic 143, 3) := by decide +kernel
theorem dX7_isEven_83 : decode cX7_isEven 83 = .ok (.imul, 1) := by decide +kernel
theorem dX7_isEven_84 : decode cX7_isEven 84 = .ok (.if_icmp .ne 13, 3) := by decide +kernel
theorem dX7_isEven_87 : decode cX7_isEven 87 = .ok (.iload_n 2, 1) := by decide +kernel
theorem dX7_isEven_88 : decode cX7_isEven 88 = .ok (.iconst 2, 1) := by decide +kernel
theorem dX7_isEven_89 : decode cX7_isEven 89 = .ok (.irem, 1) := by decide +kernel
theorem dX7_isEven_90 : decode cX7_isEven 90 = .ok (.ifCond .ne 7, 3) := by decide +kernel
theorem dX7_isEven_93 : decode cX7_isEven 93 = .ok (.iconst 1, 1) := by decide +kernel
theorem dX7_isEven_94 : decode cX7_isEven 94 = .ok (.goto 4, 3) := by decide +kernel
theorem dX7_isEven_97 : decode cX7_isEven 97 = .ok (.iconst 0, 1) := by decide +kernel
theorem dX7_isEven_98 : decode cX7_isEven 98 = .ok (.ireturn, 1) := by decide +kernel
set_option maxRecDepth 20000 in
theorem ggX7_fills_X7_has : GoodIn wsX7_fills wsX7_has := goodIn_r _ [5] (by decide +kernel) (by decide +kernel)
set_option maxRecDepth 20000 in
theorem gX7_fills_X7_has : GoodIn wsX7_fills (va_wsS RX7 125 yX7_has wsX7_has) := goodIn_app (goodIn_of _ (by decide +kernel)) ggX7_fills_X7_has
set_option maxRecDepth 20000 in
theorem ggX7_fills_X7_counts : GoodIn wsX7_fills wsX7_counts := goodIn_r _ [9, 10, 11, 12, 1, 13, 14, 15, 19, 20, 21, 22, 23, 24, 25, 26, 27, 28, 29, 30, 31, 32, 33, 34, 35, 36, 37, 38, 39, 40, 41, 42, 43, 44, 45, 46, 47, 48, 49] (by decide +kernel) (by decide +kernel)
set_option maxRecDepth 20000 in
theorem gX7_fills_X7_counts : GoodIn wsX7_fills (wsV RX7 192 RX7 yX7_counts wsX7_counts) := goodIn_app (goodIn_of _ (by decide +kernel)) ggX7_fills_X7_counts
set_option maxRecDepth 20000 in
theorem ggX7_fills_X7_fills : GoodIn wsX7_fills wsX7_fills := goodIn_r _ [0, 1, 2, 3, 4, 5, 6, 7, 8, 9, 10, 11, 12, 13, 14, 15, 16, 17, 18, 19, 20, 21, 22, 23, 24, 25, 26, 27, 28, 29, 30, 31, 32, 33, 34, 35, 36, 37, 38, 39, 40, 41, 42, 43, 44, 45, 46, 47, 48, 49] (by decide +kernel) (by decide +kernel)
set_option maxRecDepth 20000 in
theorem gX7_fills_X7_fills : GoodIn wsX7_fills (wsV RX7 196 RX7 yX7_fills wsX7_fills) := goodIn_app (goodIn_of _ (by decide +kernel)) ggX7_fills_X7_fills
theorem dX7_fills_0 : decode cX7_fills 0 = .ok (.iload_n 2, 1) := by decide +kernel
theorem dX7_fills_1 : decode cX7_fills 1 = .ok (.istore 4, 2) := by decide +kernel
theorem dX7_fills_3 : decode cX7_fills 3 = .ok (.iload 4, 2) := by decide +kernel
theorem dX7_fills_5 : decode cX7_fills 5 = .ok (.aload_n 1, 1) := by decide +kernel
theorem dX7_fills_6 : decode cX7_fills 6 = .ok (.iconst 0, 1) := by decide +kernel
theorem dX7_fills_7 : decode cX7_fills 7 = .ok (.iaload, 1) := by decide +kernel
theorem dX7_fills_8 : decode cX7_fills 8 = .ok (.if_icmp .gt 34, 3) := by decide +kernel
theorem dX7_fills_11 : decode cX7_fills 11 = .ok (.aload_n 1, 1) := by decide +kernel
theorem dX7_fills_12 : decode cX7_fills 12 = .ok (.iconst 1, 1) := by decide +kernel
theorem dX7_fills_13 : decode cX7_fills 13 = .ok (.iaload, 1) := by decide +kernel
theorem dX7_fills_14 : decode cX7_fills 14 = .ok (.iload 4, 2) := by decide +kernel
theorem dX7_fills_16 : decode cX7_fills 16 = .ok (.iconst 1, 1) := by decide +kernel
theorem dX7_fills_17 : decode cX7_fills 17 = .ok (.isub, 1) := by decide +kernel
theorem dX7_fills_18 : decode cX7_fills 18 = .ok (.invokestatic 125, 3) := by decide +kernel
theorem dX7_fills_21 : decode cX7_fills 21 = .ok (.ifCond .ne 15, 3) := by decide +kernel
theorem dX7_fills_24 : decode cX7_fills 24 = .ok (.aload_n 0, 1) := by decide +kernel
theorem dX7_fills_25 : decode cX7_fills 25 = .ok (.getfield 104, 3) := by decide +kernel
theorem dX7_fills_28 : decode cX7_fills 28 = .ok (.iload 4, 2) := by decide +kernel
theorem dX7_fills_30 : decode cX7_fills 30 = .ok (.iconst 1, 1) := by decide +kernel
theorem dX7_fills_31 : decode cX7_fills 31 = .ok (.isub, 1) := by decide +kernel
theorem dX7_fills_32 : decode cX7_fills 32 = .ok (.iaload, 1) := by decide +kernel
theorem dX7_fills_33 : decode cX7_fills 33 = .ok (.ifCond .le 9, 3) := by decide +kernel
theorem dX7_fills_36 : decode cX7_fills 36 = .ok (.iinc 4 1, 3) := by decide +kernel
theorem dX7_fills_39 : decode cX7_fills 39 = .ok (.goto (-36), 3) := by decide +kernel
theorem dX7_fills_42 : decode cX7_fills 42 = .ok (.iload 4, 2) := by decide +kernel
theorem dX7_fills_44 : decode cX7_fills 44 = .ok (.aload_n 1, 1) := by decide +kernel
theorem dX7_fills_45 : decode cX7_fills 45 = .ok (.iconst 0, 1) := by decide +kernel
theorem dX7_fills_46 : decode cX7_fills 46 = .ok (.iaload, 1) := by decide +kernel
theorem dX7_fills_47 : decode cX7_fills 47 = .ok (.if_icmp .le 13, 3) := by decide +kernel
theorem dX7_fills_50 : decode cX7_fills 50 = .ok (.iload_n 3, 1) := by decide +kernel
theorem dX7_fills_51 : decode cX7_fills 51 = .ok (.ifCond .ne 8, 3) := by decide +kernel
theorem dX7_fills_54 : decode cX7_fills 54 = .ok (.aload_n 0, 1) := by decide +kernel
theorem dX7_fills_55 : decode cX7_fills 55 = .ok (.aload_n 1, 1) := by decide +kernel
theorem dX7_fills_56 : decode cX7_fills 56 = .ok (.invokevirtual 192, 3) := by decide +kernel
theorem dX7_fills_59 : decode cX7_fills 59 = .ok (.return_, 1) := by decide +kernel
theorem dX7_fills_60 : decode cX7_fills 60 = .ok (.iconst 1, 1) := by decide +kernel
theorem dX7_fills_61 : decode cX7_fills 61 = .ok (.istore 5, 2) := by decide +kernel
theorem dX7_fills_63 : decode cX7_fills 63 = .ok (.iload 5, 2) := by decide +kernel
theorem dX7_fills_65 : decode cX7_fills 65 = .ok (.bipush 15, 2) := by decide +kernel
theorem dX7_fills_67 : decode cX7_fills 67 = .ok (.if_icmp .gt 152, 3) := by decide +kernel
theorem dX7_fills_70 : decode cX7_fills 70 = .ok (.iload 4, 2) := by decide +kernel
theorem dX7_fills_72 : decode cX7_fills 72 = .ok (.iload 5, 2) := by decide +kernel
theorem dX7_fills_74 : decode cX7_fills 74 = .ok (.iadd, 1) := by decide +kernel
theorem dX7_fills_75 : decode cX7_fills 75 = .ok (.aload_n 1, 1) := by decide +kernel
theorem dX7_fills_76 : decode cX7_fills 76 = .ok (.iconst 0, 1) := by decide +kernel
theorem dX7_fills_77 : decode cX7_fills 77 = .ok (.iaload, 1) := by decide +kernel
theorem dX7_fills_78 : decode cX7_fills 78 = .ok (.if_icmp .gt 141, 3) := by decide +kernel
theorem dX7_fills_81 : decode cX7_fills 81 = .ok (.iload_n 3, 1) := by decide +kernel
theorem dX7_fills_82 : decode cX7_fills 82 = .ok (.iload 5, 2) := by decide +kernel
theorem dX7_fills_84 : decode cX7_fills 84 = .ok (.iconst 1, 1) := by decide +kernel
theorem dX7_fills_85 : decode cX7_fills 85 = .ok (.isub, 1) := by decide +kernel
theorem dX7_fills_86 : decode cX7_fills 86 = .ok (.invokestatic 125, 3) := by decide +kernel
theorem dX7_fills_89 : decode cX7_fills 89 = .ok (.ifCond .eq 124, 3) := by decide +kernel
theorem dX7_fills_92 : decode cX7_fills 92 = .ok (.aload_n 1, 1) := by decide +kernel
theorem dX7_fills_93 : decode cX7_fills 93 = .ok (.iconst 3, 1) := by decide +kernel
theorem dX7_fills_94 : decode cX7_fills 94 = .ok (.iload 5, 2) := by decide +kernel
theorem dX7_fills_96 : decode cX7_fills 96 = .ok (.iadd, 1) := by decide +kernel
theorem dX7_fills_97 : decode cX7_fills 97 = .ok (.iaload, 1) := by decide +kernel
theorem dX7_fills_98 : decode cX7_fills 98 = .ok (.ifCond .le 14, 3) := by decide +kernel
theorem dX7_fills_101 : decode cX7_fills 101 = .ok (.aload_n 1, 1) := by decide +kernel
theorem dX7_fills_102 : decode cX7_fills 102 = .ok (.iconst 3, 1) := by decide +kernel
theorem dX7_fills_103 : decode cX7_fills 103 = .ok (.iload 5, 2) := by decide +kernel
theorem dX7_fills_105 : decode cX7_fills 105 = .ok (.iadd, 1) := by decide +kernel
theorem dX7_fills_106 : decode cX7_fills 106 = .ok (.iaload, 1) := by decide +kernel
theorem dX7_fills_107 : decode cX7_fills 107 = .ok (.iload 4, 2) := by decide +kernel
theorem dX7_fills_109 : decode cX7_fills 109 = .ok (.if_icmp .ne 104, 3) := by decide +kernel
theorem dX7_fills_112 : decode cX7_fills 112 = .ok (.aload_n 1, 1) := by decide +kernel
theorem dX7_fills_113 : decode cX7_fills 113 = .ok (.iconst 1, 1) := by decide +kernel
theorem dX7_fills_114 : decode cX7_fills 114 = .ok (.iaload, 1) := by decide +kernel
theorem dX7_fills_115 : decode cX7_fills 115 = .ok (.iload 4, 2) := by decide +kernel
theorem dX7_fills_117 : decode cX7_fills 117 = .ok (.iload 5, 2) := by decide +kernel
theorem dX7_fills_119 : decode cX7_fills 119 = .ok (.iadd, 1) := by decide +kernel
theorem dX7_fills_120 : decode cX7_fills 120 = .ok (.iconst 1, 1) := by decide +kernel
theorem dX7_fills_121 : decode cX7_fills 121 = .ok (.isub, 1) := by decide +kernel
theorem dX7_fills_122 : decode cX7_fills 122 = .ok (.invokestatic 125, 3) := by decide +kernel
theorem dX7_fills_125 : decode cX7_fills 125 = .ok (.ifCond .ne 88, 3) := by decide +kernel
theorem dX7_fills_128 : decode cX7_fills 128 = .ok (.aload_n 0, 1) := by decide +kernel
theorem dX7_fills_129 : decode cX7_fills 129 = .ok (.getfield 104, 3) := by decide +kernel
theorem dX7_fills_132 : decode cX7_fills 132 = .ok (.iload 4, 2) := by decide +kernel
theorem dX7_fills_134 : decode cX7_fills 134 = .ok (.iload 5, 2) := by decide +kernel
theorem dX7_fills_136 : decode cX7_fills 136 = .ok (.iadd, 1) := by decide +kernel
theorem dX7_fills_137 : decode cX7_fills 137 = .ok (.iconst 1, 1) := by decide +kernel
theorem dX7_fills_138 : decode cX7_fills 138 = .ok (.isub, 1) := by decide +kernel
theorem dX7_fills_139 : decode cX7_fills 139 = .ok (.iaload, 1) := by decide +kernel
theorem dX7_fills_140 : decode cX7_fills 140 = .ok (.ifCond .le 6, 3) := by decide +kernel
theorem dX7_fills_143 : decode cX7_fills 143 = .ok (.goto 70, 3) := by decide +kernel
theorem dX7_fills_146 : decode cX7_fills 146 = .ok (.aload_n 0, 1) := by decide +kernel
theorem dX7_fills_147 : decode cX7_fills 147 = .ok (.getfield 104, 3) := by decide +kernel
theorem dX7_fills_150 : decode cX7_fills 150 = .ok (.iload 4, 2) := by decide +kernel
theorem dX7_fills_152 : decode cX7_fills 152 = .ok (.iconst 1, 1) := by decide +kernel
theorem dX7_fills_153 : decode cX7_fills 153 = .ok (.isub, 1) := by decide +kernel
theorem dX7_fills_154 : decode cX7_fills 154 = .ok (.iload 5, 2) := by decide +kernel
theorem dX7_fills_156 : decode cX7_fills 156 = .ok (.iastore, 1) := by decide +kernel
theorem dX7_fills_157 : decode cX7_fills 157 = .ok (.aload_n 0, 1) := by decide +kernel
theorem dX7_fills_158 : decode cX7_fills 158 = .ok (.getfield 104, 3) := by decide +kernel
theorem dX7_fills_161 : decode cX7_fills 161 = .ok (.iload 4, 2) := by decide +kernel
theorem dX7_fills_163 : decode cX7_fills 163 = .ok (.iload 5, 2) := by decide +kernel
theorem dX7_fills_165 : decode cX7_fills 165 = .ok (.iadd, 1) := by decide +kernel
theorem dX7_fills_166 : decode cX7_fills 166 = .ok (.iconst 1, 1) := by decide +kernel
theorem dX7_fills_167 : decode cX7_fills 167 = .ok (.isub, 1) := by decide +kernel
theorem dX7_fills_168 : decode cX7_fills 168 = .ok (.iload 5, 2) := by decide +kernel
theorem dX7_fills_170 : decode cX7_fills 170 = .ok (.iastore, 1) := by decide +kernel
theorem dX7_fills_171 : decode cX7_fills 171 = .ok (.aload_n 0, 1) := by decide +kernel
theorem dX7_fills_172 : decode cX7_fills 172 = .ok (.aload_n 1, 1) := by decide +kernel
theorem dX7_fills_173 : decode cX7_fills 173 = .ok (.iload 4, 2) := by decide +kernel
theorem dX7_fills_175 : decode cX7_fills 175 = .ok (.iconst 1, 1) := by decide +kernel
theorem dX7_fills_176 : decode cX7_fills 176 = .ok (.iadd, 1) := by decide +kernel
theorem dX7_fills_177 : decode cX7_fills 177 = .ok (.iload_n 3, 1) := by decide +kernel
theorem dX7_fills_178 : decode cX7_fills 178 = .ok (.iconst 1, 1) := by decide +kernel
theorem dX7_fills_179 : decode cX7_fills 179 = .ok (.iload 5, 2) := by decide +kernel
theorem dX7_fills_181 : decode cX7_fills 181 = .ok (.iconst 1, 1) := by decide +kernel
theorem dX7_fills_182 : decode cX7_fills 182 = .ok (.isub, 1) := by decide +kernel
theorem dX7_fills_183 : decode cX7_fills 183 = .ok (.ishl, 1) := by decide +kernel
theorem dX7_fills_184 : decode cX7_fills 184 = .ok (.iconst (-1), 1) := by decide +kernel
theorem dX7_fills_185 : decode cX7_fills 185 = .ok (.ixor, 1) := by decide +kernel
theorem dX7_fills_186 : decode cX7_fills 186 = .ok (.iand, 1) := by decide +kernel
theorem dX7_fills_187 : decode cX7_fills 187 = .ok (.invokevirtual 196, 3) := by decide +kernel
theorem dX7_fills_190 : decode cX7_fills 190 = .ok (.aload_n 0, 1) := by decide +kernel
theorem dX7_fills_191 : decode cX7_fills 191 = .ok (.getfield 104, 3) := by decide +kernel
theorem dX7_fills_194 : decode cX7_fills 194 = .ok (.iload 4, 2) := by decide +kernel
theorem dX7_fills_196 : decode cX7_fills 196 = .ok (.iconst 1, 1) := by decide +kernel
theorem dX7_fills_197 : decode cX7_fills 197 = .ok (.isub, 1) := by decide +kernel
theorem dX7_fills_198 : decode cX7_fills 198 = .ok (.iconst 0, 1) := by decide +kernel
theorem dX7_fills_199 : decode cX7_fills 199 = .ok (.iastore, 1) := by decide +kernel
theorem dX7_fills_200 : decode cX7_fills 200 = .ok (.aload_n 0, 1) := by decide +kernel
theorem dX7_fills_201 : decode cX7_fills 201 = .ok (.getfield 104, 3) := by decide +kernel
theorem dX7_fills_204 : decode cX7_fills 204 = .ok (.iload 4, 2) := by decide +kernel
theorem dX7_fills_206 : decode cX7_fills 206 = .ok (.iload 5, 2) := by decide +kernel
theorem dX7_fills_208 : decode cX7_fills 208 = .ok (.iadd, 1) := by decide +kernel
theorem dX7_fills_209 : decode cX7_fills 209 = .ok (.iconst 1, 1) := by decide +kernel
theorem dX7_fills_210 : decode cX7_fills 210 = .ok (.isub, 1) := by decide +kernel
theorem dX7_fills_211 : decode cX7_fills 211 = .ok (.iconst 0, 1) := by decide +kernel
theorem dX7_fills_212 : decode cX7_fills 212 = .ok (.iastore, 1) := by decide +kernel
theorem dX7_fills_213 : decode cX7_fills 213 = .ok (.iinc 5 1, 3) := by decide +kernel
theorem dX7_fills_216 : decode cX7_fills 216 = .ok (.goto (-153), 3) := by decide +kernel
theorem dX7_fills_219 : decode cX7_fills 219 = .ok (.return_, 1) := by decide +kernel
theorem dX7_counts_0 : decode cX7_counts 0 = .ok (.iconst 1, 1) := by decide +kernel
theorem dX7_counts_1 : decode cX7_counts 1 = .ok (.istore_n 2, 1) := by decide +kernel
theorem dX7_counts_2 : decode cX7_counts 2 = .ok (.iconst 0, 1) := by decide +kernel
theorem dX7_counts_3 : decode cX7_counts 3 = .ok (.istore_n 3, 1) := by decide +kernel
theorem dX7_counts_4 : decode cX7_counts 4 = .ok (.iload_n 3, 1) := by decide +kernel
theorem dX7_counts_5 : decode cX7_counts 5 = .ok (.aload_n 1, 1) := by decide +kernel
theorem dX7_counts_6 : decode cX7_counts 6 = .ok (.iconst 0, 1) := by decide +kernel
theorem dX7_counts_7 : decode cX7_counts 7 = .ok (.iaload, 1) := by decide +kernel
theorem dX7_counts_8 : decode cX7_counts 8 = .ok (.if_icmp .ge 110, 3) := by decide +kernel
theorem dX7_counts_11 : decode cX7_counts 11 = .ok (.aload_n 0, 1) := by decide +kernel
theorem dX7_counts_12 : decode cX7_counts 12 = .ok (.getfield 199, 3) := by decide +kernel
theorem dX7_counts_15 : decode cX7_counts 15 = .ok (.aload_n 0, 1) := by decide +kernel
theorem dX7_counts_16 : decode cX7_counts 16 = .ok (.getfield 202, 3) := by decide +kernel
theorem dX7_counts_19 : decode cX7_counts 19 = .ok (.if_icmp .ne 15, 3) := by decide +kernel
theorem dX7_counts_22 : decode cX7_counts 22 = .ok (.aload_n 0, 1) := by decide +kernel
theorem dX7_counts_23 : decode cX7_counts 23 = .ok (.getfield 107, 3) := by decide +kernel
theorem dX7_counts_26 : decode cX7_counts 26 = .ok (.iload_n 3, 1) := by decide +kernel
theorem dX7_counts_27 : decode cX7_counts 27 = .ok (.aload_n 0, 1) := by decide +kernel
theorem dX7_counts_28 : decode cX7_counts 28 = .ok (.getfield 104, 3) := by decide +kernel
theorem dX7_counts_31 : decode cX7_counts 31 = .ok (.iload_n 3, 1) := by decide +kernel
theorem dX7_counts_32 : decode cX7_counts 32 = .ok (.iaload, 1) := by decide +kernel
theorem dX7_counts_33 : decode cX7_counts 33 = .ok (.iastore, 1) := by decide +kernel
theorem dX7_counts_34 : decode cX7_counts 34 = .ok (.iload_n 2, 1) := by decide +kernel
theorem dX7_counts_35 : decode cX7_counts 35 = .ok (.ifCond .eq 22, 3) := by decide +kernel
theorem dX7_counts_38 : decode cX7_counts 38 = .ok (.aload_n 0, 1) := by decide +kernel
theorem dX7_counts_39 : decode cX7_counts 39 = .ok (.getfield 104, 3) := by decide +kernel
theorem dX7_counts_42 : decode cX7_counts 42 = .ok (.iload_n 3, 1) := by decide +kernel
theorem dX7_counts_43 : decode cX7_counts 43 = .ok (.iaload, 1) := by decide +kernel
theorem dX7_counts_44 : decode cX7_counts 44 = .ok (.aload_n 0, 1) := by decide +kernel
theorem dX7_counts_45 : decode cX7_counts 45 = .ok (.getfield 110, 3) := by decide +kernel
theorem dX7_counts_48 : decode cX7_counts 48 = .ok (.iload_n 3, 1) := by decide +kernel
theorem dX7_counts_49 : decode cX7_counts 49 = .ok (.iaload, 1) := by decide +kernel
theorem dX7_counts_50 : decode cX7_counts 50 = .ok (.if_icmp .ne 7, 3) := by decide +kernel
theorem dX7_counts_53 : decode cX7_counts 53 = .ok (.iconst 1, 1) := by decide +kernel
theorem dX7_counts_54 : decode cX7_counts 54 = .ok (.goto 4, 3) := by decide +kernel
theorem dX7_counts_57 : decode cX7_counts 57 = .ok (.iconst 0, 1) := by decide +kernel
theorem dX7_counts_58 : decode cX7_counts 58 = .ok (.istore_n 2, 1) := by decide +kernel
theorem dX7_counts_59 : decode cX7_counts 59 = .ok (.aload_n 0, 1) := by decide +kernel
theorem dX7_counts_60 : decode cX7_counts 60 = .ok (.getfield 104, 3) := by decide +kernel
theorem dX7_counts_63 : decode cX7_counts 63 = .ok (.iload_n 3, 1) := by decide +kernel
theorem dX7_counts_64 : decode cX7_counts 64 = .ok (.iaload, 1) := by decide +kernel
theorem dX7_counts_65 : decode cX7_counts 65 = .ok (.istore 4, 2) := by decide +kernel
theorem dX7_counts_67 : decode cX7_counts 67 = .ok (.iload 4, 2) := by decide +kernel
theorem dX7_counts_69 : decode cX7_counts 69 = .ok (.ifCond .le 43, 3) := by decide +kernel
theorem dX7_counts_72 : decode cX7_counts 72 = .ok (.iload_n 3, 1) := by decide +kernel
theorem dX7_counts_73 : decode cX7_counts 73 = .ok (.iload 4, 2) := by decide +kernel
theorem dX7_counts_75 : decode cX7_counts 75 = .ok (.iadd, 1) := by decide +kernel
theorem dX7_counts_76 : decode cX7_counts 76 = .ok (.aload_n 1, 1) := by decide +kernel
theorem dX7_counts_77 : decode cX7_counts 77 = .ok (.iconst 0, 1) := by decide +kernel
theorem dX7_counts_78 : decode cX7_counts 78 = .ok (.iaload, 1) := by decide +kernel
theorem dX7_counts_79 : decode cX7_counts 79 = .ok (.if_icmp .ge 33, 3) := by decide +kernel
theorem dX7_counts_82 : decode cX7_counts 82 = .ok (.aload_n 0, 1) := by decide +kernel
theorem dX7_counts_83 : decode cX7_counts 83 = .ok (.getfield 104, 3) := by decide +kernel
theorem dX7_counts_86 : decode cX7_counts 86 = .ok (.iload_n 3, 1) := by decide +kernel
theorem dX7_counts_87 : decode cX7_counts 87 = .ok (.iload 4, 2) := by decide +kernel
theorem dX7_counts_89 : decode cX7_counts 89 = .ok (.iadd, 1) := by decide +kernel
theorem dX7_counts_90 : decode cX7_counts 90 = .ok (.iaload, 1) := by decide +kernel
theorem dX7_counts_91 : decode cX7_counts 91 = .ok (.iload 4, 2) := by decide +kernel
theorem dX7_counts_93 : decode cX7_counts 93 = .ok (.if_icmp .ne 19, 3) := by decide +kernel
theorem dX7_counts_96 : decode cX7_counts 96 = .ok (.aload_n 0, 1) := by decide +kernel
theorem dX7_counts_97 : decode cX7_counts 97 = .ok (.getfield 113, 3) := by decide +kernel
theorem dX7_counts_100 : decode cX7_counts 100 = .ok (.bipush 20, 2) := by decide +kernel
theorem dX7_counts_102 : decode cX7_counts 102 = .ok (.iload 4, 2) := by decide +kernel
theorem dX7_counts_104 : decode cX7_counts 104 = .ok (.imul, 1) := by decide +kernel
theorem dX7_counts_105 : decode cX7_counts 105 = .ok (.iload_n 3, 1) := by decide +kernel
theorem dX7_counts_106 : decode cX7_counts 106 = .ok (.iadd, 1) := by decide +kernel
theorem dX7_counts_107 : decode cX7_counts 107 = .ok (.dup2, 1) := by decide +kernel
theorem dX7_counts_108 : decode cX7_counts 108 = .ok (.iaload, 1) := by decide +kernel
theorem dX7_counts_109 : decode cX7_counts 109 = .ok (.iconst 1, 1) := by decide +kernel
theorem dX7_counts_110 : decode cX7_counts 110 = .ok (.iadd, 1) := by decide +kernel
theorem dX7_counts_111 : decode cX7_counts 111 = .ok (.iastore, 1) := by decide +kernel
theorem dX7_counts_112 : decode cX7_counts 112 = .ok (.iinc 3 1, 3) := by decide +kernel
theorem dX7_counts_115 : decode cX7_counts 115 = .ok (.goto (-111), 3) := by decide +kernel
theorem dX7_counts_118 : decode cX7_counts 118 = .ok (.iload_n 2, 1) := by decide +kernel
theorem dX7_counts_119 : decode cX7_counts 119 = .ok (.ifCond .eq 11, 3) := by decide +kernel
theorem dX7_counts_122 : decode cX7_counts 122 = .ok (.aload_n 0, 1) := by decide +kernel
theorem dX7_counts_123 : decode cX7_counts 123 = .ok (.aload_n 0, 1) := by decide +kernel
theorem dX7_counts_124 : decode cX7_counts 124 = .ok (.getfield 199, 3) := by decide +kernel
theorem dX7_counts_127 : decode cX7_counts 127 = .ok (.putfield 205, 3) := by decide +kernel
theorem dX7_counts_130 : decode cX7_counts 130 = .ok (.aload_n 0, 1) := by decide +kernel
theorem dX7_counts_131 : decode cX7_counts 131 = .ok (.dup, 1) := by decide +kernel
theorem dX7_counts_132 : decode cX7_counts 132 = .ok (.getfield 199, 3) := by decide +kernel
theorem dX7_counts_135 : decode cX7_counts 135 = .ok (.iconst 1, 1) := by decide +kernel
theorem dX7_counts_136 : decode cX7_counts 136 = .ok (.iadd, 1) := by decide +kernel
theorem dX7_counts_137 : decode cX7_counts 137 = .ok (.putfield 199, 3) := by decide +kernel
theorem dX7_counts_140 : decode cX7_counts 140 = .ok (.return_, 1) := by decide +kernel
set_option maxRecDepth 20000 in
theorem ggX7_all_X7_isEven : GoodIn wsX7_all wsX7_isEven := goodIn_r _ [10, 11, 12, 9, 13, 14, 15, 16, 17, 18, 19, 20, 21, 22] (by decide +kernel) (by decide +kernel)
set_option maxRecDepth 20000 in
theorem gX7_all_X7_isEven : GoodIn wsX7_all (wsV RX7 208 RX7 yX7_isEven wsX7_isEven) := goodIn_app (goodIn_of _ (by decide +kernel)) ggX7_all_X7_isEven
set_option maxRecDepth 20000 in
theorem ggX7_all_X7_fills : GoodIn wsX7_all wsX7_fills := goodIn_r _ [26, 4, 11, 12, 9, 13, 27, 28, 29, 30, 1, 2, 31, 32, 5, 3, 23, 24, 25, 33, 34, 35, 36, 37, 38, 39, 40, 41, 42, 43, 44, 45, 46, 47, 48, 49, 50, 51, 52, 53, 54, 55, 56, 57, 58, 59, 60, 61, 62, 63] (by decide +kernel) (by decide +kernel)
set_option maxRecDepth 20000 in
theorem gX7_all_X7_fills : GoodIn wsX7_all (wsV RX7 196 RX7 yX7_fills wsX7_fills) := goodIn_app (goodIn_of _ (by decide +kernel)) ggX7_all_X7_fills
theorem dX7_all_0 : decode cX7_all 0 = .ok (.aload_n 0, 1) := by decide +kernel
theorem dX7_all_1 : decode cX7_all 1 = .ok (.iconst 0, 1) := by decide +kernel
theorem dX7_all_2 : decode cX7_all 2 = .ok (.putfield 199, 3) := by decide +kernel
theorem dX7_all_5 : decode cX7_all 5 = .ok (.aload_n 0, 1) := by decide +kernel
theorem dX7_all_6 : decode cX7_all 6 = .ok (.iload_n 2, 1) := by decide +kernel
theorem dX7_all_7 : decode cX7_all 7 = .ok (.putfield 202, 3) := by decide +kernel
theorem dX7_all_10 : decode cX7_all 10 = .ok (.aload_n 0, 1) := by decide +kernel
theorem dX7_all_11 : decode cX7_all 11 = .ok (.iconst (-1), 1) := by decide +kernel
theorem dX7_all_12 : decode cX7_all 12 = .ok (.putfield 205, 3) := by decide +kernel
theorem dX7_all_15 : decode cX7_all 15 = .ok (.iconst 0, 1) := by decide +kernel
theorem dX7_all_16 : decode cX7_all 16 = .ok (.istore_n 3, 1) := by decide +kernel
theorem dX7_all_17 : decode cX7_all 17 = .ok (.iload_n 3, 1) := by decide +kernel
theorem dX7_all_18 : decode cX7_all 18 = .ok (.bipush 18, 2) := by decide +kernel
theorem dX7_all_20 : decode cX7_all 20 = .ok (.if_icmp .ge 16, 3) := by decide +kernel
theorem dX7_all_23 : decode cX7_all 23 = .ok (.aload_n 0, 1) := by decide +kernel
theorem dX7_all_24 : decode cX7_all 24 = .ok (.getfield 104, 3) := by decide +kernel
theorem dX7_all_27 : decode cX7_all 27 = .ok (.iload_n 3, 1) := by decide +kernel
theorem dX7_all_28 : decode cX7_all 28 = .ok (.iconst 0, 1) := by decide +kernel
theorem dX7_all_29 : decode cX7_all 29 = .ok (.iastore, 1) := by decide +kernel
theorem dX7_all_30 : decode cX7_all 30 = .ok (.iinc 3 1, 3) := by decide +kernel
theorem dX7_all_33 : decode cX7_all 33 = .ok (.goto (-16), 3) := by decide +kernel
theorem dX7_all_36 : decode cX7_all 36 = .ok (.iconst 0, 1) := by decide +kernel
theorem dX7_all_37 : decode cX7_all 37 = .ok (.istore_n 3, 1) := by decide +kernel
theorem dX7_all_38 : decode cX7_all 38 = .ok (.iload_n 3, 1) := by decide +kernel
theorem dX7_all_39 : decode cX7_all 39 = .ok (.sipush 320, 3) := by decide +kernel
theorem dX7_all_42 : decode cX7_all 42 = .ok (.if_icmp .ge 16, 3) := by decide +kernel
theorem dX7_all_45 : decode cX7_all 45 = .ok (.aload_n 0, 1) := by decide +kernel
theorem dX7_all_46 : decode cX7_all 46 = .ok (.getfield 113, 3) := by decide +kernel
theorem dX7_all_49 : decode cX7_all 49 = .ok (.iload_n 3, 1) := by decide +kernel
theorem dX7_all_50 : decode cX7_all 50 = .ok (.iconst 0, 1) := by decide +kernel
theorem dX7_all_51 : decode cX7_all 51 = .ok (.iastore, 1) := by decide +kernel
theorem dX7_all_52 : decode cX7_all 52 = .ok (.iinc 3 1, 3) := by decide +kernel
theorem dX7_all_55 : decode cX7_all 55 = .ok (.goto (-17), 3) := by decide +kernel
theorem dX7_all_58 : decode cX7_all 58 = .ok (.aload_n 0, 1) := by decide +kernel
theorem dX7_all_59 : decode cX7_all 59 = .ok (.aload_n 1, 1) := by decide +kernel
theorem dX7_all_60 : decode cX7_all 60 = .ok (.invokevirtual 208, 3) := by decide +kernel
theorem dX7_all_63 : decode cX7_all 63 = .ok (.ifCond .eq 12, 3) := by decide +kernel
theorem dX7_all_66 : decode cX7_all 66 = .ok (.aload_n 0, 1) := by decide +kernel
theorem dX7_all_67 : decode cX7_all 67 = .ok (.aload_n 1, 1) := by decide +kernel
theorem dX7_all_68 : decode cX7_all 68 = .ok (.iconst 1, 1) := by decide +kernel
theorem dX7_all_69 : decode cX7_all 69 = .ok (.aload_n 1, 1) := by decide +kernel
theorem dX7_all_70 : decode cX7_all 70 = .ok (.iconst 2, 1) := by decide +kernel
theorem dX7_all_71 : decode cX7_all 71 = .ok (.iaload, 1) := by decide +kernel
theorem dX7_all_72 : decode cX7_all 72 = .ok (.invokevirtual 196, 3) := by decide +kernel
theorem dX7_all_75 : decode cX7_all 75 = .ok (.aload_n 0, 1) := by decide +kernel
theorem dX7_all_76 : decode cX7_all 76 = .ok (.getfield 199, 3) := by decide +kernel
theorem dX7_all_79 : decode cX7_all 79 = .ok (.ireturn, 1) := by decide +kernel
set_option maxRecDepth 20000 in
theorem ggX7_ways_X7_all : GoodIn wsX7_ways wsX7_all := goodIn_r _ [7, 8, 9, 10, 11, 12, 13, 14, 15, 6, 16, 17, 18, 19, 20, 21, 22, 23, 24, 25, 26, 27, 28, 29, 30, 31, 32, 33, 34, 35, 36, 37, 38, 39, 40, 41, 42, 43, 44, 45, 46, 47, 48, 49, 50, 51, 52, 53, 54, 55, 56, 57, 58, 59, 60, 61, 62, 63, 64, 65, 66, 67, 68, 69] (by decide +kernel) (by decide +kernel)
set_option maxRecDepth 20000 in
theorem gX7_ways_X7_all : GoodIn wsX7_ways (wsV RX7 212 RX7 yX7_all wsX7_all) := goodIn_app (goodIn_of _ (by decide +kernel)) ggX7_ways_X7_all
theorem dX7_ways_0 : decode cX7_ways 0 = .ok (.aload_n 0, 1) := by decide +kernel
theorem dX7_ways_1 : decode cX7_ways 1 = .ok (.iconst 0, 1) := by decide +kernel
theorem dX7_ways_2 : decode cX7_ways 2 = .ok (.putfield 1, 3) := by decide +kernel
theorem dX7_ways_5 : decode cX7_ways 5 = .ok (.aload_n 0, 1) := by decide +kernel
theorem dX7_ways_6 : decode cX7_ways 6 = .ok (.aload_n 0, 1) := by decide +kernel
theorem dX7_ways_7 : decode cX7_ways 7 = .ok (.getfield 79, 3) := by decide +kernel
theorem dX7_ways_10 : decode cX7_ways 10 = .ok (.iconst (-1), 1) := by decide +kernel
theorem dX7_ways_11 : decode cX7_ways 11 = .ok (.invokevirtual 212, 3) := by decide +kernel
theorem dX7_ways_14 : decode cX7_ways 14 = .ok (.ireturn, 1) := by decide +kernel
theorem dX7_looks_0 : decode cX7_looks 0 = .ok (.aload_n 0, 1) := by decide +kernel
theorem dX7_looks_1 : decode cX7_looks 1 = .ok (.iload_n 2, 1) := by decide +kernel
theorem dX7_looks_2 : decode cX7_looks 2 = .ok (.putfield 119, 3) := by decide +kernel
theorem dX7_looks_5 : decode cX7_looks 5 = .ok (.iconst 0, 1) := by decide +kernel
theorem dX7_looks_6 : decode cX7_looks 6 = .ok (.istore_n 3, 1) := by decide +kernel
theorem dX7_looks_7 : decode cX7_looks 7 = .ok (.iload_n 3, 1) := by decide +kernel
theorem dX7_looks_8 : decode cX7_looks 8 = .ok (.iload_n 2, 1) := by decide +kernel
theorem dX7_looks_9 : decode cX7_looks 9 = .ok (.if_icmp .ge 18, 3) := by decide +kernel
theorem dX7_looks_12 : decode cX7_looks 12 = .ok (.aload_n 0, 1) := by decide +kernel
theorem dX7_looks_13 : decode cX7_looks 13 = .ok (.getfield 116, 3) := by decide +kernel
theorem dX7_looks_16 : decode cX7_looks 16 = .ok (.iload_n 3, 1) := by decide +kernel
theorem dX7_looks_17 : decode cX7_looks 17 = .ok (.aload_n 1, 1) := by decide +kernel
theorem dX7_looks_18 : decode cX7_looks 18 = .ok (.iload_n 3, 1) := by decide +kernel
theorem dX7_looks_19 : decode cX7_looks 19 = .ok (.iaload, 1) := by decide +kernel
theorem dX7_looks_20 : decode cX7_looks 20 = .ok (.iastore, 1) := by decide +kernel
theorem dX7_looks_21 : decode cX7_looks 21 = .ok (.iinc 3 1, 3) := by decide +kernel
theorem dX7_looks_24 : decode cX7_looks 24 = .ok (.goto (-17), 3) := by decide +kernel
theorem dX7_looks_27 : decode cX7_looks 27 = .ok (.return_, 1) := by decide +kernel
set_option maxRecDepth 20000 in
theorem ggX7_row_X7_all : GoodIn wsX7_row wsX7_all := goodIn_r _ [10, 11, 12, 13, 14, 15, 16, 17, 18, 9, 19, 20, 21, 22, 23, 24, 25, 26, 27, 28, 29, 30, 31, 32, 33, 34, 35, 36, 37, 38, 39, 3, 40, 49, 50, 51, 52, 53, 54, 55, 56, 57, 58, 59, 60, 61, 62, 63, 64, 65, 66, 67, 68, 69, 70, 71, 72, 73, 74, 75, 76, 77, 78, 79] (by decide +kernel) (by decide +kernel)
set_option maxRecDepth 20000 in
theorem gX7_row_X7_all : GoodIn wsX7_row (wsV RX7 212 RX7 yX7_all wsX7_all) := goodIn_app (goodIn_of _ (by decide +kernel)) ggX7_row_X7_all
set_option maxRecDepth 20000 in
theorem ggX7_row_X7_refuse : GoodIn wsX7_row wsX7_refuse := goodIn_r _ [44, 1, 49, 50, 51, 52, 53, 54, 55, 56, 57, 58, 59, 60, 61, 62, 63, 64, 65, 66, 67, 68, 69, 70, 71, 72, 73, 74, 75, 76, 77, 78, 79] (by decide +kernel) (by decide +kernel)
set_option maxRecDepth 20000 in
theorem gX7_row_X7_refuse : GoodIn wsX7_row (wsV RX7 215 RX7 yX7_refuse wsX7_refuse) := goodIn_app (goodIn_of _ (by decide +kernel)) ggX7_row_X7_refuse
set_option maxRecDepth 20000 in
theorem ggX7_row_X7_looks : GoodIn wsX7_row wsX7_looks := goodIn_r _ [48, 4, 5, 49, 50, 51, 52, 53, 54, 55, 56, 57, 58, 59, 60, 61, 62, 63, 64, 65, 66, 67, 68, 69, 70, 71, 72, 73, 74, 75, 76, 77, 78, 79] (by decide +kernel) (by decide +kernel)
set_option maxRecDepth 20000 in
theorem gX7_row_X7_looks : GoodIn wsX7_row (wsV RX7 219 RX7 yX7_looks wsX7_looks) := goodIn_app (goodIn_of _ (by decide +kernel)) ggX7_row_X7_looks
theorem dX7_row_0 : decode cX7_row 0 = .ok (.aload_n 0, 1) := by decide +kernel
theorem dX7_row_1 : decode cX7_row 1 = .ok (.iconst 0, 1) := by decide +kernel
theorem dX7_row_2 : decode cX7_row 2 = .ok (.putfield 1, 3) := by decide +kernel
theorem dX7_row_5 : decode cX7_row 5 = .ok (.iload_n 1, 1) := by decide +kernel
theorem dX7_row_6 : decode cX7_row 6 = .ok (.ifCond .lt 16, 3) := by decide +kernel
theorem dX7_row_9 : decode cX7_row 9 = .ok (.iload_n 1, 1) := by decide +kernel
theorem dX7_row_10 : decode cX7_row 10 = .ok (.aload_n 0, 1) := by decide +kernel
theorem dX7_row_11 : decode cX7_row 11 = .ok (.aload_n 0, 1) := by decide +kernel
theorem dX7_row_12 : decode cX7_row 12 = .ok (.getfield 79, 3) := by decide +kernel
theorem dX7_row_15 : decode cX7_row 15 = .ok (.iload_n 1, 1) := by decide +kernel
theorem dX7_row_16 : decode cX7_row 16 = .ok (.invokevirtual 212, 3) := by decide +kernel
theorem dX7_row_19 : decode cX7_row 19 = .ok (.if_icmp .lt 8, 3) := by decide +kernel
theorem dX7_row_22 : decode cX7_row 22 = .ok (.aload_n 0, 1) := by decide +kernel
theorem dX7_row_23 : decode cX7_row 23 = .ok (.invokevirtual 215, 3) := by decide +kernel
theorem dX7_row_26 : decode cX7_row 26 = .ok (.ireturn, 1) := by decide +kernel
theorem dX7_row_27 : decode cX7_row 27 = .ok (.aload_n 0, 1) := by decide +kernel
theorem dX7_row_28 : decode cX7_row 28 = .ok (.aload_n 0, 1) := by decide +kernel
theorem dX7_row_29 : decode cX7_row 29 = .ok (.getfield 107, 3) := by decide +kernel
theorem dX7_row_32 : decode cX7_row 32 = .ok (.aload_n 0, 1) := by decide +kernel
theorem dX7_row_33 : decode cX7_row 33 = .ok (.getfield 79, 3) := by decide +kernel
theorem dX7_row_36 : decode cX7_row 36 = .ok (.iconst 0, 1) := by decide +kernel
theorem dX7_row_37 : decode cX7_row 37 = .ok (.iaload, 1) := by decide +kernel
theorem dX7_row_38 : decode cX7_row 38 = .ok (.invokevirtual 219, 3) := by decide +kernel
theorem dX7_row_41 : decode cX7_row 41 = .ok (.aload_n 0, 1) := by decide +kernel
theorem dX7_row_42 : decode cX7_row 42 = .ok (.getfield 119, 3) := by decide +kernel
theorem dX7_row_45 : decode cX7_row 45 = .ok (.ifCond .ne 7, 3) := by decide +kernel
theorem dX7_row_48 : decode cX7_row 48 = .ok (.iconst (-1), 1) := by decide +kernel
theorem dX7_row_49 : decode cX7_row 49 = .ok (.goto 9, 3) := by decide +kernel
theorem dX7_row_52 : decode cX7_row 52 = .ok (.aload_n 0, 1) := by decide +kernel
theorem dX7_row_53 : decode cX7_row 53 = .ok (.getfield 116, 3) := by decide +kernel
theorem dX7_row_56 : decode cX7_row 56 = .ok (.iconst 0, 1) := by decide +kernel
theorem dX7_row_57 : decode cX7_row 57 = .ok (.iaload, 1) := by decide +kernel
theorem dX7_row_58 : decode cX7_row 58 = .ok (.ireturn, 1) := by decide +kernel
set_option maxRecDepth 20000 in
theorem ggX7_at_X7_isIn : GoodIn wsX7_at wsX7_isIn := goodIn_r _ [7] (by decide +kernel) (by decide +kernel)
set_option maxRecDepth 20000 in
theorem gX7_at_X7_isIn : GoodIn wsX7_at (va_wsS RX7 69 yX7_isIn wsX7_isIn) := goodIn_app (goodIn_of _ (by decide +kernel)) ggX7_at_X7_isIn
theorem dX7_at_0 : decode cX7_at 0 = .ok (.aload_n 0, 1) := by decide +kernel
theorem dX7_at_1 : decode cX7_at 1 = .ok (.iconst 0, 1) := by decide +kernel
theorem dX7_at_2 : decode cX7_at 2 = .ok (.putfield 1, 3) := by decide +kernel
theorem dX7_at_5 : decode cX7_at 5 = .ok (.iload_n 1, 1) := by decide +kernel
theorem dX7_at_6 : decode cX7_at 6 = .ok (.iconst 1, 1) := by decide +kernel
theorem dX7_at_7 : decode cX7_at 7 = .ok (.aload_n 0, 1) := by decide +kernel
theorem dX7_at_8 : decode cX7_at 8 = .ok (.getfield 119, 3) := by decide +kernel
theorem dX7_at_11 : decode cX7_at 11 = .ok (.invokestatic 69, 3) := by decide +kernel
theorem dX7_at_14 : decode cX7_at 14 = .ok (.ifCond .eq 14, 3) := by decide +kernel
theorem dX7_at_17 : decode cX7_at 17 = .ok (.aload_n 0, 1) := by decide +kernel
theorem dX7_at_18 : decode cX7_at 18 = .ok (.getfield 116, 3) := by decide +kernel
theorem dX7_at_21 : decode cX7_at 21 = .ok (.iload_n 1, 1) := by decide +kernel
theorem dX7_at_22 : decode cX7_at 22 = .ok (.iconst 1, 1) := by decide +kernel
theorem dX7_at_23 : decode cX7_at 23 = .ok (.isub, 1) := by decide +kernel
theorem dX7_at_24 : decode cX7_at 24 = .ok (.iaload, 1) := by decide +kernel
theorem dX7_at_25 : decode cX7_at 25 = .ok (.goto 4, 3) := by decide +kernel
theorem dX7_at_28 : decode cX7_at 28 = .ok (.iconst (-1), 1) := by decide +kernel
theorem dX7_at_29 : decode cX7_at 29 = .ok (.ireturn, 1) := by decide +kernel
theorem dX7_firstOf_0 : decode cX7_firstOf 0 = .ok (.iconst 0, 1) := by decide +kernel
theorem dX7_firstOf_1 : decode cX7_firstOf 1 = .ok (.istore_n 2, 1) := by decide +kernel
theorem dX7_firstOf_2 : decode cX7_firstOf 2 = .ok (.iload_n 2, 1) := by decide +kernel
theorem dX7_firstOf_3 : decode cX7_firstOf 3 = .ok (.aload_n 0, 1) := by decide +kernel
theorem dX7_firstOf_4 : decode cX7_firstOf 4 = .ok (.getfield 119, 3) := by decide +kernel
theorem dX7_firstOf_7 : decode cX7_firstOf 7 = .ok (.if_icmp .ge 27, 3) := by decide +kernel
theorem dX7_firstOf_10 : decode cX7_firstOf 10 = .ok (.iload_n 1, 1) := by decide +kernel
theorem dX7_firstOf_11 : decode cX7_firstOf 11 = .ok (.ifCond .le 23, 3) := by decide +kernel
theorem dX7_firstOf_14 : decode cX7_firstOf 14 = .ok (.aload_n 0, 1) := by decide +kernel
theorem dX7_firstOf_15 : decode cX7_firstOf 15 = .ok (.getfield 116, 3) := by decide +kernel
theorem dX7_firstOf_18 : decode cX7_firstOf 18 = .ok (.iload_n 2, 1) := by decide +kernel
theorem dX7_firstOf_19 : decode cX7_firstOf 19 = .ok (.iaload, 1) := by decide +kernel
theorem dX7_firstOf_20 : decode cX7_firstOf 20 = .ok (.iload_n 1, 1) := by decide +kernel
theorem dX7_firstOf_21 : decode cX7_firstOf 21 = .ok (.if_icmp .ne 7, 3) := by decide +kernel
theorem dX7_firstOf_24 : decode cX7_firstOf 24 = .ok (.iload_n 2, 1) := by decide +kernel
theorem dX7_firstOf_25 : decode cX7_firstOf 25 = .ok (.iconst 1, 1) := by decide +kernel
theorem dX7_firstOf_26 : decode cX7_firstOf 26 = .ok (.iadd, 1) := by decide +kernel
theorem dX7_firstOf_27 : decode cX7_firstOf 27 = .ok (.ireturn, 1) := by decide +kernel
theorem dX7_firstOf_28 : decode cX7_firstOf 28 = .ok (.iinc 2 1, 3) := by decide +kernel
theorem dX7_firstOf_31 : decode cX7_firstOf 31 = .ok (.goto (-29), 3) := by decide +kernel
theorem dX7_firstOf_34 : decode cX7_firstOf 34 = .ok (.iconst (-1), 1) := by decide +kernel
theorem dX7_firstOf_35 : decode cX7_firstOf 35 = .ok (.ireturn, 1) := by decide +kernel
set_option maxRecDepth 20000 in
theorem ggX7_first_X7_firstOf : GoodIn wsX7_first wsX7_firstOf := goodIn_r _ [6, 7, 8, 9, 10, 11, 12, 13, 14, 15, 16, 17, 18, 19, 20, 21, 22, 23, 24, 25, 26, 27, 28, 29, 30, 31, 32, 33, 34, 35, 36, 37, 38, 39] (by decide +kernel) (by decide +kernel)
set_option maxRecDepth 20000 in
theorem gX7_first_X7_firstOf : GoodIn wsX7_first (wsV RX7 223 RX7 yX7_firstOf wsX7_firstOf) := goodIn_app (goodIn_of _ (by decide +kernel)) ggX7_first_X7_firstOf
theorem dX7_first_0 : decode cX7_first 0 = .ok (.aload_n 0, 1) := by decide +kernel
theorem dX7_first_1 : decode cX7_first 1 = .ok (.iconst 0, 1) := by decide +kernel
theorem dX7_first_2 : decode cX7_first 2 = .ok (.putfield 1, 3) := by decide +kernel
theorem dX7_first_5 : decode cX7_first 5 = .ok (.aload_n 0, 1) := by decide +kernel
theorem dX7_first_6 : decode cX7_first 6 = .ok (.iload_n 1, 1) := by decide +kernel
theorem dX7_first_7 : decode cX7_first 7 = .ok (.invokevirtual 223, 3) := by decide +kernel
theorem dX7_first_10 : decode cX7_first 10 = .ok (.ireturn, 1) := by decide +kernel
set_option maxRecDepth 20000 in
theorem ggX7_ranked_X7_all : GoodIn wsX7_ranked wsX7_all := goodIn_r _ [8, 9, 10, 2, 11, 12, 13, 14, 15, 7, 16, 17, 18, 19, 20, 21, 22, 23, 24, 25, 26, 27, 28, 29, 30, 31, 32, 33, 34, 35, 36, 37, 3, 44, 45, 46, 47, 48, 49, 50, 51, 52, 53, 54, 55, 56, 57, 58, 59, 60, 61, 62, 63, 64, 65, 66, 67, 68, 69, 70, 71, 72, 73, 74] (by decide +kernel) (by decide +kernel)
set_option maxRecDepth 20000 in
theorem gX7_ranked_X7_all : GoodIn wsX7_ranked (wsV RX7 212 RX7 yX7_all wsX7_all) := goodIn_app (goodIn_of _ (by decide +kernel)) ggX7_ranked_X7_all
set_option maxRecDepth 20000 in
theorem ggX7_ranked_X7_looks : GoodIn wsX7_ranked wsX7_looks := goodIn_r _ [41, 42, 43, 44, 45, 46, 47, 48, 49, 50, 51, 52, 53, 54, 55, 56, 57, 58, 59, 60, 61, 62, 63, 64, 65, 66, 67, 68, 69, 70, 71, 72, 73, 74] (by decide +kernel) (by decide +kernel)
set_option maxRecDepth 20000 in
theorem gX7_ranked_X7_looks : GoodIn wsX7_ranked (wsV RX7 219 RX7 yX7_looks wsX7_looks) := goodIn_app (goodIn_of _ (by decide +kernel)) ggX7_ranked_X7_looks
theorem dX7_ranked_0 : decode cX7_ranked 0 = .ok (.aload_n 0, 1) := by decide +kernel
theorem dX7_ranked_1 : decode cX7_ranked 1 = .ok (.aload_n 0, 1) := by decide +kernel
theorem dX7_ranked_2 : decode cX7_ranked 2 = .ok (.getfield 79, 3) := by decide +kernel
theorem dX7_ranked_5 : decode cX7_ranked 5 = .ok (.iconst (-1), 1) := by decide +kernel
theorem dX7_ranked_6 : decode cX7_ranked 6 = .ok (.invokevirtual 212, 3) := by decide +kernel
theorem dX7_ranked_9 : decode cX7_ranked 9 = .ok (.pop, 1) := by decide +kernel
theorem dX7_ranked_10 : decode cX7_ranked 10 = .ok (.aload_n 0, 1) := by decide +kernel
theorem dX7_ranked_11 : decode cX7_ranked 11 = .ok (.getfield 205, 3) := by decide +kernel
theorem dX7_ranked_14 : decode cX7_ranked 14 = .ok (.iconst (-1), 1) := by decide +kernel
theorem dX7_ranked_15 : decode cX7_ranked 15 = .ok (.if_icmp .eq 17, 3) := by decide +kernel
theorem dX7_ranked_18 : decode cX7_ranked 18 = .ok (.aload_n 0, 1) := by decide +kernel
theorem dX7_ranked_19 : decode cX7_ranked 19 = .ok (.aload_n 0, 1) := by decide +kernel
theorem dX7_ranked_20 : decode cX7_ranked 20 = .ok (.getfield 110, 3) := by decide +kernel
theorem dX7_ranked_23 : decode cX7_ranked 23 = .ok (.aload_n 0, 1) := by decide +kernel
theorem dX7_ranked_24 : decode cX7_ranked 24 = .ok (.getfield 79, 3) := by decide +kernel
theorem dX7_ranked_27 : decode cX7_ranked 27 = .ok (.iconst 0, 1) := by decide +kernel
theorem dX7_ranked_28 : decode cX7_ranked 28 = .ok (.iaload, 1) := by decide +kernel
theorem dX7_ranked_29 : decode cX7_ranked 29 = .ok (.invokevirtual 219, 3) := by decide +kernel
theorem dX7_ranked_32 : decode cX7_ranked 32 = .ok (.aload_n 0, 1) := by decide +kernel
theorem dX7_ranked_33 : decode cX7_ranked 33 = .ok (.getfield 205, 3) := by decide +kernel
theorem dX7_ranked_36 : decode cX7_ranked 36 = .ok (.ireturn, 1) := by decide +kernel
set_option maxRecDepth 20000 in
theorem ggX7_rank_X7_ranked : GoodIn wsX7_rank wsX7_ranked := goodIn_r _ [10, 3, 11, 4, 12, 13, 14, 9, 15, 16, 17, 18, 19, 20, 21, 22, 23, 24, 25, 26, 27, 28, 29, 30, 31, 32, 33, 34, 35, 36, 37, 38, 39, 40, 41, 42, 43, 44, 45, 46, 47, 48, 49, 50, 51, 52, 53, 54, 55, 56, 57, 58, 59, 60, 61, 62, 63, 64, 65, 66, 67, 68, 69, 70, 71, 72, 73, 74, 75, 76, 77, 78, 79, 80, 81] (by decide +kernel) (by decide +kernel)
set_option maxRecDepth 20000 in
theorem gX7_rank_X7_ranked : GoodIn wsX7_rank (wsV RX7 226 RX7 yX7_ranked wsX7_ranked) := goodIn_app (goodIn_of _ (by decide +kernel)) ggX7_rank_X7_ranked
theorem dX7_rank_0 : decode cX7_rank 0 = .ok (.aload_n 0, 1) := by decide +kernel
theorem dX7_rank_1 : decode cX7_rank 1 = .ok (.iconst 0, 1) := by decide +kernel
theorem dX7_rank_2 : decode cX7_rank 2 = .ok (.putfield 1, 3) := by decide +kernel
theorem dX7_rank_5 : decode cX7_rank 5 = .ok (.aload_n 0, 1) := by decide +kernel
theorem dX7_rank_6 : decode cX7_rank 6 = .ok (.getfield 11, 3) := by decide +kernel
theorem dX7_rank_9 : decode cX7_rank 9 = .ok (.istore_n 1, 1) := by decide +kernel
theorem dX7_rank_10 : decode cX7_rank 10 = .ok (.aload_n 0, 1) := by decide +kernel
theorem dX7_rank_11 : decode cX7_rank 11 = .ok (.iconst 0, 1) := by decide +kernel
theorem dX7_rank_12 : decode cX7_rank 12 = .ok (.putfield 11, 3) := by decide +kernel
theorem dX7_rank_15 : decode cX7_rank 15 = .ok (.iload_n 1, 1) := by decide +kernel
theorem dX7_rank_16 : decode cX7_rank 16 = .ok (.aload_n 0, 1) := by decide +kernel
theorem dX7_rank_17 : decode cX7_rank 17 = .ok (.getfield 79, 3) := by decide +kernel
theorem dX7_rank_20 : decode cX7_rank 20 = .ok (.iconst 0, 1) := by decide +kernel
theorem dX7_rank_21 : decode cX7_rank 21 = .ok (.iaload, 1) := by decide +kernel
theorem dX7_rank_22 : decode cX7_rank 22 = .ok (.if_icmp .eq 5, 3) := by decide +kernel
theorem dX7_rank_25 : decode cX7_rank 25 = .ok (.iconst (-1), 1) := by decide +kernel
theorem dX7_rank_26 : decode cX7_rank 26 = .ok (.ireturn, 1) := by decide +kernel
theorem dX7_rank_27 : decode cX7_rank 27 = .ok (.iconst 0, 1) := by decide +kernel
theorem dX7_rank_28 : decode cX7_rank 28 = .ok (.istore_n 2, 1) := by decide +kernel
theorem dX7_rank_29 : decode cX7_rank 29 = .ok (.iload_n 2, 1) := by decide +kernel
theorem dX7_rank_30 : decode cX7_rank 30 = .ok (.iload_n 1, 1) := by decide +kernel
theorem dX7_rank_31 : decode cX7_rank 31 = .ok (.if_icmp .ge 21, 3) := by decide +kernel
theorem dX7_rank_34 : decode cX7_rank 34 = .ok (.aload_n 0, 1) := by decide +kernel
theorem dX7_rank_35 : decode cX7_rank 35 = .ok (.getfield 110, 3) := by decide +kernel
theorem dX7_rank_38 : decode cX7_rank 38 = .ok (.iload_n 2, 1) := by decide +kernel
theorem dX7_rank_39 : decode cX7_rank 39 = .ok (.aload_n 0, 1) := by decide +kernel
theorem dX7_rank_40 : decode cX7_rank 40 = .ok (.getfield 7, 3) := by decide +kernel
theorem dX7_rank_43 : decode cX7_rank 43 = .ok (.iload_n 2, 1) := by decide +kernel
theorem dX7_rank_44 : decode cX7_rank 44 = .ok (.iaload, 1) := by decide +kernel
theorem dX7_rank_45 : decode cX7_rank 45 = .ok (.iastore, 1) := by decide +kernel
theorem dX7_rank_46 : decode cX7_rank 46 = .ok (.iinc 2 1, 3) := by decide +kernel
theorem dX7_rank_49 : decode cX7_rank 49 = .ok (.goto (-20), 3) := by decide +kernel
theorem dX7_rank_52 : decode cX7_rank 52 = .ok (.aload_n 0, 1) := by decide +kernel
theorem dX7_rank_53 : decode cX7_rank 53 = .ok (.invokevirtual 226, 3) := by decide +kernel
theorem dX7_rank_56 : decode cX7_rank 56 = .ok (.ireturn, 1) := by decide +kernel
set_option maxRecDepth 20000 in
theorem ggX7_behind_X7_ranked : GoodIn wsX7_behind wsX7_ranked := goodIn_r _ [10, 3, 11, 4, 12, 13, 14, 9, 15, 16, 17, 18, 19, 20, 21, 22, 23, 24, 25, 26, 27, 28, 29, 30, 31, 32, 33, 34, 35, 36, 37, 38, 39, 40, 41, 42, 43, 44, 45, 46, 47, 48, 2, 5, 49, 50, 51, 52, 53, 54, 55, 56, 57, 58, 59, 60, 61, 62, 63, 64, 65, 66, 67, 68, 69, 70, 71, 72, 73, 74, 75, 76, 77, 78, 79] (by decide +kernel) (by decide +kernel)
set_option maxRecDepth 20000 in
theorem gX7_behind_X7_ranked : GoodIn wsX7_behind (wsV RX7 226 RX7 yX7_ranked wsX7_ranked) := goodIn_app (goodIn_of _ (by decide +kernel)) ggX7_behind_X7_ranked
theorem dX7_behind_0 : decode cX7_behind 0 = .ok (.aload_n 0, 1) := by decide +kernel
theorem dX7_behind_1 : decode cX7_behind 1 = .ok (.iconst 0, 1) := by decide +kernel
theorem dX7_behind_2 : decode cX7_behind 2 = .ok (.putfield 1, 3) := by decide +kernel
theorem dX7_behind_5 : decode cX7_behind 5 = .ok (.aload_n 0, 1) := by decide +kernel
theorem dX7_behind_6 : decode cX7_behind 6 = .ok (.getfield 119, 3) := by decide +kernel
theorem dX7_behind_9 : decode cX7_behind 9 = .ok (.aload_n 0, 1) := by decide +kernel
theorem dX7_behind_10 : decode cX7_behind 10 = .ok (.getfield 79, 3) := by decide +kernel
theorem dX7_behind_13 : decode cX7_behind 13 = .ok (.iconst 0, 1) := by decide +kernel
theorem dX7_behind_14 : decode cX7_behind 14 = .ok (.iaload, 1) := by decide +kernel
theorem dX7_behind_15 : decode cX7_behind 15 = .ok (.if_icmp .eq 5, 3) := by decide +kernel
theorem dX7_behind_18 : decode cX7_behind 18 = .ok (.iconst (-1), 1) := by decide +kernel
theorem dX7_behind_19 : decode cX7_behind 19 = .ok (.ireturn, 1) := by decide +kernel
theorem dX7_behind_20 : decode cX7_behind 20 = .ok (.iconst 0, 1) := by decide +kernel
theorem dX7_behind_21 : decode cX7_behind 21 = .ok (.istore_n 1, 1) := by decide +kernel
theorem dX7_behind_22 : decode cX7_behind 22 = .ok (.iload_n 1, 1) := by decide +kernel
theorem dX7_behind_23 : decode cX7_behind 23 = .ok (.aload_n 0, 1) := by decide +kernel
theorem dX7_behind_24 : decode cX7_behind 24 = .ok (.getfield 119, 3) := by decide +kernel
theorem dX7_behind_27 : decode cX7_behind 27 = .ok (.if_icmp .ge 28, 3) := by decide +kernel
theorem dX7_behind_30 : decode cX7_behind 30 = .ok (.aload_n 0, 1) := by decide +kernel
theorem dX7_behind_31 : decode cX7_behind 31 = .ok (.getfield 110, 3) := by decide +kernel
theorem dX7_behind_34 : decode cX7_behind 34 = .ok (.iload_n 1, 1) := by decide +kernel
theorem dX7_behind_35 : decode cX7_behind 35 = .ok (.aload_n 0, 1) := by decide +kernel
theorem dX7_behind_36 : decode cX7_behind 36 = .ok (.getfield 116, 3) := by decide +kernel
theorem dX7_behind_39 : decode cX7_behind 39 = .ok (.aload_n 0, 1) := by decide +kernel
theorem dX7_behind_40 : decode cX7_behind 40 = .ok (.getfield 119, 3) := by decide +kernel
theorem dX7_behind_43 : decode cX7_behind 43 = .ok (.iconst 1, 1) := by decide +kernel
theorem dX7_behind_44 : decode cX7_behind 44 = .ok (.isub, 1) := by decide +kernel
theorem dX7_behind_45 : decode cX7_behind 45 = .ok (.iload_n 1, 1) := by decide +kernel
theorem dX7_behind_46 : decode cX7_behind 46 = .ok (.isub, 1) := by decide +kernel
theorem dX7_behind_47 : decode cX7_behind 47 = .ok (.iaload, 1) := by decide +kernel
theorem dX7_behind_48 : decode cX7_behind 48 = .ok (.iastore, 1) := by decide +kernel
theorem dX7_behind_49 : decode cX7_behind 49 = .ok (.iinc 1 1, 3) := by decide +kernel
theorem dX7_behind_52 : decode cX7_behind 52 = .ok (.goto (-30), 3) := by decide +kernel
theorem dX7_behind_55 : decode cX7_behind 55 = .ok (.aload_n 0, 1) := by decide +kernel
theorem dX7_behind_56 : decode cX7_behind 56 = .ok (.invokevirtual 226, 3) := by decide +kernel
theorem dX7_behind_59 : decode cX7_behind 59 = .ok (.ireturn, 1) := by decide +kernel
set_option maxRecDepth 20000 in
theorem ggX7_standing_X7_isTold : GoodIn wsX7_standing wsX7_isTold := goodIn_r _ [7, 8, 9, 6, 10, 11, 12, 13] (by decide +kernel) (by decide +kernel)
set_option maxRecDepth 20000 in
theorem gX7_standing_X7_isTold : GoodIn wsX7_standing (va_wsS RX7 129 yX7_isTold wsX7_isTold) := goodIn_app (goodIn_of _ (by decide +kernel)) ggX7_standing_X7_isTold
set_option maxRecDepth 20000 in
theorem ggX7_standing_X7_isIn : GoodIn wsX7_standing wsX7_isIn := goodIn_r _ [10] (by decide +kernel) (by decide +kernel)
set_option maxRecDepth 20000 in
theorem gX7_standing_X7_isIn : GoodIn wsX7_standing (va_wsS RX7 69 yX7_isIn wsX7_isIn) := goodIn_app (goodIn_of _ (by decide +kernel)) ggX7_standing_X7_isIn
set_option maxRecDepth 20000 in
theorem ggX7_standing_X7_all : GoodIn wsX7_standing wsX7_all := goodIn_r _ [17, 18, 19, 20, 21, 3, 22, 23, 24, 6, 25, 11, 12, 13, 4, 5, 7, 8, 9, 10, 26, 27, 28, 29, 30, 31, 32, 33, 34, 35, 36, 37, 38, 39, 40, 41, 42, 43, 44, 45, 46, 47, 48, 49, 50, 51, 52, 53, 54, 55, 56, 57, 58, 59, 60, 61, 62, 63, 64, 65, 66, 67, 68, 69] (by decide +kernel) (by decide +kernel)
set_option maxRecDepth 20000 in
theorem gX7_standing_X7_all : GoodIn wsX7_standing (wsV RX7 212 RX7 yX7_all wsX7_all) := goodIn_app (goodIn_of _ (by decide +kernel)) ggX7_standing_X7_all
theorem dX7_standing_0 : decode cX7_standing 0 = .ok (.aload_n 0, 1) := by decide +kernel
theorem dX7_standing_1 : decode cX7_standing 1 = .ok (.iconst 0, 1) := by decide +kernel
theorem dX7_standing_2 : decode cX7_standing 2 = .ok (.putfield 1, 3) := by decide +kernel
theorem dX7_standing_5 : decode cX7_standing 5 = .ok (.aload_n 0, 1) := by decide +kernel
theorem dX7_standing_6 : decode cX7_standing 6 = .ok (.getfield 79, 3) := by decide +kernel
theorem dX7_standing_9 : decode cX7_standing 9 = .ok (.iload_n 1, 1) := by decide +kernel
theorem dX7_standing_10 : decode cX7_standing 10 = .ok (.invokestatic 129, 3) := by decide +kernel
theorem dX7_standing_13 : decode cX7_standing 13 = .ok (.ifCond .eq 17, 3) := by decide +kernel
theorem dX7_standing_16 : decode cX7_standing 16 = .ok (.iload_n 2, 1) := by decide +kernel
theorem dX7_standing_17 : decode cX7_standing 17 = .ok (.iconst 1, 1) := by decide +kernel
theorem dX7_standing_18 : decode cX7_standing 18 = .ok (.aload_n 0, 1) := by decide +kernel
theorem dX7_standing_19 : decode cX7_standing 19 = .ok (.getfield 79, 3) := by decide +kernel
theorem dX7_standing_22 : decode cX7_standing 22 = .ok (.iconst 0, 1) := by decide +kernel
theorem dX7_standing_23 : decode cX7_standing 23 = .ok (.iaload, 1) := by decide +kernel
theorem dX7_standing_24 : decode cX7_standing 24 = .ok (.invokestatic 69, 3) := by decide +kernel
theorem dX7_standing_27 : decode cX7_standing 27 = .ok (.ifCond .ne 5, 3) := by decide +kernel
theorem dX7_standing_30 : decode cX7_standing 30 = .ok (.iconst (-1), 1) := by decide +kernel
theorem dX7_standing_31 : decode cX7_standing 31 = .ok (.ireturn, 1) := by decide +kernel
theorem dX7_standing_32 : decode cX7_standing 32 = .ok (.aload_n 0, 1) := by decide +kernel
theorem dX7_standing_33 : decode cX7_standing 33 = .ok (.aload_n 0, 1) := by decide +kernel
theorem dX7_standing_34 : decode cX7_standing 34 = .ok (.getfield 79, 3) := by decide +kernel
theorem dX7_standing_37 : decode cX7_standing 37 = .ok (.iconst (-1), 1) := by decide +kernel
theorem dX7_standing_38 : decode cX7_standing 38 = .ok (.invokevirtual 212, 3) := by decide +kernel
theorem dX7_standing_41 : decode cX7_standing 41 = .ok (.pop, 1) := by decide +kernel
theorem dX7_standing_42 : decode cX7_standing 42 = .ok (.aload_n 0, 1) := by decide +kernel
theorem dX7_standing_43 : decode cX7_standing 43 = .ok (.getfield 113, 3) := by decide +kernel
theorem dX7_standing_46 : decode cX7_standing 46 = .ok (.bipush 20, 2) := by decide +kernel
theorem dX7_standing_48 : decode cX7_standing 48 = .ok (.iload_n 1, 1) := by decide +kernel
theorem dX7_standing_49 : decode cX7_standing 49 = .ok (.imul, 1) := by decide +kernel
theorem dX7_standing_50 : decode cX7_standing 50 = .ok (.iload_n 2, 1) := by decide +kernel
theorem dX7_standing_51 : decode cX7_standing 51 = .ok (.iadd, 1) := by decide +kernel
theorem dX7_standing_52 : decode cX7_standing 52 = .ok (.iconst 1, 1) := by decide +kernel
theorem dX7_standing_53 : decode cX7_standing 53 = .ok (.isub, 1) := by decide +kernel
theorem dX7_standing_54 : decode cX7_standing 54 = .ok (.iaload, 1) := by decide +kernel
theorem dX7_standing_55 : decode cX7_standing 55 = .ok (.ireturn, 1) := by decide +kernel
set_option maxRecDepth 20000 in
theorem ggX7_may_X7_isTold : GoodIn wsX7_may wsX7_isTold := goodIn_r _ [7, 8, 9, 6, 10, 11, 12, 13] (by decide +kernel) (by decide +kernel)
set_option maxRecDepth 20000 in
theorem gX7_may_X7_isTold : GoodIn wsX7_may (va_wsS RX7 129 yX7_isTold wsX7_isTold) := goodIn_app (goodIn_of _ (by decide +kernel)) ggX7_may_X7_isTold
set_option maxRecDepth 20000 in
theorem ggX7_may_X7_all : GoodIn wsX7_may wsX7_all := goodIn_r _ [17, 18, 19, 20, 21, 3, 22, 23, 24, 6, 25, 11, 12, 13, 4, 5, 7, 8, 9, 10, 26, 27, 28, 29, 30, 31, 32, 33, 34, 35, 36, 37, 38, 39, 40, 41, 42, 43, 44, 45, 46, 47, 48, 49, 50, 51, 52, 53, 54, 55, 56, 57, 58, 59, 60, 61, 62, 63, 64, 65, 66, 67, 68, 69] (by decide +kernel) (by decide +kernel)
set_option maxRecDepth 20000 in
theorem gX7_may_X7_all : GoodIn wsX7_may (wsV RX7 212 RX7 yX7_all wsX7_all) := goodIn_app (goodIn_of _ (by decide +kernel)) ggX7_may_X7_all
theorem dX7_may_0 : decode cX7_may 0 = .ok (.aload_n 0, 1) := by decide +kernel
theorem dX7_may_1 : decode cX7_may 1 = .ok (.iconst 0, 1) := by decide +kernel
theorem dX7_may_2 : decode cX7_may 2 = .ok (.putfield 1, 3) := by decide +kernel
theorem dX7_may_5 : decode cX7_may 5 = .ok (.aload_n 0, 1) := by decide +kernel
theorem dX7_may_6 : decode cX7_may 6 = .ok (.getfield 79, 3) := by decide +kernel
theorem dX7_may_9 : decode cX7_may 9 = .ok (.iload_n 1, 1) := by decide +kernel
theorem dX7_may_10 : decode cX7_may 10 = .ok (.invokestatic 129, 3) := by decide +kernel
theorem dX7_may_13 : decode cX7_may 13 = .ok (.ifCond .ne 5, 3) := by decide +kernel
theorem dX7_may_16 : decode cX7_may 16 = .ok (.iconst (-1), 1) := by decide +kernel
theorem dX7_may_17 : decode cX7_may 17 = .ok (.ireturn, 1) := by decide +kernel
theorem dX7_may_18 : decode cX7_may 18 = .ok (.aload_n 0, 1) := by decide +kernel
theorem dX7_may_19 : decode cX7_may 19 = .ok (.aload_n 0, 1) := by decide +kernel
theorem dX7_may_20 : decode cX7_may 20 = .ok (.getfield 79, 3) := by decide +kernel
theorem dX7_may_23 : decode cX7_may 23 = .ok (.iconst (-1), 1) := by decide +kernel
theorem dX7_may_24 : decode cX7_may 24 = .ok (.invokevirtual 212, 3) := by decide +kernel
theorem dX7_may_27 : decode cX7_may 27 = .ok (.pop, 1) := by decide +kernel
theorem dX7_may_28 : decode cX7_may 28 = .ok (.iconst 0, 1) := by decide +kernel
theorem dX7_may_29 : decode cX7_may 29 = .ok (.istore_n 2, 1) := by decide +kernel
theorem dX7_may_30 : decode cX7_may 30 = .ok (.iconst 0, 1) := by decide +kernel
theorem dX7_may_31 : decode cX7_may 31 = .ok (.istore_n 3, 1) := by decide +kernel
theorem dX7_may_32 : decode cX7_may 32 = .ok (.iload_n 3, 1) := by decide +kernel
theorem dX7_may_33 : decode cX7_may 33 = .ok (.aload_n 0, 1) := by decide +kernel
theorem dX7_may_34 : decode cX7_may 34 = .ok (.getfield 79, 3) := by decide +kernel
theorem dX7_may_37 : decode cX7_may 37 = .ok (.iconst 0, 1) := by decide +kernel
theorem dX7_may_38 : decode cX7_may 38 = .ok (.iaload, 1) := by decide +kernel
theorem dX7_may_39 : decode cX7_may 39 = .ok (.if_icmp .ge 29, 3) := by decide +kernel
theorem dX7_may_42 : decode cX7_may 42 = .ok (.aload_n 0, 1) := by decide +kernel
theorem dX7_may_43 : decode cX7_may 43 = .ok (.getfield 113, 3) := by decide +kernel
theorem dX7_may_46 : decode cX7_may 46 = .ok (.bipush 20, 2) := by decide +kernel
theorem dX7_may_48 : decode cX7_may 48 = .ok (.iload_n 1, 1) := by decide +kernel
theorem dX7_may_49 : decode cX7_may 49 = .ok (.imul, 1) := by decide +kernel
theorem dX7_may_50 : decode cX7_may 50 = .ok (.iload_n 3, 1) := by decide +kernel
theorem dX7_may_51 : decode cX7_may 51 = .ok (.iadd, 1) := by decide +kernel
theorem dX7_may_52 : decode cX7_may 52 = .ok (.iaload, 1) := by decide +kernel
theorem dX7_may_53 : decode cX7_may 53 = .ok (.ifCond .le 9, 3) := by decide +kernel
theorem dX7_may_56 : decode cX7_may 56 = .ok (.iload_n 2, 1) := by decide +kernel
theorem dX7_may_57 : decode cX7_may 57 = .ok (.iconst 1, 1) := by decide +kernel
theorem dX7_may_58 : decode cX7_may 58 = .ok (.iload_n 3, 1) := by decide +kernel
theorem dX7_may_59 : decode cX7_may 59 = .ok (.ishl, 1) := by decide +kernel
theorem dX7_may_60 : decode cX7_may 60 = .ok (.ior, 1) := by decide +kernel
theorem dX7_may_61 : decode cX7_may 61 = .ok (.istore_n 2, 1) := by decide +kernel
theorem dX7_may_62 : decode cX7_may 62 = .ok (.iinc 3 1, 3) := by decide +kernel
theorem dX7_may_65 : decode cX7_may 65 = .ok (.goto (-33), 3) := by decide +kernel
theorem dX7_may_68 : decode cX7_may 68 = .ok (.iload_n 2, 1) := by decide +kernel
theorem dX7_may_69 : decode cX7_may 69 = .ok (.ireturn, 1) := by decide +kernel
set_option maxRecDepth 20000 in
theorem ggX7_sure_X7_all : GoodIn wsX7_sure wsX7_all := goodIn_r _ [8, 9, 10, 11, 12, 3, 13, 14, 15, 7, 16, 17, 18, 19, 20, 21, 22, 23, 24, 25, 26, 27, 28, 29, 30, 31, 32, 33, 34, 35, 36, 37, 38, 39, 40, 41, 42, 43, 44, 45, 46, 47, 48, 49, 50, 51, 52, 53, 54, 55, 56, 57, 58, 59, 60, 61, 62, 63, 64, 65, 66, 67, 68, 69] (by decide +kernel) (by decide +kernel)
set_option maxRecDepth 20000 in
theorem gX7_sure_X7_all : GoodIn wsX7_sure (wsV RX7 212 RX7 yX7_all wsX7_all) := goodIn_app (goodIn_of _ (by decide +kernel)) ggX7_sure_X7_all
theorem dX7_sure_0 : decode cX7_sure 0 = .ok (.aload_n 0, 1) := by decide +kernel
theorem dX7_sure_1 : decode cX7_sure 1 = .ok (.iconst 0, 1) := by decide +kernel
theorem dX7_sure_2 : decode cX7_sure 2 = .ok (.putfield 1, 3) := by decide +kernel
theorem dX7_sure_5 : decode cX7_sure 5 = .ok (.aload_n 0, 1) := by decide +kernel
theorem dX7_sure_6 : decode cX7_sure 6 = .ok (.aload_n 0, 1) := by decide +kernel
theorem dX7_sure_7 : decode cX7_sure 7 = .ok (.getfield 79, 3) := by decide +kernel
theorem dX7_sure_10 : decode cX7_sure 10 = .ok (.iconst (-1), 1) := by decide +kernel
theorem dX7_sure_11 : decode cX7_sure 11 = .ok (.invokevirtual 212, 3) := by decide +kernel
theorem dX7_sure_14 : decode cX7_sure 14 = .ok (.istore_n 1, 1) := by decide +kernel
theorem dX7_sure_15 : decode cX7_sure 15 = .ok (.iconst 0, 1) := by decide +kernel
theorem dX7_sure_16 : decode cX7_sure 16 = .ok (.istore_n 2, 1) := by decide +kernel
theorem dX7_sure_17 : decode cX7_sure 17 = .ok (.iconst 1, 1) := by decide +kernel
theorem dX7_sure_18 : decode cX7_sure 18 = .ok (.istore_n 3, 1) := by decide +kernel
theorem dX7_sure_19 : decode cX7_sure 19 = .ok (.iload_n 3, 1) := by decide +kernel
theorem dX7_sure_20 : decode cX7_sure 20 = .ok (.bipush 15, 2) := by decide +kernel
theorem dX7_sure_22 : decode cX7_sure 22 = .ok (.if_icmp .gt 57, 3) := by decide +kernel
theorem dX7_sure_25 : decode cX7_sure 25 = .ok (.iconst 0, 1) := by decide +kernel
theorem dX7_sure_26 : decode cX7_sure 26 = .ok (.istore 4, 2) := by decide +kernel
theorem dX7_sure_28 : decode cX7_sure 28 = .ok (.iload 4, 2) := by decide +kernel
theorem dX7_sure_30 : decode cX7_sure 30 = .ok (.aload_n 0, 1) := by decide +kernel
theorem dX7_sure_31 : decode cX7_sure 31 = .ok (.getfield 79, 3) := by decide +kernel
theorem dX7_sure_34 : decode cX7_sure 34 = .ok (.iconst 0, 1) := by decide +kernel
theorem dX7_sure_35 : decode cX7_sure 35 = .ok (.iaload, 1) := by decide +kernel
theorem dX7_sure_36 : decode cX7_sure 36 = .ok (.if_icmp .ge 37, 3) := by decide +kernel
theorem dX7_sure_39 : decode cX7_sure 39 = .ok (.iload_n 1, 1) := by decide +kernel
theorem dX7_sure_40 : decode cX7_sure 40 = .ok (.ifCond .le 27, 3) := by decide +kernel
theorem dX7_sure_43 : decode cX7_sure 43 = .ok (.aload_n 0, 1) := by decide +kernel
theorem dX7_sure_44 : decode cX7_sure 44 = .ok (.getfield 113, 3) := by decide +kernel
theorem dX7_sure_47 : decode cX7_sure 47 = .ok (.bipush 20, 2) := by decide +kernel
theorem dX7_sure_49 : decode cX7_sure 49 = .ok (.iload_n 3, 1) := by decide +kernel
theorem dX7_sure_50 : decode cX7_sure 50 = .ok (.imul, 1) := by decide +kernel
theorem dX7_sure_51 : decode cX7_sure 51 = .ok (.iload 4, 2) := by decide +kernel
theorem dX7_sure_53 : decode cX7_sure 53 = .ok (.iadd, 1) := by decide +kernel
theorem dX7_sure_54 : decode cX7_sure 54 = .ok (.iaload, 1) := by decide +kernel
theorem dX7_sure_55 : decode cX7_sure 55 = .ok (.iload_n 1, 1) := by decide +kernel
theorem dX7_sure_56 : decode cX7_sure 56 = .ok (.if_icmp .ne 11, 3) := by decide +kernel
theorem dX7_sure_59 : decode cX7_sure 59 = .ok (.iload_n 2, 1) := by decide +kernel
theorem dX7_sure_60 : decode cX7_sure 60 = .ok (.iconst 1, 1) := by decide +kernel
theorem dX7_sure_61 : decode cX7_sure 61 = .ok (.iload_n 3, 1) := by decide +kernel
theorem dX7_sure_62 : decode cX7_sure 62 = .ok (.iconst 1, 1) := by decide +kernel
theorem dX7_sure_63 : decode cX7_sure 63 = .ok (.isub, 1) := by decide +kernel
theorem dX7_sure_64 : decode cX7_sure 64 = .ok (.ishl, 1) := by decide +kernel
theorem dX7_sure_65 : decode cX7_sure 65 = .ok (.ior, 1) := by decide +kernel
theorem dX7_sure_66 : decode cX7_sure 66 = .ok (.istore_n 2, 1) := by decide +kernel
theorem dX7_sure_67 : decode cX7_sure 67 = .ok (.iinc 4 1, 3) := by decide +kernel
theorem dX7_sure_70 : decode cX7_sure 70 = .ok (.goto (-42), 3) := by decide +kernel
theorem dX7_sure_73 : decode cX7_sure 73 = .ok (.iinc 3 1, 3) := by decide +kernel
theorem dX7_sure_76 : decode cX7_sure 76 = .ok (.goto (-57), 3) := by decide +kernel
theorem dX7_sure_79 : decode cX7_sure 79 = .ok (.iload_n 2, 1) := by decide +kernel
theorem dX7_sure_80 : decode cX7_sure 80 = .ok (.ireturn, 1) := by decide +kernel
set_option maxRecDepth 20000 in
theorem ggX7_extended_X7_isIn : GoodIn wsX7_extended wsX7_isIn := goodIn_r _ [6] (by decide +kernel) (by decide +kernel)
set_option maxRecDepth 20000 in
theorem gX7_extended_X7_isIn : GoodIn wsX7_extended (va_wsS RX7 69 yX7_isIn wsX7_isIn) := goodIn_app (goodIn_of _ (by decide +kernel)) ggX7_extended_X7_isIn
set_option maxRecDepth 20000 in
theorem ggX7_extended_X7_laysKind : GoodIn wsX7_extended wsX7_laysKind := goodIn_r _ [9] (by decide +kernel) (by decide +kernel)
set_option maxRecDepth 20000 in
theorem gX7_extended_X7_laysKind : GoodIn wsX7_extended (va_wsS RX7 188 yX7_laysKind wsX7_laysKind) := goodIn_app (goodIn_of _ (by decide +kernel)) ggX7_extended_X7_laysKind
set_option maxRecDepth 20000 in
theorem ggX7_extended_X7_all : GoodIn wsX7_extended wsX7_all := goodIn_r _ [13, 14, 15, 16, 17, 18, 19, 20, 21, 5, 22, 23, 24, 25, 26, 27, 28, 3, 4, 6, 29, 30, 31, 32, 33, 34, 35, 36, 37, 38, 39, 40, 41, 42, 43, 44, 45, 46, 47, 48, 49, 50, 51, 52, 53, 54, 55, 56, 57, 58, 59, 60, 61, 62, 63, 64, 65, 66, 67, 68, 69, 70, 71, 72] (by decide +kernel) (by decide +kernel)
set_option maxRecDepth 20000 in
theorem gX7_extended_X7_all : GoodIn wsX7_extended (wsV RX7 212 RX7 yX7_all wsX7_all) := goodIn_app (goodIn_of _ (by decide +kernel)) ggX7_extended_X7_all
theorem dX7_extended_0 : decode cX7_extended 0 = .ok (.aload_n 0, 1) := by decide +kernel
theorem dX7_extended_1 : decode cX7_extended 1 = .ok (.iconst 0, 1) := by decide +kernel
theorem dX7_extended_2 : decode cX7_extended 2 = .ok (.putfield 1, 3) := by decide +kernel
theorem dX7_extended_5 : decode cX7_extended 5 = .ok (.iload_n 1, 1) := by decide +kernel
theorem dX7_extended_6 : decode cX7_extended 6 = .ok (.iconst 1, 1) := by decide +kernel
theorem dX7_extended_7 : decode cX7_extended 7 = .ok (.bipush 7, 2) := by decide +kernel
theorem dX7_extended_9 : decode cX7_extended 9 = .ok (.invokestatic 69, 3) := by decide +kernel
theorem dX7_extended_12 : decode cX7_extended 12 = .ok (.ifCond .eq 16, 3) := by decide +kernel
theorem dX7_extended_15 : decode cX7_extended 15 = .ok (.iload_n 2, 1) := by decide +kernel
theorem dX7_extended_16 : decode cX7_extended 16 = .ok (.iconst 1, 1) := by decide +kernel
theorem dX7_extended_17 : decode cX7_extended 17 = .ok (.iconst 2, 1) := by decide +kernel
theorem dX7_extended_18 : decode cX7_extended 18 = .ok (.iload_n 1, 1) := by decide +kernel
theorem dX7_extended_19 : decode cX7_extended 19 = .ok (.imul, 1) := by decide +kernel
theorem dX7_extended_20 : decode cX7_extended 20 = .ok (.iconst 1, 1) := by decide +kernel
theorem dX7_extended_21 : decode cX7_extended 21 = .ok (.iadd, 1) := by decide +kernel
theorem dX7_extended_22 : decode cX7_extended 22 = .ok (.invokestatic 69, 3) := by decide +kernel
theorem dX7_extended_25 : decode cX7_extended 25 = .ok (.ifCond .ne 5, 3) := by decide +kernel
theorem dX7_extended_28 : decode cX7_extended 28 = .ok (.iconst (-1), 1) := by decide +kernel
theorem dX7_extended_29 : decode cX7_extended 29 = .ok (.ireturn, 1) := by decide +kernel
theorem dX7_extended_30 : decode cX7_extended 30 = .ok (.aload_n 0, 1) := by decide +kernel
theorem dX7_extended_31 : decode cX7_extended 31 = .ok (.getfield 97, 3) := by decide +kernel
theorem dX7_extended_34 : decode cX7_extended 34 = .ok (.iconst 3, 1) := by decide +kernel
theorem dX7_extended_35 : decode cX7_extended 35 = .ok (.iload_n 1, 1) := by decide +kernel
theorem dX7_extended_36 : decode cX7_extended 36 = .ok (.invokestatic 188, 3) := by decide +kernel
theorem dX7_extended_39 : decode cX7_extended 39 = .ok (.aload_n 0, 1) := by decide +kernel
theorem dX7_extended_40 : decode cX7_extended 40 = .ok (.getfield 97, 3) := by decide +kernel
theorem dX7_extended_43 : decode cX7_extended 43 = .ok (.iconst 1, 1) := by decide +kernel
theorem dX7_extended_44 : decode cX7_extended 44 = .ok (.iconst 1, 1) := by decide +kernel
theorem dX7_extended_45 : decode cX7_extended 45 = .ok (.iload_n 2, 1) := by decide +kernel
theorem dX7_extended_46 : decode cX7_extended 46 = .ok (.iconst 1, 1) := by decide +kernel
theorem dX7_extended_47 : decode cX7_extended 47 = .ok (.isub, 1) := by decide +kernel
theorem dX7_extended_48 : decode cX7_extended 48 = .ok (.ishl, 1) := by decide +kernel
theorem dX7_extended_49 : decode cX7_extended 49 = .ok (.iastore, 1) := by decide +kernel
theorem dX7_extended_50 : decode cX7_extended 50 = .ok (.aload_n 0, 1) := by decide +kernel
theorem dX7_extended_51 : decode cX7_extended 51 = .ok (.aload_n 0, 1) := by decide +kernel
theorem dX7_extended_52 : decode cX7_extended 52 = .ok (.getfield 97, 3) := by decide +kernel
theorem dX7_extended_55 : decode cX7_extended 55 = .ok (.iconst (-1), 1) := by decide +kernel
theorem dX7_extended_56 : decode cX7_extended 56 = .ok (.invokevirtual 212, 3) := by decide +kernel
theorem dX7_extended_59 : decode cX7_extended 59 = .ok (.ireturn, 1) := by decide +kernel
theorem dX7_two_0 : decode cX7_two 0 = .ok (.iload_n 2, 1) := by decide +kernel
theorem dX7_two_1 : decode cX7_two 1 = .ok (.iload_n 1, 1) := by decide +kernel
theorem dX7_two_2 : decode cX7_two 2 = .ok (.if_icmp .le 9, 3) := by decide +kernel
theorem dX7_two_5 : decode cX7_two 5 = .ok (.iload_n 2, 1) := by decide +kernel
theorem dX7_two_6 : decode cX7_two 6 = .ok (.iload_n 1, 1) := by decide +kernel
theorem dX7_two_7 : decode cX7_two 7 = .ok (.isub, 1) := by decide +kernel
theorem dX7_two_8 : decode cX7_two 8 = .ok (.goto 6, 3) := by decide +kernel
theorem dX7_two_11 : decode cX7_two 11 = .ok (.iload_n 1, 1) := by decide +kernel
theorem dX7_two_12 : decode cX7_two 12 = .ok (.iload_n 2, 1) := by decide +kernel
theorem dX7_two_13 : decode cX7_two 13 = .ok (.isub, 1) := by decide +kernel
theorem dX7_two_14 : decode cX7_two 14 = .ok (.istore_n 3, 1) := by decide +kernel
theorem dX7_two_15 : decode cX7_two 15 = .ok (.aload_n 0, 1) := by decide +kernel
theorem dX7_two_16 : decode cX7_two 16 = .ok (.getfield 122, 3) := by decide +kernel
theorem dX7_two_19 : decode cX7_two 19 = .ok (.iload_n 1, 1) := by decide +kernel
theorem dX7_two_20 : decode cX7_two 20 = .ok (.iconst 1, 1) := by decide +kernel
theorem dX7_two_21 : decode cX7_two 21 = .ok (.isub, 1) := by decide +kernel
theorem dX7_two_22 : decode cX7_two 22 = .ok (.iload_n 3, 1) := by decide +kernel
theorem dX7_two_23 : decode cX7_two 23 = .ok (.iastore, 1) := by decide +kernel
theorem dX7_two_24 : decode cX7_two 24 = .ok (.aload_n 0, 1) := by decide +kernel
theorem dX7_two_25 : decode cX7_two 25 = .ok (.getfield 122, 3) := by decide +kernel
theorem dX7_two_28 : decode cX7_two 28 = .ok (.iload_n 2, 1) := by decide +kernel
theorem dX7_two_29 : decode cX7_two 29 = .ok (.iconst 1, 1) := by decide +kernel
theorem dX7_two_30 : decode cX7_two 30 = .ok (.isub, 1) := by decide +kernel
theorem dX7_two_31 : decode cX7_two 31 = .ok (.iload_n 3, 1) := by decide +kernel
theorem dX7_two_32 : decode cX7_two 32 = .ok (.iastore, 1) := by decide +kernel
theorem dX7_two_33 : decode cX7_two 33 = .ok (.return_, 1) := by decide +kernel
set_option maxRecDepth 20000 in
theorem ggX7_laysFours_X7_two : GoodIn wsX7_laysFours wsX7_two := goodIn_r _ [5, 6, 7, 8, 9, 10, 11, 12, 13, 14, 15, 16, 17, 18, 19, 20, 21, 22, 23, 24, 25, 26, 27, 28, 29, 30, 31, 32, 33, 34, 35, 36, 37] (by decide +kernel) (by decide +kernel)
set_option maxRecDepth 20000 in
theorem gX7_laysFours_X7_two : GoodIn wsX7_laysFours (wsV RX7 229 RX7 yX7_two wsX7_two) := goodIn_app (goodIn_of _ (by decide +kernel)) ggX7_laysFours_X7_two
theorem dX7_laysFours_0 : decode cX7_laysFours 0 = .ok (.iconst 0, 1) := by decide +kernel
theorem dX7_laysFours_1 : decode cX7_laysFours 1 = .ok (.istore_n 2, 1) := by decide +kernel
theorem dX7_laysFours_2 : decode cX7_laysFours 2 = .ok (.iload_n 2, 1) := by decide +kernel
theorem dX7_laysFours_3 : decode cX7_laysFours 3 = .ok (.iconst 2, 1) := by decide +kernel
theorem dX7_laysFours_4 : decode cX7_laysFours 4 = .ok (.iload_n 1, 1) := by decide +kernel
theorem dX7_laysFours_5 : decode cX7_laysFours 5 = .ok (.imul, 1) := by decide +kernel
theorem dX7_laysFours_6 : decode cX7_laysFours 6 = .ok (.if_icmp .ge 24, 3) := by decide +kernel
theorem dX7_laysFours_9 : decode cX7_laysFours 9 = .ok (.aload_n 0, 1) := by decide +kernel
theorem dX7_laysFours_10 : decode cX7_laysFours 10 = .ok (.iconst 4, 1) := by decide +kernel
theorem dX7_laysFours_11 : decode cX7_laysFours 11 = .ok (.iload_n 1, 1) := by decide +kernel
theorem dX7_laysFours_12 : decode cX7_laysFours 12 = .ok (.imul, 1) := by decide +kernel
theorem dX7_laysFours_13 : decode cX7_laysFours 13 = .ok (.iload_n 2, 1) := by decide +kernel
theorem dX7_laysFours_14 : decode cX7_laysFours 14 = .ok (.iadd, 1) := by decide +kernel
theorem dX7_laysFours_15 : decode cX7_laysFours 15 = .ok (.bipush 8, 2) := by decide +kernel
theorem dX7_laysFours_17 : decode cX7_laysFours 17 = .ok (.iload_n 1, 1) := by decide +kernel
theorem dX7_laysFours_18 : decode cX7_laysFours 18 = .ok (.imul, 1) := by decide +kernel
theorem dX7_laysFours_19 : decode cX7_laysFours 19 = .ok (.iload_n 2, 1) := by decide +kernel
theorem dX7_laysFours_20 : decode cX7_laysFours 20 = .ok (.isub, 1) := by decide +kernel
theorem dX7_laysFours_21 : decode cX7_laysFours 21 = .ok (.invokevirtual 229, 3) := by decide +kernel
theorem dX7_laysFours_24 : decode cX7_laysFours 24 = .ok (.iinc 2 1, 3) := by decide +kernel
theorem dX7_laysFours_27 : decode cX7_laysFours 27 = .ok (.goto (-25), 3) := by decide +kernel
theorem dX7_laysFours_30 : decode cX7_laysFours 30 = .ok (.aload_n 0, 1) := by decide +kernel
theorem dX7_laysFours_31 : decode cX7_laysFours 31 = .ok (.iload_n 1, 1) := by decide +kernel
theorem dX7_laysFours_32 : decode cX7_laysFours 32 = .ok (.iload_n 1, 1) := by decide +kernel
theorem dX7_laysFours_33 : decode cX7_laysFours 33 = .ok (.iconst 1, 1) := by decide +kernel
theorem dX7_laysFours_34 : decode cX7_laysFours 34 = .ok (.iadd, 1) := by decide +kernel
theorem dX7_laysFours_35 : decode cX7_laysFours 35 = .ok (.invokevirtual 229, 3) := by decide +kernel
theorem dX7_laysFours_38 : decode cX7_laysFours 38 = .ok (.iconst 0, 1) := by decide +kernel
theorem dX7_laysFours_39 : decode cX7_laysFours 39 = .ok (.istore_n 2, 1) := by decide +kernel
theorem dX7_laysFours_40 : decode cX7_laysFours 40 = .ok (.iload_n 2, 1) := by decide +kernel
theorem dX7_laysFours_41 : decode cX7_laysFours 41 = .ok (.iload_n 1, 1) := by decide +kernel
theorem dX7_laysFours_42 : decode cX7_laysFours 42 = .ok (.iconst 3, 1) := by decide +kernel
theorem dX7_laysFours_43 : decode cX7_laysFours 43 = .ok (.isub, 1) := by decide +kernel
theorem dX7_laysFours_44 : decode cX7_laysFours 44 = .ok (.if_icmp .gt 25, 3) := by decide +kernel
theorem dX7_laysFours_47 : decode cX7_laysFours 47 = .ok (.aload_n 0, 1) := by decide +kernel
theorem dX7_laysFours_48 : decode cX7_laysFours 48 = .ok (.iload_n 1, 1) := by decide +kernel
theorem dX7_laysFours_49 : decode cX7_laysFours 49 = .ok (.iconst 2, 1) := by decide +kernel
theorem dX7_laysFours_50 : decode cX7_laysFours 50 = .ok (.iadd, 1) := by decide +kernel
theorem dX7_laysFours_51 : decode cX7_laysFours 51 = .ok (.iload_n 2, 1) := by decide +kernel
theorem dX7_laysFours_52 : decode cX7_laysFours 52 = .ok (.iadd, 1) := by decide +kernel
theorem dX7_laysFours_53 : decode cX7_laysFours 53 = .ok (.iconst 3, 1) := by decide +kernel
theorem dX7_laysFours_54 : decode cX7_laysFours 54 = .ok (.iload_n 1, 1) := by decide +kernel
theorem dX7_laysFours_55 : decode cX7_laysFours 55 = .ok (.imul, 1) := by decide +kernel
theorem dX7_laysFours_56 : decode cX7_laysFours 56 = .ok (.iconst 1, 1) := by decide +kernel
theorem dX7_laysFours_57 : decode cX7_laysFours 57 = .ok (.isub, 1) := by decide +kernel
theorem dX7_laysFours_58 : decode cX7_laysFours 58 = .ok (.iload_n 2, 1) := by decide +kernel
theorem dX7_laysFours_59 : decode cX7_laysFours 59 = .ok (.isub, 1) := by decide +kernel
theorem dX7_laysFours_60 : decode cX7_laysFours 60 = .ok (.invokevirtual 229, 3) := by decide +kernel
theorem dX7_laysFours_63 : decode cX7_laysFours 63 = .ok (.iinc 2 1, 3) := by decide +kernel
theorem dX7_laysFours_66 : decode cX7_laysFours 66 = .ok (.goto (-26), 3) := by decide +kernel
theorem dX7_laysFours_69 : decode cX7_laysFours 69 = .ok (.iconst 1, 1) := by decide +kernel
theorem dX7_laysFours_70 : decode cX7_laysFours 70 = .ok (.istore_n 2, 1) := by decide +kernel
theorem dX7_laysFours_71 : decode cX7_laysFours 71 = .ok (.iload_n 2, 1) := by decide +kernel
theorem dX7_laysFours_72 : decode cX7_laysFours 72 = .ok (.iload_n 1, 1) := by decide +kernel
theorem dX7_laysFours_73 : decode cX7_laysFours 73 = .ok (.if_icmp .ge 21, 3) := by decide +kernel
theorem dX7_laysFours_76 : decode cX7_laysFours 76 = .ok (.aload_n 0, 1) := by decide +kernel
theorem dX7_laysFours_77 : decode cX7_laysFours 77 = .ok (.iload_n 2, 1) := by decide +kernel
theorem dX7_laysFours_78 : decode cX7_laysFours 78 = .ok (.iconst 4, 1) := by decide +kernel
theorem dX7_laysFours_79 : decode cX7_laysFours 79 = .ok (.iload_n 1, 1) := by decide +kernel
theorem dX7_laysFours_80 : decode cX7_laysFours 80 = .ok (.imul, 1) := by decide +kernel
theorem dX7_laysFours_81 : decode cX7_laysFours 81 = .ok (.iconst 1, 1) := by decide +kernel
theorem dX7_laysFours_82 : decode cX7_laysFours 82 = .ok (.isub, 1) := by decide +kernel
theorem dX7_laysFours_83 : decode cX7_laysFours 83 = .ok (.iload_n 2, 1) := by decide +kernel
theorem dX7_laysFours_84 : decode cX7_laysFours 84 = .ok (.isub, 1) := by decide +kernel
theorem dX7_laysFours_85 : decode cX7_laysFours 85 = .ok (.invokevirtual 229, 3) := by decide +kernel
theorem dX7_laysFours_88 : decode cX7_laysFours 88 = .ok (.iinc 2 1, 3) := by decide +kernel
theorem dX7_laysFours_91 : decode cX7_laysFours 91 = .ok (.goto (-20), 3) := by decide +kernel
theorem dX7_laysFours_94 : decode cX7_laysFours 94 = .ok (.aload_n 0, 1) := by decide +kernel
theorem dX7_laysFours_95 : decode cX7_laysFours 95 = .ok (.iconst 2, 1) := by decide +kernel
theorem dX7_laysFours_96 : decode cX7_laysFours 96 = .ok (.iload_n 1, 1) := by decide +kernel
theorem dX7_laysFours_97 : decode cX7_laysFours 97 = .ok (.imul, 1) := by decide +kernel
theorem dX7_laysFours_98 : decode cX7_laysFours 98 = .ok (.iconst 1, 1) := by decide +kernel
theorem dX7_laysFours_99 : decode cX7_laysFours 99 = .ok (.iadd, 1) := by decide +kernel
theorem dX7_laysFours_100 : decode cX7_laysFours 100 = .ok (.bipush 6, 2) := by decide +kernel
theorem dX7_laysFours_102 : decode cX7_laysFours 102 = .ok (.iload_n 1, 1) := by decide +kernel
theorem dX7_laysFours_103 : decode cX7_laysFours 103 = .ok (.imul, 1) := by decide +kernel
theorem dX7_laysFours_104 : decode cX7_laysFours 104 = .ok (.invokevirtual 229, 3) := by decide +kernel
theorem dX7_laysFours_107 : decode cX7_laysFours 107 = .ok (.aload_n 0, 1) := by decide +kernel
theorem dX7_laysFours_108 : decode cX7_laysFours 108 = .ok (.iconst 2, 1) := by decide +kernel
theorem dX7_laysFours_109 : decode cX7_laysFours 109 = .ok (.iload_n 1, 1) := by decide +kernel
theorem dX7_laysFours_110 : decode cX7_laysFours 110 = .ok (.imul, 1) := by decide +kernel
theorem dX7_laysFours_111 : decode cX7_laysFours 111 = .ok (.iconst 4, 1) := by decide +kernel
theorem dX7_laysFours_112 : decode cX7_laysFours 112 = .ok (.iload_n 1, 1) := by decide +kernel
theorem dX7_laysFours_113 : decode cX7_laysFours 113 = .ok (.imul, 1) := by decide +kernel
theorem dX7_laysFours_114 : decode cX7_laysFours 114 = .ok (.iconst 1, 1) := by decide +kernel
theorem dX7_laysFours_115 : decode cX7_laysFours 115 = .ok (.isub, 1) := by decide +kernel
theorem dX7_laysFours_116 : decode cX7_laysFours 116 = .ok (.invokevirtual 229, 3) := by decide +kernel
theorem dX7_laysFours_119 : decode cX7_laysFours 119 = .ok (.return_, 1) := by decide +kernel
set_option maxRecDepth 20000 in
theorem ggX7_laysOnes_X7_two : GoodIn wsX7_laysOnes wsX7_two := goodIn_r _ [5, 6, 7, 8, 9, 10, 11, 12, 13, 14, 15, 16, 17, 18, 19, 20, 21, 22, 23, 24, 25, 26, 27, 28, 29, 30, 31, 32, 33, 34, 35, 36, 37] (by decide +kernel) (by decide +kernel)
set_option maxRecDepth 20000 in
theorem gX7_laysOnes_X7_two : GoodIn wsX7_laysOnes (wsV RX7 229 RX7 yX7_two wsX7_two) := goodIn_app (goodIn_of _ (by decide +kernel)) ggX7_laysOnes_X7_two
theorem dX7_laysOnes_0 : decode cX7_laysOnes 0 = .ok (.iconst 0, 1) := by decide +kernel
theorem dX7_laysOnes_1 : decode cX7_laysOnes 1 = .ok (.istore_n 2, 1) := by decide +kernel
theorem dX7_laysOnes_2 : decode cX7_laysOnes 2 = .ok (.iload_n 2, 1) := by decide +kernel
theorem dX7_laysOnes_3 : decode cX7_laysOnes 3 = .ok (.iconst 2, 1) := by decide +kernel
theorem dX7_laysOnes_4 : decode cX7_laysOnes 4 = .ok (.iload_n 1, 1) := by decide +kernel
theorem dX7_laysOnes_5 : decode cX7_laysOnes 5 = .ok (.imul, 1) := by decide +kernel
theorem dX7_laysOnes_6 : decode cX7_laysOnes 6 = .ok (.if_icmp .ge 28, 3) := by decide +kernel
theorem dX7_laysOnes_9 : decode cX7_laysOnes 9 = .ok (.aload_n 0, 1) := by decide +kernel
theorem dX7_laysOnes_10 : decode cX7_laysOnes 10 = .ok (.iconst 4, 1) := by decide +kernel
theorem dX7_laysOnes_11 : decode cX7_laysOnes 11 = .ok (.iload_n 1, 1) := by decide +kernel
theorem dX7_laysOnes_12 : decode cX7_laysOnes 12 = .ok (.imul, 1) := by decide +kernel
theorem dX7_laysOnes_13 : decode cX7_laysOnes 13 = .ok (.iconst 2, 1) := by decide +kernel
theorem dX7_laysOnes_14 : decode cX7_laysOnes 14 = .ok (.iadd, 1) := by decide +kernel
theorem dX7_laysOnes_15 : decode cX7_laysOnes 15 = .ok (.iload_n 2, 1) := by decide +kernel
theorem dX7_laysOnes_16 : decode cX7_laysOnes 16 = .ok (.iadd, 1) := by decide +kernel
theorem dX7_laysOnes_17 : decode cX7_laysOnes 17 = .ok (.bipush 8, 2) := by decide +kernel
theorem dX7_laysOnes_19 : decode cX7_laysOnes 19 = .ok (.iload_n 1, 1) := by decide +kernel
theorem dX7_laysOnes_20 : decode cX7_laysOnes 20 = .ok (.imul, 1) := by decide +kernel
theorem dX7_laysOnes_21 : decode cX7_laysOnes 21 = .ok (.iconst 2, 1) := by decide +kernel
theorem dX7_laysOnes_22 : decode cX7_laysOnes 22 = .ok (.iadd, 1) := by decide +kernel
theorem dX7_laysOnes_23 : decode cX7_laysOnes 23 = .ok (.iload_n 2, 1) := by decide +kernel
theorem dX7_laysOnes_24 : decode cX7_laysOnes 24 = .ok (.isub, 1) := by decide +kernel
theorem dX7_laysOnes_25 : decode cX7_laysOnes 25 = .ok (.invokevirtual 229, 3) := by decide +kernel
theorem dX7_laysOnes_28 : decode cX7_laysOnes 28 = .ok (.iinc 2 1, 3) := by decide +kernel
theorem dX7_laysOnes_31 : decode cX7_laysOnes 31 = .ok (.goto (-29), 3) := by decide +kernel
theorem dX7_laysOnes_34 : decode cX7_laysOnes 34 = .ok (.iconst 1, 1) := by decide +kernel
theorem dX7_laysOnes_35 : decode cX7_laysOnes 35 = .ok (.istore_n 2, 1) := by decide +kernel
theorem dX7_laysOnes_36 : decode cX7_laysOnes 36 = .ok (.iload_n 2, 1) := by decide +kernel
theorem dX7_laysOnes_37 : decode cX7_laysOnes 37 = .ok (.iload_n 1, 1) := by decide +kernel
theorem dX7_laysOnes_38 : decode cX7_laysOnes 38 = .ok (.if_icmp .gt 21, 3) := by decide +kernel
theorem dX7_laysOnes_41 : decode cX7_laysOnes 41 = .ok (.aload_n 0, 1) := by decide +kernel
theorem dX7_laysOnes_42 : decode cX7_laysOnes 42 = .ok (.iload_n 2, 1) := by decide +kernel
theorem dX7_laysOnes_43 : decode cX7_laysOnes 43 = .ok (.iconst 4, 1) := by decide +kernel
theorem dX7_laysOnes_44 : decode cX7_laysOnes 44 = .ok (.iload_n 1, 1) := by decide +kernel
theorem dX7_laysOnes_45 : decode cX7_laysOnes 45 = .ok (.imul, 1) := by decide +kernel
theorem dX7_laysOnes_46 : decode cX7_laysOnes 46 = .ok (.iconst 1, 1) := by decide +kernel
theorem dX7_laysOnes_47 : decode cX7_laysOnes 47 = .ok (.iadd, 1) := by decide +kernel
theorem dX7_laysOnes_48 : decode cX7_laysOnes 48 = .ok (.iload_n 2, 1) := by decide +kernel
theorem dX7_laysOnes_49 : decode cX7_laysOnes 49 = .ok (.isub, 1) := by decide +kernel
theorem dX7_laysOnes_50 : decode cX7_laysOnes 50 = .ok (.invokevirtual 229, 3) := by decide +kernel
theorem dX7_laysOnes_53 : decode cX7_laysOnes 53 = .ok (.iinc 2 1, 3) := by decide +kernel
theorem dX7_laysOnes_56 : decode cX7_laysOnes 56 = .ok (.goto (-20), 3) := by decide +kernel
theorem dX7_laysOnes_59 : decode cX7_laysOnes 59 = .ok (.aload_n 0, 1) := by decide +kernel
theorem dX7_laysOnes_60 : decode cX7_laysOnes 60 = .ok (.iconst 2, 1) := by decide +kernel
theorem dX7_laysOnes_61 : decode cX7_laysOnes 61 = .ok (.iload_n 1, 1) := by decide +kernel
theorem dX7_laysOnes_62 : decode cX7_laysOnes 62 = .ok (.imul, 1) := by decide +kernel
theorem dX7_laysOnes_63 : decode cX7_laysOnes 63 = .ok (.iconst 1, 1) := by decide +kernel
theorem dX7_laysOnes_64 : decode cX7_laysOnes 64 = .ok (.iadd, 1) := by decide +kernel
theorem dX7_laysOnes_65 : decode cX7_laysOnes 65 = .ok (.bipush 6, 2) := by decide +kernel
theorem dX7_laysOnes_67 : decode cX7_laysOnes 67 = .ok (.iload_n 1, 1) := by decide +kernel
theorem dX7_laysOnes_68 : decode cX7_laysOnes 68 = .ok (.imul, 1) := by decide +kernel
theorem dX7_laysOnes_69 : decode cX7_laysOnes 69 = .ok (.iconst 2, 1) := by decide +kernel
theorem dX7_laysOnes_70 : decode cX7_laysOnes 70 = .ok (.iadd, 1) := by decide +kernel
theorem dX7_laysOnes_71 : decode cX7_laysOnes 71 = .ok (.invokevirtual 229, 3) := by decide +kernel
theorem dX7_laysOnes_74 : decode cX7_laysOnes 74 = .ok (.aload_n 0, 1) := by decide +kernel
theorem dX7_laysOnes_75 : decode cX7_laysOnes 75 = .ok (.iconst 2, 1) := by decide +kernel
theorem dX7_laysOnes_76 : decode cX7_laysOnes 76 = .ok (.iload_n 1, 1) := by decide +kernel
theorem dX7_laysOnes_77 : decode cX7_laysOnes 77 = .ok (.imul, 1) := by decide +kernel
theorem dX7_laysOnes_78 : decode cX7_laysOnes 78 = .ok (.iconst 2, 1) := by decide +kernel
theorem dX7_laysOnes_79 : decode cX7_laysOnes 79 = .ok (.iadd, 1) := by decide +kernel
theorem dX7_laysOnes_80 : decode cX7_laysOnes 80 = .ok (.iconst 4, 1) := by decide +kernel
theorem dX7_laysOnes_81 : decode cX7_laysOnes 81 = .ok (.iload_n 1, 1) := by decide +kernel
theorem dX7_laysOnes_82 : decode cX7_laysOnes 82 = .ok (.imul, 1) := by decide +kernel
theorem dX7_laysOnes_83 : decode cX7_laysOnes 83 = .ok (.iconst 1, 1) := by decide +kernel
theorem dX7_laysOnes_84 : decode cX7_laysOnes 84 = .ok (.iadd, 1) := by decide +kernel
theorem dX7_laysOnes_85 : decode cX7_laysOnes 85 = .ok (.invokevirtual 229, 3) := by decide +kernel
theorem dX7_laysOnes_88 : decode cX7_laysOnes 88 = .ok (.aload_n 0, 1) := by decide +kernel
theorem dX7_laysOnes_89 : decode cX7_laysOnes 89 = .ok (.iload_n 1, 1) := by decide +kernel
theorem dX7_laysOnes_90 : decode cX7_laysOnes 90 = .ok (.iconst 1, 1) := by decide +kernel
theorem dX7_laysOnes_91 : decode cX7_laysOnes 91 = .ok (.iadd, 1) := by decide +kernel
theorem dX7_laysOnes_92 : decode cX7_laysOnes 92 = .ok (.iload_n 1, 1) := by decide +kernel
theorem dX7_laysOnes_93 : decode cX7_laysOnes 93 = .ok (.iconst 2, 1) := by decide +kernel
theorem dX7_laysOnes_94 : decode cX7_laysOnes 94 = .ok (.iadd, 1) := by decide +kernel
theorem dX7_laysOnes_95 : decode cX7_laysOnes 95 = .ok (.invokevirtual 229, 3) := by decide +kernel
theorem dX7_laysOnes_98 : decode cX7_laysOnes 98 = .ok (.iconst 1, 1) := by decide +kernel
theorem dX7_laysOnes_99 : decode cX7_laysOnes 99 = .ok (.istore_n 2, 1) := by decide +kernel
theorem dX7_laysOnes_100 : decode cX7_laysOnes 100 = .ok (.iload_n 2, 1) := by decide +kernel
theorem dX7_laysOnes_101 : decode cX7_laysOnes 101 = .ok (.iload_n 1, 1) := by decide +kernel
theorem dX7_laysOnes_102 : decode cX7_laysOnes 102 = .ok (.iconst 2, 1) := by decide +kernel
theorem dX7_laysOnes_103 : decode cX7_laysOnes 103 = .ok (.isub, 1) := by decide +kernel
theorem dX7_laysOnes_104 : decode cX7_laysOnes 104 = .ok (.if_icmp .gt 25, 3) := by decide +kernel
theorem dX7_laysOnes_107 : decode cX7_laysOnes 107 = .ok (.aload_n 0, 1) := by decide +kernel
theorem dX7_laysOnes_108 : decode cX7_laysOnes 108 = .ok (.iload_n 1, 1) := by decide +kernel
theorem dX7_laysOnes_109 : decode cX7_laysOnes 109 = .ok (.iconst 2, 1) := by decide +kernel
theorem dX7_laysOnes_110 : decode cX7_laysOnes 110 = .ok (.iadd, 1) := by decide +kernel
theorem dX7_laysOnes_111 : decode cX7_laysOnes 111 = .ok (.iload_n 2, 1) := by decide +kernel
theorem dX7_laysOnes_112 : decode cX7_laysOnes 112 = .ok (.iadd, 1) := by decide +kernel
theorem dX7_laysOnes_113 : decode cX7_laysOnes 113 = .ok (.iconst 3, 1) := by decide +kernel
theorem dX7_laysOnes_114 : decode cX7_laysOnes 114 = .ok (.iload_n 1, 1) := by decide +kernel
theorem dX7_laysOnes_115 : decode cX7_laysOnes 115 = .ok (.imul, 1) := by decide +kernel
theorem dX7_laysOnes_116 : decode cX7_laysOnes 116 = .ok (.iconst 1, 1) := by decide +kernel
theorem dX7_laysOnes_117 : decode cX7_laysOnes 117 = .ok (.iadd, 1) := by decide +kernel
theorem dX7_laysOnes_118 : decode cX7_laysOnes 118 = .ok (.iload_n 2, 1) := by decide +kernel
theorem dX7_laysOnes_119 : decode cX7_laysOnes 119 = .ok (.isub, 1) := by decide +kernel
theorem dX7_laysOnes_120 : decode cX7_laysOnes 120 = .ok (.invokevirtual 229, 3) := by decide +kernel
theorem dX7_laysOnes_123 : decode cX7_laysOnes 123 = .ok (.iinc 2 1, 3) := by decide +kernel
theorem dX7_laysOnes_126 : decode cX7_laysOnes 126 = .ok (.goto (-26), 3) := by decide +kernel
theorem dX7_laysOnes_129 : decode cX7_laysOnes 129 = .ok (.return_, 1) := by decide +kernel
set_option maxRecDepth 20000 in
theorem ggX7_laysTwos_X7_two : GoodIn wsX7_laysTwos wsX7_two := goodIn_r _ [5, 6, 7, 8, 9, 10, 11, 12, 13, 14, 15, 16, 17, 18, 19, 20, 21, 22, 23, 24, 25, 26, 27, 28, 29, 30, 31, 32, 33, 34, 35, 36, 37] (by decide +kernel) (by decide +kernel)
set_option maxRecDepth 20000 in
theorem gX7_laysTwos_X7_two : GoodIn wsX7_laysTwos (wsV RX7 229 RX7 yX7_two wsX7_two) := goodIn_app (goodIn_of _ (by decide +kernel)) ggX7_laysTwos_X7_two
theorem dX7_laysTwos_0 : decode cX7_laysTwos 0 = .ok (.iconst 1, 1) := by decide +kernel
theorem dX7_laysTwos_1 : decode cX7_laysTwos 1 = .ok (.istore_n 2, 1) := by decide +kernel
theorem dX7_laysTwos_2 : decode cX7_laysTwos 2 = .ok (.iload_n 2, 1) := by decide +kernel
theorem dX7_laysTwos_3 : decode cX7_laysTwos 3 = .ok (.iconst 2, 1) := by decide +kernel
theorem dX7_laysTwos_4 : decode cX7_laysTwos 4 = .ok (.iload_n 1, 1) := by decide +kernel
theorem dX7_laysTwos_5 : decode cX7_laysTwos 5 = .ok (.imul, 1) := by decide +kernel
theorem dX7_laysTwos_6 : decode cX7_laysTwos 6 = .ok (.if_icmp .gt 21, 3) := by decide +kernel
theorem dX7_laysTwos_9 : decode cX7_laysTwos 9 = .ok (.aload_n 0, 1) := by decide +kernel
theorem dX7_laysTwos_10 : decode cX7_laysTwos 10 = .ok (.iload_n 2, 1) := by decide +kernel
theorem dX7_laysTwos_11 : decode cX7_laysTwos 11 = .ok (.iconst 4, 1) := by decide +kernel
theorem dX7_laysTwos_12 : decode cX7_laysTwos 12 = .ok (.iload_n 1, 1) := by decide +kernel
theorem dX7_laysTwos_13 : decode cX7_laysTwos 13 = .ok (.imul, 1) := by decide +kernel
theorem dX7_laysTwos_14 : decode cX7_laysTwos 14 = .ok (.iconst 2, 1) := by decide +kernel
theorem dX7_laysTwos_15 : decode cX7_laysTwos 15 = .ok (.iadd, 1) := by decide +kernel
theorem dX7_laysTwos_16 : decode cX7_laysTwos 16 = .ok (.iload_n 2, 1) := by decide +kernel
theorem dX7_laysTwos_17 : decode cX7_laysTwos 17 = .ok (.isub, 1) := by decide +kernel
theorem dX7_laysTwos_18 : decode cX7_laysTwos 18 = .ok (.invokevirtual 229, 3) := by decide +kernel
theorem dX7_laysTwos_21 : decode cX7_laysTwos 21 = .ok (.iinc 2 1, 3) := by decide +kernel
theorem dX7_laysTwos_24 : decode cX7_laysTwos 24 = .ok (.goto (-22), 3) := by decide +kernel
theorem dX7_laysTwos_27 : decode cX7_laysTwos 27 = .ok (.aload_n 0, 1) := by decide +kernel
theorem dX7_laysTwos_28 : decode cX7_laysTwos 28 = .ok (.iconst 2, 1) := by decide +kernel
theorem dX7_laysTwos_29 : decode cX7_laysTwos 29 = .ok (.iload_n 1, 1) := by decide +kernel
theorem dX7_laysTwos_30 : decode cX7_laysTwos 30 = .ok (.imul, 1) := by decide +kernel
theorem dX7_laysTwos_31 : decode cX7_laysTwos 31 = .ok (.iconst 1, 1) := by decide +kernel
theorem dX7_laysTwos_32 : decode cX7_laysTwos 32 = .ok (.iadd, 1) := by decide +kernel
theorem dX7_laysTwos_33 : decode cX7_laysTwos 33 = .ok (.bipush 6, 2) := by decide +kernel
theorem dX7_laysTwos_35 : decode cX7_laysTwos 35 = .ok (.iload_n 1, 1) := by decide +kernel
theorem dX7_laysTwos_36 : decode cX7_laysTwos 36 = .ok (.imul, 1) := by decide +kernel
theorem dX7_laysTwos_37 : decode cX7_laysTwos 37 = .ok (.iconst 2, 1) := by decide +kernel
theorem dX7_laysTwos_38 : decode cX7_laysTwos 38 = .ok (.iadd, 1) := by decide +kernel
theorem dX7_laysTwos_39 : decode cX7_laysTwos 39 = .ok (.invokevirtual 229, 3) := by decide +kernel
theorem dX7_laysTwos_42 : decode cX7_laysTwos 42 = .ok (.aload_n 0, 1) := by decide +kernel
theorem dX7_laysTwos_43 : decode cX7_laysTwos 43 = .ok (.iconst 4, 1) := by decide +kernel
theorem dX7_laysTwos_44 : decode cX7_laysTwos 44 = .ok (.iload_n 1, 1) := by decide +kernel
theorem dX7_laysTwos_45 : decode cX7_laysTwos 45 = .ok (.imul, 1) := by decide +kernel
theorem dX7_laysTwos_46 : decode cX7_laysTwos 46 = .ok (.iconst 2, 1) := by decide +kernel
theorem dX7_laysTwos_47 : decode cX7_laysTwos 47 = .ok (.iadd, 1) := by decide +kernel
theorem dX7_laysTwos_48 : decode cX7_laysTwos 48 = .ok (.bipush 6, 2) := by decide +kernel
theorem dX7_laysTwos_50 : decode cX7_laysTwos 50 = .ok (.iload_n 1, 1) := by decide +kernel
theorem dX7_laysTwos_51 : decode cX7_laysTwos 51 = .ok (.imul, 1) := by decide +kernel
theorem dX7_laysTwos_52 : decode cX7_laysTwos 52 = .ok (.iconst 3, 1) := by decide +kernel
theorem dX7_laysTwos_53 : decode cX7_laysTwos 53 = .ok (.iadd, 1) := by decide +kernel
theorem dX7_laysTwos_54 : decode cX7_laysTwos 54 = .ok (.invokevirtual 229, 3) := by decide +kernel
theorem dX7_laysTwos_57 : decode cX7_laysTwos 57 = .ok (.aload_n 0, 1) := by decide +kernel
theorem dX7_laysTwos_58 : decode cX7_laysTwos 58 = .ok (.iconst 4, 1) := by decide +kernel
theorem dX7_laysTwos_59 : decode cX7_laysTwos 59 = .ok (.iload_n 1, 1) := by decide +kernel
theorem dX7_laysTwos_60 : decode cX7_laysTwos 60 = .ok (.imul, 1) := by decide +kernel
theorem dX7_laysTwos_61 : decode cX7_laysTwos 61 = .ok (.iconst 3, 1) := by decide +kernel
theorem dX7_laysTwos_62 : decode cX7_laysTwos 62 = .ok (.iadd, 1) := by decide +kernel
theorem dX7_laysTwos_63 : decode cX7_laysTwos 63 = .ok (.bipush 8, 2) := by decide +kernel
theorem dX7_laysTwos_65 : decode cX7_laysTwos 65 = .ok (.iload_n 1, 1) := by decide +kernel
theorem dX7_laysTwos_66 : decode cX7_laysTwos 66 = .ok (.imul, 1) := by decide +kernel
theorem dX7_laysTwos_67 : decode cX7_laysTwos 67 = .ok (.iconst 5, 1) := by decide +kernel
theorem dX7_laysTwos_68 : decode cX7_laysTwos 68 = .ok (.iadd, 1) := by decide +kernel
theorem dX7_laysTwos_69 : decode cX7_laysTwos 69 = .ok (.invokevirtual 229, 3) := by decide +kernel
theorem dX7_laysTwos_72 : decode cX7_laysTwos 72 = .ok (.iconst 1, 1) := by decide +kernel
theorem dX7_laysTwos_73 : decode cX7_laysTwos 73 = .ok (.istore_n 2, 1) := by decide +kernel
theorem dX7_laysTwos_74 : decode cX7_laysTwos 74 = .ok (.iload_n 2, 1) := by decide +kernel
theorem dX7_laysTwos_75 : decode cX7_laysTwos 75 = .ok (.iload_n 1, 1) := by decide +kernel
theorem dX7_laysTwos_76 : decode cX7_laysTwos 76 = .ok (.if_icmp .ge 47, 3) := by decide +kernel
theorem dX7_laysTwos_79 : decode cX7_laysTwos 79 = .ok (.aload_n 0, 1) := by decide +kernel
theorem dX7_laysTwos_80 : decode cX7_laysTwos 80 = .ok (.iconst 4, 1) := by decide +kernel
theorem dX7_laysTwos_81 : decode cX7_laysTwos 81 = .ok (.iload_n 1, 1) := by decide +kernel
theorem dX7_laysTwos_82 : decode cX7_laysTwos 82 = .ok (.imul, 1) := by decide +kernel
theorem dX7_laysTwos_83 : decode cX7_laysTwos 83 = .ok (.iconst 3, 1) := by decide +kernel
theorem dX7_laysTwos_84 : decode cX7_laysTwos 84 = .ok (.iadd, 1) := by decide +kernel
theorem dX7_laysTwos_85 : decode cX7_laysTwos 85 = .ok (.iload_n 2, 1) := by decide +kernel
theorem dX7_laysTwos_86 : decode cX7_laysTwos 86 = .ok (.iadd, 1) := by decide +kernel
theorem dX7_laysTwos_87 : decode cX7_laysTwos 87 = .ok (.bipush 8, 2) := by decide +kernel
theorem dX7_laysTwos_89 : decode cX7_laysTwos 89 = .ok (.iload_n 1, 1) := by decide +kernel
theorem dX7_laysTwos_90 : decode cX7_laysTwos 90 = .ok (.imul, 1) := by decide +kernel
theorem dX7_laysTwos_91 : decode cX7_laysTwos 91 = .ok (.iconst 4, 1) := by decide +kernel
theorem dX7_laysTwos_92 : decode cX7_laysTwos 92 = .ok (.iadd, 1) := by decide +kernel
theorem dX7_laysTwos_93 : decode cX7_laysTwos 93 = .ok (.iload_n 2, 1) := by decide +kernel
theorem dX7_laysTwos_94 : decode cX7_laysTwos 94 = .ok (.isub, 1) := by decide +kernel
theorem dX7_laysTwos_95 : decode cX7_laysTwos 95 = .ok (.invokevirtual 229, 3) := by decide +kernel
theorem dX7_laysTwos_98 : decode cX7_laysTwos 98 = .ok (.aload_n 0, 1) := by decide +kernel
theorem dX7_laysTwos_99 : decode cX7_laysTwos 99 = .ok (.iconst 5, 1) := by decide +kernel
theorem dX7_laysTwos_100 : decode cX7_laysTwos 100 = .ok (.iload_n 1, 1) := by decide +kernel
theorem dX7_laysTwos_101 : decode cX7_laysTwos 101 = .ok (.imul, 1) := by decide +kernel
theorem dX7_laysTwos_102 : decode cX7_laysTwos 102 = .ok (.iconst 2, 1) := by decide +kernel
theorem dX7_laysTwos_103 : decode cX7_laysTwos 103 = .ok (.iadd, 1) := by decide +kernel
theorem dX7_laysTwos_104 : decode cX7_laysTwos 104 = .ok (.iload_n 2, 1) := by decide +kernel
theorem dX7_laysTwos_105 : decode cX7_laysTwos 105 = .ok (.iadd, 1) := by decide +kernel
theorem dX7_laysTwos_106 : decode cX7_laysTwos 106 = .ok (.bipush 7, 2) := by decide +kernel
theorem dX7_laysTwos_108 : decode cX7_laysTwos 108 = .ok (.iload_n 1, 1) := by decide +kernel
theorem dX7_laysTwos_109 : decode cX7_laysTwos 109 = .ok (.imul, 1) := by decide +kernel
theorem dX7_laysTwos_110 : decode cX7_laysTwos 110 = .ok (.iconst 3, 1) := by decide +kernel
theorem dX7_laysTwos_111 : decode cX7_laysTwos 111 = .ok (.iadd, 1) := by decide +kernel
theorem dX7_laysTwos_112 : decode cX7_laysTwos 112 = .ok (.iload_n 2, 1) := by decide +kernel
theorem dX7_laysTwos_113 : decode cX7_laysTwos 113 = .ok (.isub, 1) := by decide +kernel
theorem dX7_laysTwos_114 : decode cX7_laysTwos 114 = .ok (.invokevirtual 229, 3) := by decide +kernel
theorem dX7_laysTwos_117 : decode cX7_laysTwos 117 = .ok (.iinc 2 1, 3) := by decide +kernel
theorem dX7_laysTwos_120 : decode cX7_laysTwos 120 = .ok (.goto (-46), 3) := by decide +kernel
theorem dX7_laysTwos_123 : decode cX7_laysTwos 123 = .ok (.aload_n 0, 1) := by decide +kernel
theorem dX7_laysTwos_124 : decode cX7_laysTwos 124 = .ok (.bipush 7, 2) := by decide +kernel
theorem dX7_laysTwos_126 : decode cX7_laysTwos 126 = .ok (.iload_n 1, 1) := by decide +kernel
theorem dX7_laysTwos_127 : decode cX7_laysTwos 127 = .ok (.imul, 1) := by decide +kernel
theorem dX7_laysTwos_128 : decode cX7_laysTwos 128 = .ok (.iconst 3, 1) := by decide +kernel
theorem dX7_laysTwos_129 : decode cX7_laysTwos 129 = .ok (.iadd, 1) := by decide +kernel
theorem dX7_laysTwos_130 : decode cX7_laysTwos 130 = .ok (.bipush 7, 2) := by decide +kernel
theorem dX7_laysTwos_132 : decode cX7_laysTwos 132 = .ok (.iload_n 1, 1) := by decide +kernel
theorem dX7_laysTwos_133 : decode cX7_laysTwos 133 = .ok (.imul, 1) := by decide +kernel
theorem dX7_laysTwos_134 : decode cX7_laysTwos 134 = .ok (.iconst 4, 1) := by decide +kernel
theorem dX7_laysTwos_135 : decode cX7_laysTwos 135 = .ok (.iadd, 1) := by decide +kernel
theorem dX7_laysTwos_136 : decode cX7_laysTwos 136 = .ok (.invokevirtual 229, 3) := by decide +kernel
theorem dX7_laysTwos_139 : decode cX7_laysTwos 139 = .ok (.return_, 1) := by decide +kernel
set_option maxRecDepth 20000 in
theorem ggX7_made_X7_isIn : GoodIn wsX7_made wsX7_isIn := goodIn_r _ [7] (by decide +kernel) (by decide +kernel)
set_option maxRecDepth 20000 in
theorem gX7_made_X7_isIn : GoodIn wsX7_made (va_wsS RX7 69 yX7_isIn wsX7_isIn) := goodIn_app (goodIn_of _ (by decide +kernel)) ggX7_made_X7_isIn
set_option maxRecDepth 20000 in
theorem ggX7_made_X7_laysFours : GoodIn wsX7_made wsX7_laysFours := goodIn_r _ [11, 12, 13, 14, 6, 15, 2, 29, 30, 31, 32, 33, 34, 35, 36, 37, 38, 39, 40, 41, 42, 43, 44, 45, 46, 47, 48, 49, 50, 51, 52, 53, 54, 55, 56, 57, 58, 59] (by decide +kernel) (by decide +kernel)
set_option maxRecDepth 20000 in
theorem gX7_made_X7_laysFours : GoodIn wsX7_made (wsV RX7 233 RX7 yX7_laysFours wsX7_laysFours) := goodIn_app (goodIn_of _ (by decide +kernel)) ggX7_made_X7_laysFours
set_option maxRecDepth 20000 in
theorem ggX7_made_X7_laysOnes : GoodIn wsX7_made wsX7_laysOnes := goodIn_r _ [19, 12, 13, 14, 6, 15, 2, 29, 30, 31, 32, 33, 34, 35, 36, 37, 38, 39, 40, 41, 42, 43, 44, 45, 46, 47, 48, 49, 50, 51, 52, 53, 54, 55, 56, 57, 58, 59] (by decide +kernel) (by decide +kernel)
set_option maxRecDepth 20000 in
theorem gX7_made_X7_laysOnes : GoodIn wsX7_made (wsV RX7 236 RX7 yX7_laysOnes wsX7_laysOnes) := goodIn_app (goodIn_of _ (by decide +kernel)) ggX7_made_X7_laysOnes
set_option maxRecDepth 20000 in
theorem ggX7_made_X7_laysTwos : GoodIn wsX7_made wsX7_laysTwos := goodIn_r _ [23, 12, 13, 14, 6, 15, 2, 29, 30, 31, 32, 33, 34, 35, 36, 37, 38, 39, 40, 41, 42, 43, 44, 45, 46, 47, 48, 49, 50, 51, 52, 53, 54, 55, 56, 57, 58, 59] (by decide +kernel) (by decide +kernel)
set_option maxRecDepth 20000 in
theorem gX7_made_X7_laysTwos : GoodIn wsX7_made (wsV RX7 239 RX7 yX7_laysTwos wsX7_laysTwos) := goodIn_app (goodIn_of _ (by decide +kernel)) ggX7_made_X7_laysTwos
set_option maxRecDepth 20000 in
theorem ggX7_made_X7_looks : GoodIn wsX7_made wsX7_looks := goodIn_r _ [27, 3, 28, 29, 30, 31, 32, 33, 34, 35, 36, 37, 38, 39, 40, 41, 42, 43, 44, 45, 46, 47, 48, 49, 50, 51, 52, 53, 54, 55, 56, 57, 58, 59] (by decide +kernel) (by decide +kernel)
set_option maxRecDepth 20000 in
theorem gX7_made_X7_looks : GoodIn wsX7_made (wsV RX7 219 RX7 yX7_looks wsX7_looks) := goodIn_app (goodIn_of _ (by decide +kernel)) ggX7_made_X7_looks
theorem dX7_made_0 : decode cX7_made 0 = .ok (.aload_n 0, 1) := by decide +kernel
theorem dX7_made_1 : decode cX7_made 1 = .ok (.iconst 0, 1) := by decide +kernel
theorem dX7_made_2 : decode cX7_made 2 = .ok (.putfield 1, 3) := by decide +kernel
theorem dX7_made_5 : decode cX7_made 5 = .ok (.iload_n 1, 1) := by decide +kernel
theorem dX7_made_6 : decode cX7_made 6 = .ok (.bipush 6, 2) := by decide +kernel
theorem dX7_made_8 : decode cX7_made 8 = .ok (.if_icmp .eq 14, 3) := by decide +kernel
theorem dX7_made_11 : decode cX7_made 11 = .ok (.iload_n 1, 1) := by decide +kernel
theorem dX7_made_12 : decode cX7_made 12 = .ok (.bipush 8, 2) := by decide +kernel
theorem dX7_made_14 : decode cX7_made 14 = .ok (.bipush 60, 2) := by decide +kernel
theorem dX7_made_16 : decode cX7_made 16 = .ok (.invokestatic 69, 3) := by decide +kernel
theorem dX7_made_19 : decode cX7_made 19 = .ok (.ifCond .eq 10, 3) := by decide +kernel
theorem dX7_made_22 : decode cX7_made 22 = .ok (.iload_n 1, 1) := by decide +kernel
theorem dX7_made_23 : decode cX7_made 23 = .ok (.iconst 4, 1) := by decide +kernel
theorem dX7_made_24 : decode cX7_made 24 = .ok (.irem, 1) := by decide +kernel
theorem dX7_made_25 : decode cX7_made 25 = .ok (.iconst 3, 1) := by decide +kernel
theorem dX7_made_26 : decode cX7_made 26 = .ok (.if_icmp .ne 5, 3) := by decide +kernel
theorem dX7_made_29 : decode cX7_made 29 = .ok (.iconst (-1), 1) := by decide +kernel
theorem dX7_made_30 : decode cX7_made 30 = .ok (.ireturn, 1) := by decide +kernel
theorem dX7_made_31 : decode cX7_made 31 = .ok (.iconst 0, 1) := by decide +kernel
theorem dX7_made_32 : decode cX7_made 32 = .ok (.istore_n 2, 1) := by decide +kernel
theorem dX7_made_33 : decode cX7_made 33 = .ok (.iload_n 2, 1) := by decide +kernel
theorem dX7_made_34 : decode cX7_made 34 = .ok (.bipush 121, 2) := by decide +kernel
theorem dX7_made_36 : decode cX7_made 36 = .ok (.if_icmp .ge 16, 3) := by decide +kernel
theorem dX7_made_39 : decode cX7_made 39 = .ok (.aload_n 0, 1) := by decide +kernel
theorem dX7_made_40 : decode cX7_made 40 = .ok (.getfield 122, 3) := by decide +kernel
theorem dX7_made_43 : decode cX7_made 43 = .ok (.iload_n 2, 1) := by decide +kernel
theorem dX7_made_44 : decode cX7_made 44 = .ok (.iconst 0, 1) := by decide +kernel
theorem dX7_made_45 : decode cX7_made 45 = .ok (.iastore, 1) := by decide +kernel
theorem dX7_made_46 : decode cX7_made 46 = .ok (.iinc 2 1, 3) := by decide +kernel
theorem dX7_made_49 : decode cX7_made 49 = .ok (.goto (-16), 3) := by decide +kernel
theorem dX7_made_52 : decode cX7_made 52 = .ok (.iload_n 1, 1) := by decide +kernel
theorem dX7_made_53 : decode cX7_made 53 = .ok (.iconst 4, 1) := by decide +kernel
theorem dX7_made_54 : decode cX7_made 54 = .ok (.irem, 1) := by decide +kernel
theorem dX7_made_55 : decode cX7_made 55 = .ok (.ifCond .ne 10, 3) := by decide +kernel
theorem dX7_made_58 : decode cX7_made 58 = .ok (.aload_n 0, 1) := by decide +kernel
theorem dX7_made_59 : decode cX7_made 59 = .ok (.iload_n 1, 1) := by decide +kernel
theorem dX7_made_60 : decode cX7_made 60 = .ok (.iconst 4, 1) := by decide +kernel
theorem dX7_made_61 : decode cX7_made 61 = .ok (.idiv, 1) := by decide +kernel
theorem dX7_made_62 : decode cX7_made 62 = .ok (.invokevirtual 233, 3) := by decide +kernel
theorem dX7_made_65 : decode cX7_made 65 = .ok (.iload_n 1, 1) := by decide +kernel
theorem dX7_made_66 : decode cX7_made 66 = .ok (.iconst 4, 1) := by decide +kernel
theorem dX7_made_67 : decode cX7_made 67 = .ok (.irem, 1) := by decide +kernel
theorem dX7_made_68 : decode cX7_made 68 = .ok (.iconst 1, 1) := by decide +kernel
theorem dX7_made_69 : decode cX7_made 69 = .ok (.if_icmp .ne 10, 3) := by decide +kernel
theorem dX7_made_72 : decode cX7_made 72 = .ok (.aload_n 0, 1) := by decide +kernel
theorem dX7_made_73 : decode cX7_made 73 = .ok (.iload_n 1, 1) := by decide +kernel
theorem dX7_made_74 : decode cX7_made 74 = .ok (.iconst 4, 1) := by decide +kernel
theorem dX7_made_75 : decode cX7_made 75 = .ok (.idiv, 1) := by decide +kernel
theorem dX7_made_76 : decode cX7_made 76 = .ok (.invokevirtual 236, 3) := by decide +kernel
theorem dX7_made_79 : decode cX7_made 79 = .ok (.iload_n 1, 1) := by decide +kernel
theorem dX7_made_80 : decode cX7_made 80 = .ok (.iconst 4, 1) := by decide +kernel
theorem dX7_made_81 : decode cX7_made 81 = .ok (.irem, 1) := by decide +kernel
theorem dX7_made_82 : decode cX7_made 82 = .ok (.iconst 2, 1) := by decide +kernel
theorem dX7_made_83 : decode cX7_made 83 = .ok (.if_icmp .ne 10, 3) := by decide +kernel
theorem dX7_made_86 : decode cX7_made 86 = .ok (.aload_n 0, 1) := by decide +kernel
theorem dX7_made_87 : decode cX7_made 87 = .ok (.iload_n 1, 1) := by decide +kernel
theorem dX7_made_88 : decode cX7_made 88 = .ok (.iconst 4, 1) := by decide +kernel
theorem dX7_made_89 : decode cX7_made 89 = .ok (.idiv, 1) := by decide +kernel
theorem dX7_made_90 : decode cX7_made 90 = .ok (.invokevirtual 239, 3) := by decide +kernel
theorem dX7_made_93 : decode cX7_made 93 = .ok (.aload_n 0, 1) := by decide +kernel
theorem dX7_made_94 : decode cX7_made 94 = .ok (.aload_n 0, 1) := by decide +kernel
theorem dX7_made_95 : decode cX7_made 95 = .ok (.getfield 122, 3) := by decide +kernel
theorem dX7_made_98 : decode cX7_made 98 = .ok (.iload_n 1, 1) := by decide +kernel
theorem dX7_made_99 : decode cX7_made 99 = .ok (.iconst 4, 1) := by decide +kernel
theorem dX7_made_100 : decode cX7_made 100 = .ok (.irem, 1) := by decide +kernel
theorem dX7_made_101 : decode cX7_made 101 = .ok (.iconst 2, 1) := by decide +kernel
theorem dX7_made_102 : decode cX7_made 102 = .ok (.if_icmp .ne 11, 3) := by decide +kernel
theorem dX7_made_105 : decode cX7_made 105 = .ok (.iconst 2, 1) := by decide +kernel
theorem dX7_made_106 : decode cX7_made 106 = .ok (.iload_n 1, 1) := by decide +kernel
theorem dX7_made_107 : decode cX7_made 107 = .ok (.imul, 1) := by decide +kernel
theorem dX7_made_108 : decode cX7_made 108 = .ok (.iconst 1, 1) := by decide +kernel
theorem dX7_made_109 : decode cX7_made 109 = .ok (.iadd, 1) := by decide +kernel
theorem dX7_made_110 : decode cX7_made 110 = .ok (.goto 6, 3) := by decide +kernel
theorem dX7_made_113 : decode cX7_made 113 = .ok (.iconst 2, 1) := by decide +kernel
theorem dX7_made_114 : decode cX7_made 114 = .ok (.iload_n 1, 1) := by decide +kernel
theorem dX7_made_115 : decode cX7_made 115 = .ok (.imul, 1) := by decide +kernel
theorem dX7_made_116 : decode cX7_made 116 = .ok (.invokevirtual 219, 3) := by decide +kernel
theorem dX7_made_119 : decode cX7_made 119 = .ok (.aload_n 0, 1) := by decide +kernel
theorem dX7_made_120 : decode cX7_made 120 = .ok (.getfield 119, 3) := by decide +kernel
theorem dX7_made_123 : decode cX7_made 123 = .ok (.ireturn, 1) := by decide +kernel
set_option maxRecDepth 20000 in
theorem ggX7_orderOf_X7_firstOf : GoodIn wsX7_orderOf wsX7_firstOf := goodIn_r _ [7, 1, 2, 8, 9, 10, 11, 12, 13, 14, 15, 16, 17, 18, 19, 20, 21, 22, 23, 24, 25, 26, 27, 28, 29, 30, 31, 32, 33, 34, 35, 36, 37, 38] (by decide +kernel) (by decide +kernel)
set_option maxRecDepth 20000 in
theorem gX7_orderOf_X7_firstOf : GoodIn wsX7_orderOf (wsV RX7 223 RX7 yX7_firstOf wsX7_firstOf) := goodIn_app (goodIn_of _ (by decide +kernel)) ggX7_orderOf_X7_firstOf
theorem dX7_orderOf_0 : decode cX7_orderOf 0 = .ok (.iconst 0, 1) := by decide +kernel
theorem dX7_orderOf_1 : decode cX7_orderOf 1 = .ok (.istore_n 1, 1) := by decide +kernel
theorem dX7_orderOf_2 : decode cX7_orderOf 2 = .ok (.iconst 0, 1) := by decide +kernel
theorem dX7_orderOf_3 : decode cX7_orderOf 3 = .ok (.istore_n 2, 1) := by decide +kernel
theorem dX7_orderOf_4 : decode cX7_orderOf 4 = .ok (.iconst 0, 1) := by decide +kernel
theorem dX7_orderOf_5 : decode cX7_orderOf 5 = .ok (.istore_n 3, 1) := by decide +kernel
theorem dX7_orderOf_6 : decode cX7_orderOf 6 = .ok (.iload_n 3, 1) := by decide +kernel
theorem dX7_orderOf_7 : decode cX7_orderOf 7 = .ok (.aload_n 0, 1) := by decide +kernel
theorem dX7_orderOf_8 : decode cX7_orderOf 8 = .ok (.getfield 119, 3) := by decide +kernel
theorem dX7_orderOf_11 : decode cX7_orderOf 11 = .ok (.if_icmp .ge 28, 3) := by decide +kernel
theorem dX7_orderOf_14 : decode cX7_orderOf 14 = .ok (.aload_n 0, 1) := by decide +kernel
theorem dX7_orderOf_15 : decode cX7_orderOf 15 = .ok (.getfield 116, 3) := by decide +kernel
theorem dX7_orderOf_18 : decode cX7_orderOf 18 = .ok (.iload_n 3, 1) := by decide +kernel
theorem dX7_orderOf_19 : decode cX7_orderOf 19 = .ok (.iaload, 1) := by decide +kernel
theorem dX7_orderOf_20 : decode cX7_orderOf 20 = .ok (.ifCond .ne 6, 3) := by decide +kernel
theorem dX7_orderOf_23 : decode cX7_orderOf 23 = .ok (.goto 10, 3) := by decide +kernel
theorem dX7_orderOf_26 : decode cX7_orderOf 26 = .ok (.iinc 1 1, 3) := by decide +kernel
theorem dX7_orderOf_29 : decode cX7_orderOf 29 = .ok (.iload_n 3, 1) := by decide +kernel
theorem dX7_orderOf_30 : decode cX7_orderOf 30 = .ok (.iconst 1, 1) := by decide +kernel
theorem dX7_orderOf_31 : decode cX7_orderOf 31 = .ok (.iadd, 1) := by decide +kernel
theorem dX7_orderOf_32 : decode cX7_orderOf 32 = .ok (.istore_n 2, 1) := by decide +kernel
theorem dX7_orderOf_33 : decode cX7_orderOf 33 = .ok (.iinc 3 1, 3) := by decide +kernel
theorem dX7_orderOf_36 : decode cX7_orderOf 36 = .ok (.goto (-30), 3) := by decide +kernel
theorem dX7_orderOf_39 : decode cX7_orderOf 39 = .ok (.iload_n 1, 1) := by decide +kernel
theorem dX7_orderOf_40 : decode cX7_orderOf 40 = .ok (.iconst 2, 1) := by decide +kernel
theorem dX7_orderOf_41 : decode cX7_orderOf 41 = .ok (.idiv, 1) := by decide +kernel
theorem dX7_orderOf_42 : decode cX7_orderOf 42 = .ok (.istore_n 3, 1) := by decide +kernel
theorem dX7_orderOf_43 : decode cX7_orderOf 43 = .ok (.iload_n 2, 1) := by decide +kernel
theorem dX7_orderOf_44 : decode cX7_orderOf 44 = .ok (.iload_n 1, 1) := by decide +kernel
theorem dX7_orderOf_45 : decode cX7_orderOf 45 = .ok (.if_icmp .eq 23, 3) := by decide +kernel
theorem dX7_orderOf_48 : decode cX7_orderOf 48 = .ok (.iload_n 2, 1) := by decide +kernel
theorem dX7_orderOf_49 : decode cX7_orderOf 49 = .ok (.iload_n 1, 1) := by decide +kernel
theorem dX7_orderOf_50 : decode cX7_orderOf 50 = .ok (.iconst 1, 1) := by decide +kernel
theorem dX7_orderOf_51 : decode cX7_orderOf 51 = .ok (.iadd, 1) := by decide +kernel
theorem dX7_orderOf_52 : decode cX7_orderOf 52 = .ok (.if_icmp .ne 14, 3) := by decide +kernel
theorem dX7_orderOf_55 : decode cX7_orderOf 55 = .ok (.aload_n 0, 1) := by decide +kernel
theorem dX7_orderOf_56 : decode cX7_orderOf 56 = .ok (.getfield 116, 3) := by decide +kernel
theorem dX7_orderOf_59 : decode cX7_orderOf 59 = .ok (.iload_n 1, 1) := by decide +kernel
theorem dX7_orderOf_60 : decode cX7_orderOf 60 = .ok (.iconst 1, 1) := by decide +kernel
theorem dX7_orderOf_61 : decode cX7_orderOf 61 = .ok (.isub, 1) := by decide +kernel
theorem dX7_orderOf_62 : decode cX7_orderOf 62 = .ok (.iaload, 1) := by decide +kernel
theorem dX7_orderOf_63 : decode cX7_orderOf 63 = .ok (.ifCond .eq 5, 3) := by decide +kernel
theorem dX7_orderOf_66 : decode cX7_orderOf 66 = .ok (.iconst 0, 1) := by decide +kernel
theorem dX7_orderOf_67 : decode cX7_orderOf 67 = .ok (.ireturn, 1) := by decide +kernel
theorem dX7_orderOf_68 : decode cX7_orderOf 68 = .ok (.iconst 1, 1) := by decide +kernel
theorem dX7_orderOf_69 : decode cX7_orderOf 69 = .ok (.istore 4, 2) := by decide +kernel
theorem dX7_orderOf_71 : decode cX7_orderOf 71 = .ok (.iload 4, 2) := by decide +kernel
theorem dX7_orderOf_73 : decode cX7_orderOf 73 = .ok (.iload_n 3, 1) := by decide +kernel
theorem dX7_orderOf_74 : decode cX7_orderOf 74 = .ok (.if_icmp .gt 21, 3) := by decide +kernel
theorem dX7_orderOf_77 : decode cX7_orderOf 77 = .ok (.aload_n 0, 1) := by decide +kernel
theorem dX7_orderOf_78 : decode cX7_orderOf 78 = .ok (.iload 4, 2) := by decide +kernel
theorem dX7_orderOf_80 : decode cX7_orderOf 80 = .ok (.invokevirtual 223, 3) := by decide +kernel
theorem dX7_orderOf_83 : decode cX7_orderOf 83 = .ok (.iconst (-1), 1) := by decide +kernel
theorem dX7_orderOf_84 : decode cX7_orderOf 84 = .ok (.if_icmp .ne 5, 3) := by decide +kernel
theorem dX7_orderOf_87 : decode cX7_orderOf 87 = .ok (.iconst 0, 1) := by decide +kernel
theorem dX7_orderOf_88 : decode cX7_orderOf 88 = .ok (.ireturn, 1) := by decide +kernel
theorem dX7_orderOf_89 : decode cX7_orderOf 89 = .ok (.iinc 4 1, 3) := by decide +kernel
theorem dX7_orderOf_92 : decode cX7_orderOf 92 = .ok (.goto (-21), 3) := by decide +kernel
theorem dX7_orderOf_95 : decode cX7_orderOf 95 = .ok (.iload_n 3, 1) := by decide +kernel
theorem dX7_orderOf_96 : decode cX7_orderOf 96 = .ok (.ireturn, 1) := by decide +kernel
set_option maxRecDepth 20000 in
theorem ggX7_third_X7_orderOf : GoodIn wsX7_third wsX7_orderOf := goodIn_r _ [6, 7, 8, 9, 10, 11, 5, 12, 16, 17, 18, 19, 20, 21, 22, 23, 24, 25, 26, 27, 28, 29, 30, 31, 32, 33, 34, 35, 36, 37, 38, 39, 40, 41, 42, 43, 44, 45, 46] (by decide +kernel) (by decide +kernel)
set_option maxRecDepth 20000 in
theorem gX7_third_X7_orderOf : GoodIn wsX7_third (wsV RX7 242 RX7 yX7_orderOf wsX7_orderOf) := goodIn_app (goodIn_of _ (by decide +kernel)) ggX7_third_X7_orderOf
set_option maxRecDepth 20000 in
theorem ggX7_third_X7_isIn : GoodIn wsX7_third wsX7_isIn := goodIn_r _ [15] (by decide +kernel) (by decide +kernel)
set_option maxRecDepth 20000 in
theorem gX7_third_X7_isIn : GoodIn wsX7_third (va_wsS RX7 69 yX7_isIn wsX7_isIn) := goodIn_app (goodIn_of _ (by decide +kernel)) ggX7_third_X7_isIn
set_option maxRecDepth 20000 in
theorem ggX7_third_X7_firstOf : GoodIn wsX7_third wsX7_firstOf := goodIn_r _ [12, 7, 8, 16, 17, 18, 19, 20, 21, 22, 23, 24, 25, 26, 27, 28, 29, 30, 31, 32, 33, 34, 35, 36, 37, 38, 39, 40, 41, 42, 43, 44, 45, 46] (by decide +kernel) (by decide +kernel)
set_option maxRecDepth 20000 in
theorem gX7_third_X7_firstOf : GoodIn wsX7_third (wsV RX7 223 RX7 yX7_firstOf wsX7_firstOf) := goodIn_app (goodIn_of _ (by decide +kernel)) ggX7_third_X7_firstOf
theorem dX7_third_0 : decode cX7_third 0 = .ok (.aload_n 0, 1) := by decide +kernel
theorem dX7_third_1 : decode cX7_third 1 = .ok (.iconst 0, 1) := by decide +kernel
theorem dX7_third_2 : decode cX7_third 2 = .ok (.putfield 1, 3) := by decide +kernel
theorem dX7_third_5 : decode cX7_third 5 = .ok (.aload_n 0, 1) := by decide +kernel
theorem dX7_third_6 : decode cX7_third 6 = .ok (.invokevirtual 242, 3) := by decide +kernel
theorem dX7_third_9 : decode cX7_third 9 = .ok (.istore_n 3, 1) := by decide +kernel
theorem dX7_third_10 : decode cX7_third 10 = .ok (.bipush 6, 2) := by decide +kernel
theorem dX7_third_12 : decode cX7_third 12 = .ok (.iload_n 3, 1) := by decide +kernel
theorem dX7_third_13 : decode cX7_third 13 = .ok (.imul, 1) := by decide +kernel
theorem dX7_third_14 : decode cX7_third 14 = .ok (.iconst 1, 1) := by decide +kernel
theorem dX7_third_15 : decode cX7_third 15 = .ok (.iadd, 1) := by decide +kernel
theorem dX7_third_16 : decode cX7_third 16 = .ok (.istore 4, 2) := by decide +kernel
theorem dX7_third_18 : decode cX7_third 18 = .ok (.iload_n 3, 1) := by decide +kernel
theorem dX7_third_19 : decode cX7_third 19 = .ok (.ifCond .eq 32, 3) := by decide +kernel
theorem dX7_third_22 : decode cX7_third 22 = .ok (.iload_n 1, 1) := by decide +kernel
theorem dX7_third_23 : decode cX7_third 23 = .ok (.iconst 0, 1) := by decide +kernel
theorem dX7_third_24 : decode cX7_third 24 = .ok (.iload 4, 2) := by decide +kernel
theorem dX7_third_26 : decode cX7_third 26 = .ok (.iconst 1, 1) := by decide +kernel
theorem dX7_third_27 : decode cX7_third 27 = .ok (.isub, 1) := by decide +kernel
theorem dX7_third_28 : decode cX7_third 28 = .ok (.invokestatic 69, 3) := by decide +kernel
theorem dX7_third_31 : decode cX7_third 31 = .ok (.ifCond .eq 20, 3) := by decide +kernel
theorem dX7_third_34 : decode cX7_third 34 = .ok (.iload_n 2, 1) := by decide +kernel
theorem dX7_third_35 : decode cX7_third 35 = .ok (.iconst 0, 1) := by decide +kernel
theorem dX7_third_36 : decode cX7_third 36 = .ok (.iload 4, 2) := by decide +kernel
theorem dX7_third_38 : decode cX7_third 38 = .ok (.iconst 1, 1) := by decide +kernel
theorem dX7_third_39 : decode cX7_third 39 = .ok (.isub, 1) := by decide +kernel
theorem dX7_third_40 : decode cX7_third 40 = .ok (.invokestatic 69, 3) := by decide +kernel
theorem dX7_third_43 : decode cX7_third 43 = .ok (.ifCond .eq 8, 3) := by decide +kernel
theorem dX7_third_46 : decode cX7_third 46 = .ok (.iload_n 1, 1) := by decide +kernel
theorem dX7_third_47 : decode cX7_third 47 = .ok (.iload_n 2, 1) := by decide +kernel
theorem dX7_third_48 : decode cX7_third 48 = .ok (.if_icmp .ne 5, 3) := by decide +kernel
theorem dX7_third_51 : decode cX7_third 51 = .ok (.iconst (-1), 1) := by decide +kernel
theorem dX7_third_52 : decode cX7_third 52 = .ok (.ireturn, 1) := by decide +kernel
theorem dX7_third_53 : decode cX7_third 53 = .ok (.iconst 1, 1) := by decide +kernel
theorem dX7_third_54 : decode cX7_third 54 = .ok (.istore 5, 2) := by decide +kernel
theorem dX7_third_56 : decode cX7_third 56 = .ok (.iload 5, 2) := by decide +kernel
theorem dX7_third_58 : decode cX7_third 58 = .ok (.iload_n 3, 1) := by decide +kernel
theorem dX7_third_59 : decode cX7_third 59 = .ok (.if_icmp .gt 131, 3) := by decide +kernel
theorem dX7_third_62 : decode cX7_third 62 = .ok (.iload_n 3, 1) := by decide +kernel
theorem dX7_third_63 : decode cX7_third 63 = .ok (.aload_n 0, 1) := by decide +kernel
theorem dX7_third_64 : decode cX7_third 64 = .ok (.iload 5, 2) := by decide +kernel
theorem dX7_third_66 : decode cX7_third 66 = .ok (.invokevirtual 223, 3) := by decide +kernel
theorem dX7_third_69 : decode cX7_third 69 = .ok (.iadd, 1) := by decide +kernel
theorem dX7_third_70 : decode cX7_third 70 = .ok (.iload 5, 2) := by decide +kernel
theorem dX7_third_72 : decode cX7_third 72 = .ok (.iadd, 1) := by decide +kernel
theorem dX7_third_73 : decode cX7_third 73 = .ok (.istore 6, 2) := by decide +kernel
theorem dX7_third_75 : decode cX7_third 75 = .ok (.iconst 0, 1) := by decide +kernel
theorem dX7_third_76 : decode cX7_third 76 = .ok (.istore 7, 2) := by decide +kernel
theorem dX7_third_78 : decode cX7_third 78 = .ok (.iload 7, 2) := by decide +kernel
theorem dX7_third_80 : decode cX7_third 80 = .ok (.iload 4, 2) := by decide +kernel
theorem dX7_third_82 : decode cX7_third 82 = .ok (.if_icmp .ge 102, 3) := by decide +kernel
theorem dX7_third_85 : decode cX7_third 85 = .ok (.iload 7, 2) := by decide +kernel
theorem dX7_third_87 : decode cX7_third 87 = .ok (.iload 5, 2) := by decide +kernel
theorem dX7_third_89 : decode cX7_third 89 = .ok (.iadd, 1) := by decide +kernel
theorem dX7_third_90 : decode cX7_third 90 = .ok (.iload 4, 2) := by decide +kernel
theorem dX7_third_92 : decode cX7_third 92 = .ok (.irem, 1) := by decide +kernel
theorem dX7_third_93 : decode cX7_third 93 = .ok (.istore 8, 2) := by decide +kernel
theorem dX7_third_95 : decode cX7_third 95 = .ok (.iload 7, 2) := by decide +kernel
theorem dX7_third_97 : decode cX7_third 97 = .ok (.iload 6, 2) := by decide +kernel
theorem dX7_third_99 : decode cX7_third 99 = .ok (.iadd, 1) := by decide +kernel
theorem dX7_third_100 : decode cX7_third 100 = .ok (.iload 4, 2) := by decide +kernel
theorem dX7_third_102 : decode cX7_third 102 = .ok (.irem, 1) := by decide +kernel
theorem dX7_third_103 : decode cX7_third 103 = .ok (.istore 9, 2) := by decide +kernel
theorem dX7_third_105 : decode cX7_third 105 = .ok (.iload 7, 2) := by decide +kernel
theorem dX7_third_107 : decode cX7_third 107 = .ok (.iload_n 1, 1) := by decide +kernel
theorem dX7_third_108 : decode cX7_third 108 = .ok (.if_icmp .eq 15, 3) := by decide +kernel
theorem dX7_third_111 : decode cX7_third 111 = .ok (.iload 8, 2) := by decide +kernel
theorem dX7_third_113 : decode cX7_third 113 = .ok (.iload_n 1, 1) := by decide +kernel
theorem dX7_third_114 : decode cX7_third 114 = .ok (.if_icmp .eq 9, 3) := by decide +kernel
theorem dX7_third_117 : decode cX7_third 117 = .ok (.iload 9, 2) := by decide +kernel
theorem dX7_third_119 : decode cX7_third 119 = .ok (.iload_n 1, 1) := by decide +kernel
theorem dX7_third_120 : decode cX7_third 120 = .ok (.if_icmp .ne 7, 3) := by decide +kernel
theorem dX7_third_123 : decode cX7_third 123 = .ok (.iconst 1, 1) := by decide +kernel
theorem dX7_third_124 : decode cX7_third 124 = .ok (.goto 4, 3) := by decide +kernel
theorem dX7_third_127 : decode cX7_third 127 = .ok (.iconst 0, 1) := by decide +kernel
theorem dX7_third_128 : decode cX7_third 128 = .ok (.istore 10, 2) := by decide +kernel
theorem dX7_third_130 : decode cX7_third 130 = .ok (.iload 7, 2) := by decide +kernel
theorem dX7_third_132 : decode cX7_third 132 = .ok (.iload_n 2, 1) := by decide +kernel
theorem dX7_third_133 : decode cX7_third 133 = .ok (.if_icmp .eq 15, 3) := by decide +kernel
theorem dX7_third_136 : decode cX7_third 136 = .ok (.iload 8, 2) := by decide +kernel
theorem dX7_third_138 : decode cX7_third 138 = .ok (.iload_n 2, 1) := by decide +kernel
theorem dX7_third_139 : decode cX7_third 139 = .ok (.if_icmp .eq 9, 3) := by decide +kernel
theorem dX7_third_142 : decode cX7_third 142 = .ok (.iload 9, 2) := by decide +kernel
theorem dX7_third_144 : decode cX7_third 144 = .ok (.iload_n 2, 1) := by decide +kernel
theorem dX7_third_145 : decode cX7_third 145 = .ok (.if_icmp .ne 7, 3) := by decide +kernel
theorem dX7_third_148 : decode cX7_third 148 = .ok (.iconst 1, 1) := by decide +kernel
theorem dX7_third_149 : decode cX7_third 149 = .ok (.goto 4, 3) := by decide +kernel
theorem dX7_third_152 : decode cX7_third 152 = .ok (.iconst 0, 1) := by decide +kernel
theorem dX7_third_153 : decode cX7_third 153 = .ok (.istore 11, 2) := by decide +kernel
theorem dX7_third_155 : decode cX7_third 155 = .ok (.iload 10, 2) := by decide +kernel
theorem dX7_third_157 : decode cX7_third 157 = .ok (.ifCond .eq 21, 3) := by decide +kernel
theorem dX7_third_160 : decode cX7_third 160 = .ok (.iload 11, 2) := by decide +kernel
theorem dX7_third_162 : decode cX7_third 162 = .ok (.ifCond .eq 16, 3) := by decide +kernel
theorem dX7_third_165 : decode cX7_third 165 = .ok (.iload 7, 2) := by decide +kernel
theorem dX7_third_167 : decode cX7_third 167 = .ok (.iload 8, 2) := by decide +kernel
theorem dX7_third_169 : decode cX7_third 169 = .ok (.iadd, 1) := by decide +kernel
theorem dX7_third_170 : decode cX7_third 170 = .ok (.iload 9, 2) := by decide +kernel
theorem dX7_third_172 : decode cX7_third 172 = .ok (.iadd, 1) := by decide +kernel
theorem dX7_third_173 : decode cX7_third 173 = .ok (.iload_n 1, 1) := by decide +kernel
theorem dX7_third_174 : decode cX7_third 174 = .ok (.isub, 1) := by decide +kernel
theorem dX7_third_175 : decode cX7_third 175 = .ok (.iload_n 2, 1) := by decide +kernel
theorem dX7_third_176 : decode cX7_third 176 = .ok (.isub, 1) := by decide +kernel
theorem dX7_third_177 : decode cX7_third 177 = .ok (.ireturn, 1) := by decide +kernel
theorem dX7_third_178 : decode cX7_third 178 = .ok (.iinc 7 1, 3) := by decide +kernel
theorem dX7_third_181 : decode cX7_third 181 = .ok (.goto (-103), 3) := by decide +kernel
theorem dX7_third_184 : decode cX7_third 184 = .ok (.iinc 5 1, 3) := by decide +kernel
theorem dX7_third_187 : decode cX7_third 187 = .ok (.goto (-131), 3) := by decide +kernel
theorem dX7_third_190 : decode cX7_third 190 = .ok (.iconst (-1), 1) := by decide +kernel
theorem dX7_third_191 : decode cX7_third 191 = .ok (.ireturn, 1) := by decide +kernel
set_option maxRecDepth 20000 in
theorem ggX7_pinnedOnes_X7_isTold : GoodIn wsX7_pinnedOnes wsX7_isTold := goodIn_r _ [5, 6, 7, 4, 8, 9, 10, 11] (by decide +kernel) (by decide +kernel)
set_option maxRecDepth 20000 in
theorem gX7_pinnedOnes_X7_isTold : GoodIn wsX7_pinnedOnes (va_wsS RX7 129 yX7_isTold wsX7_isTold) := goodIn_app (goodIn_of _ (by decide +kernel)) ggX7_pinnedOnes_X7_isTold
theorem dX7_pinnedOnes_0 : decode cX7_pinnedOnes 0 = .ok (.iconst 0, 1) := by decide +kernel
theorem dX7_pinnedOnes_1 : decode cX7_pinnedOnes 1 = .ok (.istore_n 1, 1) := by decide +kernel
theorem dX7_pinnedOnes_2 : decode cX7_pinnedOnes 2 = .ok (.iconst 1, 1) := by decide +kernel
theorem dX7_pinnedOnes_3 : decode cX7_pinnedOnes 3 = .ok (.istore_n 2, 1) := by decide +kernel
theorem dX7_pinnedOnes_4 : decode cX7_pinnedOnes 4 = .ok (.iload_n 2, 1) := by decide +kernel
theorem dX7_pinnedOnes_5 : decode cX7_pinnedOnes 5 = .ok (.bipush 15, 2) := by decide +kernel
theorem dX7_pinnedOnes_7 : decode cX7_pinnedOnes 7 = .ok (.if_icmp .gt 39, 3) := by decide +kernel
theorem dX7_pinnedOnes_10 : decode cX7_pinnedOnes 10 = .ok (.aload_n 0, 1) := by decide +kernel
theorem dX7_pinnedOnes_11 : decode cX7_pinnedOnes 11 = .ok (.getfield 79, 3) := by decide +kernel
theorem dX7_pinnedOnes_14 : decode cX7_pinnedOnes 14 = .ok (.iload_n 2, 1) := by decide +kernel
theorem dX7_pinnedOnes_15 : decode cX7_pinnedOnes 15 = .ok (.invokestatic 129, 3) := by decide +kernel
theorem dX7_pinnedOnes_18 : decode cX7_pinnedOnes 18 = .ok (.ifCond .eq 22, 3) := by decide +kernel
theorem dX7_pinnedOnes_21 : decode cX7_pinnedOnes 21 = .ok (.aload_n 0, 1) := by decide +kernel
theorem dX7_pinnedOnes_22 : decode cX7_pinnedOnes 22 = .ok (.getfield 79, 3) := by decide +kernel
theorem dX7_pinnedOnes_25 : decode cX7_pinnedOnes 25 = .ok (.iconst 3, 1) := by decide +kernel
theorem dX7_pinnedOnes_26 : decode cX7_pinnedOnes 26 = .ok (.iload_n 2, 1) := by decide +kernel
theorem dX7_pinnedOnes_27 : decode cX7_pinnedOnes 27 = .ok (.iadd, 1) := by decide +kernel
theorem dX7_pinnedOnes_28 : decode cX7_pinnedOnes 28 = .ok (.iaload, 1) := by decide +kernel
theorem dX7_pinnedOnes_29 : decode cX7_pinnedOnes 29 = .ok (.ifCond .le 11, 3) := by decide +kernel
theorem dX7_pinnedOnes_32 : decode cX7_pinnedOnes 32 = .ok (.iload_n 1, 1) := by decide +kernel
theorem dX7_pinnedOnes_33 : decode cX7_pinnedOnes 33 = .ok (.iconst 1, 1) := by decide +kernel
theorem dX7_pinnedOnes_34 : decode cX7_pinnedOnes 34 = .ok (.iload_n 2, 1) := by decide +kernel
theorem dX7_pinnedOnes_35 : decode cX7_pinnedOnes 35 = .ok (.iconst 1, 1) := by decide +kernel
theorem dX7_pinnedOnes_36 : decode cX7_pinnedOnes 36 = .ok (.isub, 1) := by decide +kernel
theorem dX7_pinnedOnes_37 : decode cX7_pinnedOnes 37 = .ok (.ishl, 1) := by decide +kernel
theorem dX7_pinnedOnes_38 : decode cX7_pinnedOnes 38 = .ok (.ior, 1) := by decide +kernel
theorem dX7_pinnedOnes_39 : decode cX7_pinnedOnes 39 = .ok (.istore_n 1, 1) := by decide +kernel
theorem dX7_pinnedOnes_40 : decode cX7_pinnedOnes 40 = .ok (.iinc 2 1, 3) := by decide +kernel
theorem dX7_pinnedOnes_43 : decode cX7_pinnedOnes 43 = .ok (.goto (-39), 3) := by decide +kernel
theorem dX7_pinnedOnes_46 : decode cX7_pinnedOnes 46 = .ok (.iload_n 1, 1) := by decide +kernel
theorem dX7_pinnedOnes_47 : decode cX7_pinnedOnes 47 = .ok (.ireturn, 1) := by decide +kernel
set_option maxRecDepth 20000 in
theorem ggX7_now_X7_pinnedOnes : GoodIn wsX7_now wsX7_pinnedOnes := goodIn_r _ [9, 2, 10, 11, 8, 12, 13, 14, 15, 16, 17, 18, 26, 27, 28, 29, 30, 31, 32, 33, 34, 35, 36, 37, 38, 39, 40, 41, 42, 43, 44, 45, 46, 47, 48, 49, 50, 51, 52, 53, 54, 55, 56] (by decide +kernel) (by decide +kernel)
set_option maxRecDepth 20000 in
theorem gX7_now_X7_pinnedOnes : GoodIn wsX7_now (wsV RX7 245 RX7 yX7_pinnedOnes wsX7_pinnedOnes) := goodIn_app (goodIn_of _ (by decide +kernel)) ggX7_now_X7_pinnedOnes
set_option maxRecDepth 20000 in
theorem ggX7_now_X7_isEven : GoodIn wsX7_now wsX7_isEven := goodIn_r _ [22, 16, 17, 8, 18, 10, 11, 12, 13, 14, 15, 23, 24, 25] (by decide +kernel) (by decide +kernel)
set_option maxRecDepth 20000 in
theorem gX7_now_X7_isEven : GoodIn wsX7_now (wsV RX7 208 RX7 yX7_isEven wsX7_isEven) := goodIn_app (goodIn_of _ (by decide +kernel)) ggX7_now_X7_isEven
theorem dX7_now_0 : decode cX7_now 0 = .ok (.aload_n 0, 1) := by decide +kernel
theorem dX7_now_1 : decode cX7_now 1 = .ok (.iconst 0, 1) := by decide +kernel
theorem dX7_now_2 : decode cX7_now 2 = .ok (.putfield 1, 3) := by decide +kernel
theorem dX7_now_5 : decode cX7_now 5 = .ok (.iload_n 1, 1) := by decide +kernel
theorem dX7_now_6 : decode cX7_now 6 = .ok (.tableswitch 95 0 6 #[42, 49, 56, 63, 68, 85, 90], 42) := by decide +kernel
theorem dX7_now_48 : decode cX7_now 48 = .ok (.aload_n 0, 1) := by decide +kernel
theorem dX7_now_49 : decode cX7_now 49 = .ok (.getfield 79, 3) := by decide +kernel
theorem dX7_now_52 : decode cX7_now 52 = .ok (.iconst 0, 1) := by decide +kernel
theorem dX7_now_53 : decode cX7_now 53 = .ok (.iaload, 1) := by decide +kernel
theorem dX7_now_54 : decode cX7_now 54 = .ok (.ireturn, 1) := by decide +kernel
theorem dX7_now_55 : decode cX7_now 55 = .ok (.aload_n 0, 1) := by decide +kernel
theorem dX7_now_56 : decode cX7_now 56 = .ok (.getfield 79, 3) := by decide +kernel
theorem dX7_now_59 : decode cX7_now 59 = .ok (.iconst 1, 1) := by decide +kernel
theorem dX7_now_60 : decode cX7_now 60 = .ok (.iaload, 1) := by decide +kernel
theorem dX7_now_61 : decode cX7_now 61 = .ok (.ireturn, 1) := by decide +kernel
theorem dX7_now_62 : decode cX7_now 62 = .ok (.aload_n 0, 1) := by decide +kernel
theorem dX7_now_63 : decode cX7_now 63 = .ok (.getfield 79, 3) := by decide +kernel
theorem dX7_now_66 : decode cX7_now 66 = .ok (.iconst 2, 1) := by decide +kernel
theorem dX7_now_67 : decode cX7_now 67 = .ok (.iaload, 1) := by decide +kernel
theorem dX7_now_68 : decode cX7_now 68 = .ok (.ireturn, 1) := by decide +kernel
theorem dX7_now_69 : decode cX7_now 69 = .ok (.aload_n 0, 1) := by decide +kernel
theorem dX7_now_70 : decode cX7_now 70 = .ok (.invokevirtual 245, 3) := by decide +kernel
theorem dX7_now_73 : decode cX7_now 73 = .ok (.ireturn, 1) := by decide +kernel
theorem dX7_now_74 : decode cX7_now 74 = .ok (.aload_n 0, 1) := by decide +kernel
theorem dX7_now_75 : decode cX7_now 75 = .ok (.aload_n 0, 1) := by decide +kernel
theorem dX7_now_76 : decode cX7_now 76 = .ok (.getfield 79, 3) := by decide +kernel
theorem dX7_now_79 : decode cX7_now 79 = .ok (.invokevirtual 208, 3) := by decide +kernel
theorem dX7_now_82 : decode cX7_now 82 = .ok (.ifCond .eq 7, 3) := by decide +kernel
theorem dX7_now_85 : decode cX7_now 85 = .ok (.iconst 1, 1) := by decide +kernel
theorem dX7_now_86 : decode cX7_now 86 = .ok (.goto 4, 3) := by decide +kernel
theorem dX7_now_89 : decode cX7_now 89 = .ok (.iconst 0, 1) := by decide +kernel
theorem dX7_now_90 : decode cX7_now 90 = .ok (.ireturn, 1) := by decide +kernel
theorem dX7_now_91 : decode cX7_now 91 = .ok (.aload_n 0, 1) := by decide +kernel
theorem dX7_now_92 : decode cX7_now 92 = .ok (.getfield 182, 3) := by decide +kernel
theorem dX7_now_95 : decode cX7_now 95 = .ok (.ireturn, 1) := by decide +kernel
theorem dX7_now_96 : decode cX7_now 96 = .ok (.aload_n 0, 1) := by decide +kernel
theorem dX7_now_97 : decode cX7_now 97 = .ok (.getfield 11, 3) := by decide +kernel
theorem dX7_now_100 : decode cX7_now 100 = .ok (.ireturn, 1) := by decide +kernel
theorem dX7_now_101 : decode cX7_now 101 = .ok (.iconst (-1), 1) := by decide +kernel
theorem dX7_now_102 : decode cX7_now 102 = .ok (.ireturn, 1) := by decide +kernel
set_option maxRecDepth 20000 in
theorem ggX7_pinned_X7_isTold : GoodIn wsX7_pinned wsX7_isTold := goodIn_r _ [6, 7, 8, 5, 9, 10, 11, 12] (by decide +kernel) (by decide +kernel)
set_option maxRecDepth 20000 in
theorem gX7_pinned_X7_isTold : GoodIn wsX7_pinned (va_wsS RX7 129 yX7_isTold wsX7_isTold) := goodIn_app (goodIn_of _ (by decide +kernel)) ggX7_pinned_X7_isTold
theorem dX7_pinned_0 : decode cX7_pinned 0 = .ok (.aload_n 0, 1) := by decide +kernel
theorem dX7_pinned_1 : decode cX7_pinned 1 = .ok (.iconst 0, 1) := by decide +kernel
theorem dX7_pinned_2 : decode cX7_pinned 2 = .ok (.putfield 1, 3) := by decide +kernel
theorem dX7_pinned_5 : decode cX7_pinned 5 = .ok (.aload_n 0, 1) := by decide +kernel
theorem dX7_pinned_6 : decode cX7_pinned 6 = .ok (.getfield 79, 3) := by decide +kernel
theorem dX7_pinned_9 : decode cX7_pinned 9 = .ok (.iload_n 1, 1) := by decide +kernel
theorem dX7_pinned_10 : decode cX7_pinned 10 = .ok (.invokestatic 129, 3) := by decide +kernel
theorem dX7_pinned_13 : decode cX7_pinned 13 = .ok (.ifCond .eq 14, 3) := by decide +kernel
theorem dX7_pinned_16 : decode cX7_pinned 16 = .ok (.aload_n 0, 1) := by decide +kernel
theorem dX7_pinned_17 : decode cX7_pinned 17 = .ok (.getfield 79, 3) := by decide +kernel
theorem dX7_pinned_20 : decode cX7_pinned 20 = .ok (.iconst 3, 1) := by decide +kernel
theorem dX7_pinned_21 : decode cX7_pinned 21 = .ok (.iload_n 1, 1) := by decide +kernel
theorem dX7_pinned_22 : decode cX7_pinned 22 = .ok (.iadd, 1) := by decide +kernel
theorem dX7_pinned_23 : decode cX7_pinned 23 = .ok (.iaload, 1) := by decide +kernel
theorem dX7_pinned_24 : decode cX7_pinned 24 = .ok (.goto 4, 3) := by decide +kernel
theorem dX7_pinned_27 : decode cX7_pinned 27 = .ok (.iconst (-1), 1) := by decide +kernel
theorem dX7_pinned_28 : decode cX7_pinned 28 = .ok (.ireturn, 1) := by decide +kernel
set_option maxRecDepth 20000 in
theorem ggX7_snap_X7_copy : GoodIn wsX7_snap wsX7_copy := goodIn_r _ [7] (by decide +kernel) (by decide +kernel)
set_option maxRecDepth 20000 in
theorem gX7_snap_X7_copy : GoodIn wsX7_snap (va_wsS RX7 178 yX7_copy wsX7_copy) := goodIn_app (goodIn_of _ (by decide +kernel)) ggX7_snap_X7_copy
theorem dX7_snap_0 : decode cX7_snap 0 = .ok (.aload_n 0, 1) := by decide +kernel
theorem dX7_snap_1 : decode cX7_snap 1 = .ok (.getfield 182, 3) := by decide +kernel
theorem dX7_snap_4 : decode cX7_snap 4 = .ok (.bipush 8, 2) := by decide +kernel
theorem dX7_snap_6 : decode cX7_snap 6 = .ok (.if_icmp .ne 43, 3) := by decide +kernel
theorem dX7_snap_9 : decode cX7_snap 9 = .ok (.iconst 0, 1) := by decide +kernel
theorem dX7_snap_10 : decode cX7_snap 10 = .ok (.istore_n 1, 1) := by decide +kernel
theorem dX7_snap_11 : decode cX7_snap 11 = .ok (.iload_n 1, 1) := by decide +kernel
theorem dX7_snap_12 : decode cX7_snap 12 = .ok (.sipush 133, 3) := by decide +kernel
theorem dX7_snap_15 : decode cX7_snap 15 = .ok (.if_icmp .ge 24, 3) := by decide +kernel
theorem dX7_snap_18 : decode cX7_snap 18 = .ok (.aload_n 0, 1) := by decide +kernel
theorem dX7_snap_19 : decode cX7_snap 19 = .ok (.getfield 88, 3) := by decide +kernel
theorem dX7_snap_22 : decode cX7_snap 22 = .ok (.iload_n 1, 1) := by decide +kernel
theorem dX7_snap_23 : decode cX7_snap 23 = .ok (.aload_n 0, 1) := by decide +kernel
theorem dX7_snap_24 : decode cX7_snap 24 = .ok (.getfield 88, 3) := by decide +kernel
theorem dX7_snap_27 : decode cX7_snap 27 = .ok (.iload_n 1, 1) := by decide +kernel
theorem dX7_snap_28 : decode cX7_snap 28 = .ok (.bipush 19, 2) := by decide +kernel
theorem dX7_snap_30 : decode cX7_snap 30 = .ok (.iadd, 1) := by decide +kernel
theorem dX7_snap_31 : decode cX7_snap 31 = .ok (.iaload, 1) := by decide +kernel
theorem dX7_snap_32 : decode cX7_snap 32 = .ok (.iastore, 1) := by decide +kernel
theorem dX7_snap_33 : decode cX7_snap 33 = .ok (.iinc 1 1, 3) := by decide +kernel
theorem dX7_snap_36 : decode cX7_snap 36 = .ok (.goto (-25), 3) := by decide +kernel
theorem dX7_snap_39 : decode cX7_snap 39 = .ok (.aload_n 0, 1) := by decide +kernel
theorem dX7_snap_40 : decode cX7_snap 40 = .ok (.dup, 1) := by decide +kernel
theorem dX7_snap_41 : decode cX7_snap 41 = .ok (.getfield 182, 3) := by decide +kernel
theorem dX7_snap_44 : decode cX7_snap 44 = .ok (.iconst 1, 1) := by decide +kernel
theorem dX7_snap_45 : decode cX7_snap 45 = .ok (.isub, 1) := by decide +kernel
theorem dX7_snap_46 : decode cX7_snap 46 = .ok (.putfield 182, 3) := by decide +kernel
theorem dX7_snap_49 : decode cX7_snap 49 = .ok (.aload_n 0, 1) := by decide +kernel
theorem dX7_snap_50 : decode cX7_snap 50 = .ok (.getfield 79, 3) := by decide +kernel
theorem dX7_snap_53 : decode cX7_snap 53 = .ok (.iconst 0, 1) := by decide +kernel
theorem dX7_snap_54 : decode cX7_snap 54 = .ok (.aload_n 0, 1) := by decide +kernel
theorem dX7_snap_55 : decode cX7_snap 55 = .ok (.getfield 88, 3) := by decide +kernel
theorem dX7_snap_58 : decode cX7_snap 58 = .ok (.bipush 19, 2) := by decide +kernel
theorem dX7_snap_60 : decode cX7_snap 60 = .ok (.aload_n 0, 1) := by decide +kernel
theorem dX7_snap_61 : decode cX7_snap 61 = .ok (.getfield 182, 3) := by decide +kernel
theorem dX7_snap_64 : decode cX7_snap 64 = .ok (.imul, 1) := by decide +kernel
theorem dX7_snap_65 : decode cX7_snap 65 = .ok (.invokestatic 178, 3) := by decide +kernel
theorem dX7_snap_68 : decode cX7_snap 68 = .ok (.aload_n 0, 1) := by decide +kernel
theorem dX7_snap_69 : decode cX7_snap 69 = .ok (.dup, 1) := by decide +kernel
theorem dX7_snap_70 : decode cX7_snap 70 = .ok (.getfield 182, 3) := by decide +kernel
theorem dX7_snap_73 : decode cX7_snap 73 = .ok (.iconst 1, 1) := by decide +kernel
theorem dX7_snap_74 : decode cX7_snap 74 = .ok (.iadd, 1) := by decide +kernel
theorem dX7_snap_75 : decode cX7_snap 75 = .ok (.putfield 182, 3) := by decide +kernel
theorem dX7_snap_78 : decode cX7_snap 78 = .ok (.return_, 1) := by decide +kernel
set_option maxRecDepth 20000 in
theorem ggX7_stay_X7_copy : GoodIn wsX7_stay wsX7_copy := goodIn_r _ [7] (by decide +kernel) (by decide +kernel)
set_option maxRecDepth 20000 in
theorem gX7_stay_X7_copy : GoodIn wsX7_stay (va_wsS RX7 178 yX7_copy wsX7_copy) := goodIn_app (goodIn_of _ (by decide +kernel)) ggX7_stay_X7_copy
set_option maxRecDepth 20000 in
theorem ggX7_stay_X7_snap : GoodIn wsX7_stay wsX7_snap := goodIn_r _ [11, 12, 13, 1, 4, 5, 6, 7, 14, 15, 16, 17, 18, 19, 20, 21, 22, 23, 24, 25, 26, 27, 28, 29, 30, 31, 32, 33, 34, 35, 36, 37, 38, 39, 40, 41, 42, 43, 44] (by decide +kernel) (by decide +kernel)
set_option maxRecDepth 20000 in
theorem gX7_stay_X7_snap : GoodIn wsX7_stay (wsV RX7 185 RX7 yX7_snap wsX7_snap) := goodIn_app (goodIn_of _ (by decide +kernel)) ggX7_stay_X7_snap
theorem dX7_stay_0 : decode cX7_stay 0 = .ok (.aload_n 0, 1) := by decide +kernel
theorem dX7_stay_1 : decode cX7_stay 1 = .ok (.getfield 79, 3) := by decide +kernel
theorem dX7_stay_4 : decode cX7_stay 4 = .ok (.iconst 0, 1) := by decide +kernel
theorem dX7_stay_5 : decode cX7_stay 5 = .ok (.aload_n 0, 1) := by decide +kernel
theorem dX7_stay_6 : decode cX7_stay 6 = .ok (.getfield 94, 3) := by decide +kernel
theorem dX7_stay_9 : decode cX7_stay 9 = .ok (.iconst 0, 1) := by decide +kernel
theorem dX7_stay_10 : decode cX7_stay 10 = .ok (.invokestatic 178, 3) := by decide +kernel
theorem dX7_stay_13 : decode cX7_stay 13 = .ok (.aload_n 0, 1) := by decide +kernel
theorem dX7_stay_14 : decode cX7_stay 14 = .ok (.getfield 91, 3) := by decide +kernel
theorem dX7_stay_17 : decode cX7_stay 17 = .ok (.iconst 0, 1) := by decide +kernel
theorem dX7_stay_18 : decode cX7_stay 18 = .ok (.aload_n 0, 1) := by decide +kernel
theorem dX7_stay_19 : decode cX7_stay 19 = .ok (.getfield 79, 3) := by decide +kernel
theorem dX7_stay_22 : decode cX7_stay 22 = .ok (.iconst 0, 1) := by decide +kernel
theorem dX7_stay_23 : decode cX7_stay 23 = .ok (.invokestatic 178, 3) := by decide +kernel
theorem dX7_stay_26 : decode cX7_stay 26 = .ok (.aload_n 0, 1) := by decide +kernel
theorem dX7_stay_27 : decode cX7_stay 27 = .ok (.invokevirtual 185, 3) := by decide +kernel
theorem dX7_stay_30 : decode cX7_stay 30 = .ok (.aload_n 0, 1) := by decide +kernel
theorem dX7_stay_31 : decode cX7_stay 31 = .ok (.getfield 94, 3) := by decide +kernel
theorem dX7_stay_34 : decode cX7_stay 34 = .ok (.iconst 0, 1) := by decide +kernel
theorem dX7_stay_35 : decode cX7_stay 35 = .ok (.aload_n 0, 1) := by decide +kernel
theorem dX7_stay_36 : decode cX7_stay 36 = .ok (.getfield 79, 3) := by decide +kernel
theorem dX7_stay_39 : decode cX7_stay 39 = .ok (.iconst 0, 1) := by decide +kernel
theorem dX7_stay_40 : decode cX7_stay 40 = .ok (.invokestatic 178, 3) := by decide +kernel
theorem dX7_stay_43 : decode cX7_stay 43 = .ok (.return_, 1) := by decide +kernel
set_option maxRecDepth 20000 in
theorem ggX7_mayHole_X7_isIn : GoodIn wsX7_mayHole wsX7_isIn := goodIn_r _ [5] (by decide +kernel) (by decide +kernel)
set_option maxRecDepth 20000 in
theorem gX7_mayHole_X7_isIn : GoodIn wsX7_mayHole (va_wsS RX7 69 yX7_isIn wsX7_isIn) := goodIn_app (goodIn_of _ (by decide +kernel)) ggX7_mayHole_X7_isIn
set_option maxRecDepth 20000 in
theorem ggX7_mayHole_X7_has : GoodIn wsX7_mayHole wsX7_has := goodIn_r _ [8] (by decide +kernel) (by decide +kernel)
set_option maxRecDepth 20000 in
theorem gX7_mayHole_X7_has : GoodIn wsX7_mayHole (va_wsS RX7 125 yX7_has wsX7_has) := goodIn_app (goodIn_of _ (by decide +kernel)) ggX7_mayHole_X7_has
set_option maxRecDepth 20000 in
theorem ggX7_mayHole_X7_pins : GoodIn wsX7_mayHole wsX7_pins := goodIn_r _ [11, 12, 13, 4, 14, 2, 3, 5, 6, 7, 8] (by decide +kernel) (by decide +kernel)
set_option maxRecDepth 20000 in
theorem gX7_mayHole_X7_pins : GoodIn wsX7_mayHole (va_wsS RX7 133 yX7_pins wsX7_pins) := goodIn_app (goodIn_of _ (by decide +kernel)) ggX7_mayHole_X7_pins
theorem dX7_mayHole_0 : decode cX7_mayHole 0 = .ok (.iload_n 1, 1) := by decide +kernel
theorem dX7_mayHole_1 : decode cX7_mayHole 1 = .ok (.iconst 1, 1) := by decide +kernel
theorem dX7_mayHole_2 : decode cX7_mayHole 2 = .ok (.aload_n 0, 1) := by decide +kernel
theorem dX7_mayHole_3 : decode cX7_mayHole 3 = .ok (.getfield 79, 3) := by decide +kernel
theorem dX7_mayHole_6 : decode cX7_mayHole 6 = .ok (.iconst 0, 1) := by decide +kernel
theorem dX7_mayHole_7 : decode cX7_mayHole 7 = .ok (.iaload, 1) := by decide +kernel
theorem dX7_mayHole_8 : decode cX7_mayHole 8 = .ok (.invokestatic 69, 3) := by decide +kernel
theorem dX7_mayHole_11 : decode cX7_mayHole 11 = .ok (.ifCond .eq 40, 3) := by decide +kernel
theorem dX7_mayHole_14 : decode cX7_mayHole 14 = .ok (.aload_n 0, 1) := by decide +kernel
theorem dX7_mayHole_15 : decode cX7_mayHole 15 = .ok (.getfield 79, 3) := by decide +kernel
theorem dX7_mayHole_18 : decode cX7_mayHole 18 = .ok (.iconst 1, 1) := by decide +kernel
theorem dX7_mayHole_19 : decode cX7_mayHole 19 = .ok (.iaload, 1) := by decide +kernel
theorem dX7_mayHole_20 : decode cX7_mayHole 20 = .ok (.iload_n 1, 1) := by decide +kernel
theorem dX7_mayHole_21 : decode cX7_mayHole 21 = .ok (.iconst 1, 1) := by decide +kernel
theorem dX7_mayHole_22 : decode cX7_mayHole 22 = .ok (.isub, 1) := by decide +kernel
theorem dX7_mayHole_23 : decode cX7_mayHole 23 = .ok (.invokestatic 125, 3) := by decide +kernel
theorem dX7_mayHole_26 : decode cX7_mayHole 26 = .ok (.iload_n 2, 1) := by decide +kernel
theorem dX7_mayHole_27 : decode cX7_mayHole 27 = .ok (.if_icmp .eq 24, 3) := by decide +kernel
theorem dX7_mayHole_30 : decode cX7_mayHole 30 = .ok (.aload_n 0, 1) := by decide +kernel
theorem dX7_mayHole_31 : decode cX7_mayHole 31 = .ok (.getfield 79, 3) := by decide +kernel
theorem dX7_mayHole_34 : decode cX7_mayHole 34 = .ok (.iconst 0, 1) := by decide +kernel
theorem dX7_mayHole_35 : decode cX7_mayHole 35 = .ok (.invokestatic 133, 3) := by decide +kernel
theorem dX7_mayHole_38 : decode cX7_mayHole 38 = .ok (.iload_n 1, 1) := by decide +kernel
theorem dX7_mayHole_39 : decode cX7_mayHole 39 = .ok (.iconst 1, 1) := by decide +kernel
theorem dX7_mayHole_40 : decode cX7_mayHole 40 = .ok (.isub, 1) := by decide +kernel
theorem dX7_mayHole_41 : decode cX7_mayHole 41 = .ok (.invokestatic 125, 3) := by decide +kernel
theorem dX7_mayHole_44 : decode cX7_mayHole 44 = .ok (.ifCond .ne 7, 3) := by decide +kernel
theorem dX7_mayHole_47 : decode cX7_mayHole 47 = .ok (.iconst 1, 1) := by decide +kernel
theorem dX7_mayHole_48 : decode cX7_mayHole 48 = .ok (.goto 4, 3) := by decide +kernel
theorem dX7_mayHole_51 : decode cX7_mayHole 51 = .ok (.iconst 0, 1) := by decide +kernel
theorem dX7_mayHole_52 : decode cX7_mayHole 52 = .ok (.ireturn, 1) := by decide +kernel
set_option maxRecDepth 20000 in
theorem ggX7_hole_X7_mayHole : GoodIn wsX7_hole wsX7_mayHole := goodIn_r _ [7, 2, 8, 9, 6, 10, 11, 12, 13, 14, 15, 16, 17, 18, 19, 32, 33, 34, 35, 36, 37, 38, 39, 40, 41, 42, 43, 44, 45, 46, 47, 48, 49, 50, 51, 52, 53, 54, 55, 56, 57, 58, 59, 60, 61, 62] (by decide +kernel) (by decide +kernel)
set_option maxRecDepth 20000 in
theorem gX7_hole_X7_mayHole : GoodIn wsX7_hole (wsV RX7 248 RX7 yX7_mayHole wsX7_mayHole) := goodIn_app (goodIn_of _ (by decide +kernel)) ggX7_hole_X7_mayHole
set_option maxRecDepth 20000 in
theorem ggX7_hole_X7_snap : GoodIn wsX7_hole wsX7_snap := goodIn_r _ [23, 24, 25, 2, 26, 27, 6, 28, 32, 33, 34, 35, 36, 37, 38, 39, 40, 41, 42, 43, 44, 45, 46, 47, 48, 49, 50, 51, 52, 53, 54, 55, 56, 57, 58, 59, 60, 61, 62] (by decide +kernel) (by decide +kernel)
set_option maxRecDepth 20000 in
theorem gX7_hole_X7_snap : GoodIn wsX7_hole (wsV RX7 185 RX7 yX7_snap wsX7_snap) := goodIn_app (goodIn_of _ (by decide +kernel)) ggX7_hole_X7_snap
set_option maxRecDepth 20000 in
theorem ggX7_hole_X7_bits : GoodIn wsX7_hole wsX7_bits := goodIn_r _ [31] (by decide +kernel) (by decide +kernel)
set_option maxRecDepth 20000 in
theorem gX7_hole_X7_bits : GoodIn wsX7_hole (va_wsS RX7 143 yX7_bits wsX7_bits) := goodIn_app (goodIn_of _ (by decide +kernel)) ggX7_hole_X7_bits
theorem dX7_hole_0 : decode cX7_hole 0 = .ok (.aload_n 0, 1) := by decide +kernel
theorem dX7_hole_1 : decode cX7_hole 1 = .ok (.iconst 0, 1) := by decide +kernel
theorem dX7_hole_2 : decode cX7_hole 2 = .ok (.putfield 1, 3) := by decide +kernel
theorem dX7_hole_5 : decode cX7_hole 5 = .ok (.aload_n 0, 1) := by decide +kernel
theorem dX7_hole_6 : decode cX7_hole 6 = .ok (.iload_n 1, 1) := by decide +kernel
theorem dX7_hole_7 : decode cX7_hole 7 = .ok (.iload_n 2, 1) := by decide +kernel
theorem dX7_hole_8 : decode cX7_hole 8 = .ok (.invokevirtual 248, 3) := by decide +kernel
theorem dX7_hole_11 : decode cX7_hole 11 = .ok (.ifCond .ne 5, 3) := by decide +kernel
theorem dX7_hole_14 : decode cX7_hole 14 = .ok (.iconst (-1), 1) := by decide +kernel
theorem dX7_hole_15 : decode cX7_hole 15 = .ok (.ireturn, 1) := by decide +kernel
theorem dX7_hole_16 : decode cX7_hole 16 = .ok (.aload_n 0, 1) := by decide +kernel
theorem dX7_hole_17 : decode cX7_hole 17 = .ok (.invokevirtual 185, 3) := by decide +kernel
theorem dX7_hole_20 : decode cX7_hole 20 = .ok (.aload_n 0, 1) := by decide +kernel
theorem dX7_hole_21 : decode cX7_hole 21 = .ok (.getfield 79, 3) := by decide +kernel
theorem dX7_hole_24 : decode cX7_hole 24 = .ok (.iconst 1, 1) := by decide +kernel
theorem dX7_hole_25 : decode cX7_hole 25 = .ok (.dup2, 1) := by decide +kernel
theorem dX7_hole_26 : decode cX7_hole 26 = .ok (.iaload, 1) := by decide +kernel
theorem dX7_hole_27 : decode cX7_hole 27 = .ok (.iconst 1, 1) := by decide +kernel
theorem dX7_hole_28 : decode cX7_hole 28 = .ok (.iload_n 1, 1) := by decide +kernel
theorem dX7_hole_29 : decode cX7_hole 29 = .ok (.iconst 1, 1) := by decide +kernel
theorem dX7_hole_30 : decode cX7_hole 30 = .ok (.isub, 1) := by decide +kernel
theorem dX7_hole_31 : decode cX7_hole 31 = .ok (.ishl, 1) := by decide +kernel
theorem dX7_hole_32 : decode cX7_hole 32 = .ok (.ixor, 1) := by decide +kernel
theorem dX7_hole_33 : decode cX7_hole 33 = .ok (.iastore, 1) := by decide +kernel
theorem dX7_hole_34 : decode cX7_hole 34 = .ok (.aload_n 0, 1) := by decide +kernel
theorem dX7_hole_35 : decode cX7_hole 35 = .ok (.getfield 79, 3) := by decide +kernel
theorem dX7_hole_38 : decode cX7_hole 38 = .ok (.iconst 1, 1) := by decide +kernel
theorem dX7_hole_39 : decode cX7_hole 39 = .ok (.iaload, 1) := by decide +kernel
theorem dX7_hole_40 : decode cX7_hole 40 = .ok (.invokestatic 143, 3) := by decide +kernel
theorem dX7_hole_43 : decode cX7_hole 43 = .ok (.ireturn, 1) := by decide +kernel
set_option maxRecDepth 20000 in
theorem ggX7_mayPair_X7_isIn : GoodIn wsX7_mayPair wsX7_isIn := goodIn_r _ [5] (by decide +kernel) (by decide +kernel)
set_option maxRecDepth 20000 in
theorem gX7_mayPair_X7_isIn : GoodIn wsX7_mayPair (va_wsS RX7 69 yX7_isIn wsX7_isIn) := goodIn_app (goodIn_of _ (by decide +kernel)) ggX7_mayPair_X7_isIn
set_option maxRecDepth 20000 in
theorem ggX7_mayPair_X7_isTold : GoodIn wsX7_mayPair wsX7_isTold := goodIn_r _ [8, 2, 3, 4, 5, 9, 10, 11] (by decide +kernel) (by decide +kernel)
set_option maxRecDepth 20000 in
theorem gX7_mayPair_X7_isTold : GoodIn wsX7_mayPair (va_wsS RX7 129 yX7_isTold wsX7_isTold) := goodIn_app (goodIn_of _ (by decide +kernel)) ggX7_mayPair_X7_isTold
set_option maxRecDepth 20000 in
theorem ggX7_mayPair_X7_bits : GoodIn wsX7_mayPair wsX7_bits := goodIn_r _ [14] (by decide +kernel) (by decide +kernel)
set_option maxRecDepth 20000 in
theorem gX7_mayPair_X7_bits : GoodIn wsX7_mayPair (va_wsS RX7 143 yX7_bits wsX7_bits) := goodIn_app (goodIn_of _ (by decide +kernel)) ggX7_mayPair_X7_bits
theorem dX7_mayPair_0 : decode cX7_mayPair 0 = .ok (.iload_n 1, 1) := by decide +kernel
theorem dX7_mayPair_1 : decode cX7_mayPair 1 = .ok (.iconst 1, 1) := by decide +kernel
theorem dX7_mayPair_2 : decode cX7_mayPair 2 = .ok (.bipush 15, 2) := by decide +kernel
theorem dX7_mayPair_4 : decode cX7_mayPair 4 = .ok (.invokestatic 69, 3) := by decide +kernel
theorem dX7_mayPair_7 : decode cX7_mayPair 7 = .ok (.ifCond .eq 37, 3) := by decide +kernel
theorem dX7_mayPair_10 : decode cX7_mayPair 10 = .ok (.aload_n 0, 1) := by decide +kernel
theorem dX7_mayPair_11 : decode cX7_mayPair 11 = .ok (.getfield 79, 3) := by decide +kernel
theorem dX7_mayPair_14 : decode cX7_mayPair 14 = .ok (.iload_n 1, 1) := by decide +kernel
theorem dX7_mayPair_15 : decode cX7_mayPair 15 = .ok (.invokestatic 129, 3) := by decide +kernel
theorem dX7_mayPair_18 : decode cX7_mayPair 18 = .ok (.iload_n 2, 1) := by decide +kernel
theorem dX7_mayPair_19 : decode cX7_mayPair 19 = .ok (.if_icmp .eq 25, 3) := by decide +kernel
theorem dX7_mayPair_22 : decode cX7_mayPair 22 = .ok (.iload_n 2, 1) := by decide +kernel
theorem dX7_mayPair_23 : decode cX7_mayPair 23 = .ok (.ifCond .eq 17, 3) := by decide +kernel
theorem dX7_mayPair_26 : decode cX7_mayPair 26 = .ok (.aload_n 0, 1) := by decide +kernel
theorem dX7_mayPair_27 : decode cX7_mayPair 27 = .ok (.getfield 79, 3) := by decide +kernel
theorem dX7_mayPair_30 : decode cX7_mayPair 30 = .ok (.iconst 2, 1) := by decide +kernel
theorem dX7_mayPair_31 : decode cX7_mayPair 31 = .ok (.iaload, 1) := by decide +kernel
theorem dX7_mayPair_32 : decode cX7_mayPair 32 = .ok (.invokestatic 143, 3) := by decide +kernel
theorem dX7_mayPair_35 : decode cX7_mayPair 35 = .ok (.bipush 9, 2) := by decide +kernel
theorem dX7_mayPair_37 : decode cX7_mayPair 37 = .ok (.if_icmp .ge 7, 3) := by decide +kernel
theorem dX7_mayPair_40 : decode cX7_mayPair 40 = .ok (.iconst 1, 1) := by decide +kernel
theorem dX7_mayPair_41 : decode cX7_mayPair 41 = .ok (.goto 4, 3) := by decide +kernel
theorem dX7_mayPair_44 : decode cX7_mayPair 44 = .ok (.iconst 0, 1) := by decide +kernel
theorem dX7_mayPair_45 : decode cX7_mayPair 45 = .ok (.ireturn, 1) := by decide +kernel
theorem dX7_turns_0 : decode cX7_turns 0 = .ok (.aload_n 0, 1) := by decide +kernel
theorem dX7_turns_1 : decode cX7_turns 1 = .ok (.getfield 79, 3) := by decide +kernel
theorem dX7_turns_4 : decode cX7_turns 4 = .ok (.iconst 2, 1) := by decide +kernel
theorem dX7_turns_5 : decode cX7_turns 5 = .ok (.dup2, 1) := by decide +kernel
theorem dX7_turns_6 : decode cX7_turns 6 = .ok (.iaload, 1) := by decide +kernel
theorem dX7_turns_7 : decode cX7_turns 7 = .ok (.iconst 1, 1) := by decide +kernel
theorem dX7_turns_8 : decode cX7_turns 8 = .ok (.iload_n 1, 1) := by decide +kernel
theorem dX7_turns_9 : decode cX7_turns 9 = .ok (.iconst 1, 1) := by decide +kernel
theorem dX7_turns_10 : decode cX7_turns 10 = .ok (.isub, 1) := by decide +kernel
theorem dX7_turns_11 : decode cX7_turns 11 = .ok (.ishl, 1) := by decide +kernel
theorem dX7_turns_12 : decode cX7_turns 12 = .ok (.ixor, 1) := by decide +kernel
theorem dX7_turns_13 : decode cX7_turns 13 = .ok (.iastore, 1) := by decide +kernel
theorem dX7_turns_14 : decode cX7_turns 14 = .ok (.aload_n 0, 1) := by decide +kernel
theorem dX7_turns_15 : decode cX7_turns 15 = .ok (.getfield 79, 3) := by decide +kernel
theorem dX7_turns_18 : decode cX7_turns 18 = .ok (.iconst 3, 1) := by decide +kernel
theorem dX7_turns_19 : decode cX7_turns 19 = .ok (.iload_n 1, 1) := by decide +kernel
theorem dX7_turns_20 : decode cX7_turns 20 = .ok (.iadd, 1) := by decide +kernel
theorem dX7_turns_21 : decode cX7_turns 21 = .ok (.iconst 0, 1) := by decide +kernel
theorem dX7_turns_22 : decode cX7_turns 22 = .ok (.iastore, 1) := by decide +kernel
theorem dX7_turns_23 : decode cX7_turns 23 = .ok (.return_, 1) := by decide +kernel
set_option maxRecDepth 20000 in
theorem ggX7_pair_X7_mayPair : GoodIn wsX7_pair wsX7_mayPair := goodIn_r _ [7, 2, 8, 9, 6, 10, 11, 12, 13, 14, 15, 16, 17, 18, 19, 33, 34, 35, 36, 37, 38, 39, 40, 41, 42, 43, 44, 45, 46, 47, 48, 49, 50, 51, 52, 53, 54, 55, 56, 57, 58, 59, 60, 61, 62, 63] (by decide +kernel) (by decide +kernel)
set_option maxRecDepth 20000 in
theorem gX7_pair_X7_mayPair : GoodIn wsX7_pair (wsV RX7 252 RX7 yX7_mayPair wsX7_mayPair) := goodIn_app (goodIn_of _ (by decide +kernel)) ggX7_pair_X7_mayPair
set_option maxRecDepth 20000 in
theorem ggX7_pair_X7_snap : GoodIn wsX7_pair wsX7_snap := goodIn_r _ [23, 24, 25, 2, 26, 27, 6, 28, 33, 34, 35, 36, 37, 38, 39, 40, 41, 42, 43, 44, 45, 46, 47, 48, 49, 50, 51, 52, 53, 54, 55, 56, 57, 58, 59, 60, 61, 62, 63] (by decide +kernel) (by decide +kernel)
set_option maxRecDepth 20000 in
theorem gX7_pair_X7_snap : GoodIn wsX7_pair (wsV RX7 185 RX7 yX7_snap wsX7_snap) := goodIn_app (goodIn_of _ (by decide +kernel)) ggX7_pair_X7_snap
set_option maxRecDepth 20000 in
theorem ggX7_pair_X7_turns : GoodIn wsX7_pair wsX7_turns := goodIn_r _ [32, 2, 33, 34, 35, 36, 37, 38, 39, 40, 41, 42, 43, 44, 45, 46, 47, 48, 49, 50, 51, 52, 53, 54, 55, 56, 57, 58, 59, 60, 61, 62, 63] (by decide +kernel) (by decide +kernel)
set_option maxRecDepth 20000 in
theorem gX7_pair_X7_turns : GoodIn wsX7_pair (wsV RX7 255 RX7 yX7_turns wsX7_turns) := goodIn_app (goodIn_of _ (by decide +kernel)) ggX7_pair_X7_turns
set_option maxRecDepth 20000 in
theorem ggX7_pair_X7_bits : GoodIn wsX7_pair wsX7_bits := goodIn_r _ [19] (by decide +kernel) (by decide +kernel)
set_option maxRecDepth 20000 in
theorem gX7_pair_X7_bits : GoodIn wsX7_pair (va_wsS RX7 143 yX7_bits wsX7_bits) := goodIn_app (goodIn_of _ (by decide +kernel)) ggX7_pair_X7_bits
theorem dX7_pair_0 : decode cX7_pair 0 = .ok (.aload_n 0, 1) := by decide +kernel
theorem dX7_pair_1 : decode cX7_pair 1 = .ok (.iconst 0, 1) := by decide +kernel
theorem dX7_pair_2 : decode cX7_pair 2 = .ok (.putfield 1, 3) := by decide +kernel
theorem dX7_pair_5 : decode cX7_pair 5 = .ok (.aload_n 0, 1) := by decide +kernel
theorem dX7_pair_6 : decode cX7_pair 6 = .ok (.iload_n 1, 1) := by decide +kernel
theorem dX7_pair_7 : decode cX7_pair 7 = .ok (.iload_n 2, 1) := by decide +kernel
theorem dX7_pair_8 : decode cX7_pair 8 = .ok (.invokevirtual 252, 3) := by decide +kernel
theorem dX7_pair_11 : decode cX7_pair 11 = .ok (.ifCond .ne 5, 3) := by decide +kernel
theorem dX7_pair_14 : decode cX7_pair 14 = .ok (.iconst (-1), 1) := by decide +kernel
theorem dX7_pair_15 : decode cX7_pair 15 = .ok (.ireturn, 1) := by decide +kernel
theorem dX7_pair_16 : decode cX7_pair 16 = .ok (.aload_n 0, 1) := by decide +kernel
theorem dX7_pair_17 : decode cX7_pair 17 = .ok (.invokevirtual 185, 3) := by decide +kernel
theorem dX7_pair_20 : decode cX7_pair 20 = .ok (.aload_n 0, 1) := by decide +kernel
theorem dX7_pair_21 : decode cX7_pair 21 = .ok (.iload_n 1, 1) := by decide +kernel
theorem dX7_pair_22 : decode cX7_pair 22 = .ok (.invokevirtual 255, 3) := by decide +kernel
theorem dX7_pair_25 : decode cX7_pair 25 = .ok (.aload_n 0, 1) := by decide +kernel
theorem dX7_pair_26 : decode cX7_pair 26 = .ok (.getfield 79, 3) := by decide +kernel
theorem dX7_pair_29 : decode cX7_pair 29 = .ok (.iconst 2, 1) := by decide +kernel
theorem dX7_pair_30 : decode cX7_pair 30 = .ok (.iaload, 1) := by decide +kernel
theorem dX7_pair_31 : decode cX7_pair 31 = .ok (.invokestatic 143, 3) := by decide +kernel
theorem dX7_pair_34 : decode cX7_pair 34 = .ok (.ireturn, 1) := by decide +kernel
set_option maxRecDepth 20000 in
theorem ggX7_pin_X7_isTold : GoodIn wsX7_pin wsX7_isTold := goodIn_r _ [6, 7, 8, 5, 9, 10, 11, 12] (by decide +kernel) (by decide +kernel)
set_option maxRecDepth 20000 in
theorem gX7_pin_X7_isTold : GoodIn wsX7_pin (va_wsS RX7 129 yX7_isTold wsX7_isTold) := goodIn_app (goodIn_of _ (by decide +kernel)) ggX7_pin_X7_isTold
set_option maxRecDepth 20000 in
theorem ggX7_pin_X7_isIn : GoodIn wsX7_pin wsX7_isIn := goodIn_r _ [9] (by decide +kernel) (by decide +kernel)
set_option maxRecDepth 20000 in
theorem gX7_pin_X7_isIn : GoodIn wsX7_pin (va_wsS RX7 69 yX7_isIn wsX7_isIn) := goodIn_app (goodIn_of _ (by decide +kernel)) ggX7_pin_X7_isIn
set_option maxRecDepth 20000 in
theorem ggX7_pin_X7_mayPin : GoodIn wsX7_pin wsX7_mayPin := goodIn_r _ [15, 16, 17, 5, 18, 3, 4, 6, 7, 8, 9, 10, 11, 12] (by decide +kernel) (by decide +kernel)
set_option maxRecDepth 20000 in
theorem gX7_pin_X7_mayPin : GoodIn wsX7_pin (va_wsS RX7 150 yX7_mayPin wsX7_mayPin) := goodIn_app (goodIn_of _ (by decide +kernel)) ggX7_pin_X7_mayPin
set_option maxRecDepth 20000 in
theorem ggX7_pin_X7_snap : GoodIn wsX7_pin wsX7_snap := goodIn_r _ [22, 23, 24, 2, 25, 26, 5, 27, 28, 29, 30, 31, 32, 33, 34, 35, 36, 37, 38, 39, 40, 41, 42, 43, 44, 45, 46, 47, 48, 49, 50, 51, 52, 53, 54, 55, 56, 57, 58] (by decide +kernel) (by decide +kernel)
set_option maxRecDepth 20000 in
theorem gX7_pin_X7_snap : GoodIn wsX7_pin (wsV RX7 185 RX7 yX7_snap wsX7_snap) := goodIn_app (goodIn_of _ (by decide +kernel)) ggX7_pin_X7_snap
theorem dX7_pin_0 : decode cX7_pin 0 = .ok (.aload_n 0, 1) := by decide +kernel
theorem dX7_pin_1 : decode cX7_pin 1 = .ok (.iconst 0, 1) := by decide +kernel
theorem dX7_pin_2 : decode cX7_pin 2 = .ok (.putfield 1, 3) := by decide +kernel
theorem dX7_pin_5 : decode cX7_pin 5 = .ok (.aload_n 0, 1) := by decide +kernel
theorem dX7_pin_6 : decode cX7_pin 6 = .ok (.getfield 79, 3) := by decide +kernel
theorem dX7_pin_9 : decode cX7_pin 9 = .ok (.iload_n 1, 1) := by decide +kernel
theorem dX7_pin_10 : decode cX7_pin 10 = .ok (.invokestatic 129, 3) := by decide +kernel
theorem dX7_pin_13 : decode cX7_pin 13 = .ok (.ifCond .eq 23, 3) := by decide +kernel
theorem dX7_pin_16 : decode cX7_pin 16 = .ok (.iload_n 2, 1) := by decide +kernel
theorem dX7_pin_17 : decode cX7_pin 17 = .ok (.ifCond .eq 21, 3) := by decide +kernel
theorem dX7_pin_20 : decode cX7_pin 20 = .ok (.iload_n 2, 1) := by decide +kernel
theorem dX7_pin_21 : decode cX7_pin 21 = .ok (.iconst 1, 1) := by decide +kernel
theorem dX7_pin_22 : decode cX7_pin 22 = .ok (.aload_n 0, 1) := by decide +kernel
theorem dX7_pin_23 : decode cX7_pin 23 = .ok (.getfield 79, 3) := by decide +kernel
theorem dX7_pin_26 : decode cX7_pin 26 = .ok (.iconst 0, 1) := by decide +kernel
theorem dX7_pin_27 : decode cX7_pin 27 = .ok (.iaload, 1) := by decide +kernel
theorem dX7_pin_28 : decode cX7_pin 28 = .ok (.iload_n 1, 1) := by decide +kernel
theorem dX7_pin_29 : decode cX7_pin 29 = .ok (.isub, 1) := by decide +kernel
theorem dX7_pin_30 : decode cX7_pin 30 = .ok (.invokestatic 69, 3) := by decide +kernel
theorem dX7_pin_33 : decode cX7_pin 33 = .ok (.ifCond .ne 5, 3) := by decide +kernel
theorem dX7_pin_36 : decode cX7_pin 36 = .ok (.iconst (-1), 1) := by decide +kernel
theorem dX7_pin_37 : decode cX7_pin 37 = .ok (.ireturn, 1) := by decide +kernel
theorem dX7_pin_38 : decode cX7_pin 38 = .ok (.aload_n 0, 1) := by decide +kernel
theorem dX7_pin_39 : decode cX7_pin 39 = .ok (.getfield 79, 3) := by decide +kernel
theorem dX7_pin_42 : decode cX7_pin 42 = .ok (.iconst 3, 1) := by decide +kernel
theorem dX7_pin_43 : decode cX7_pin 43 = .ok (.iload_n 1, 1) := by decide +kernel
theorem dX7_pin_44 : decode cX7_pin 44 = .ok (.iadd, 1) := by decide +kernel
theorem dX7_pin_45 : decode cX7_pin 45 = .ok (.iaload, 1) := by decide +kernel
theorem dX7_pin_46 : decode cX7_pin 46 = .ok (.iload_n 2, 1) := by decide +kernel
theorem dX7_pin_47 : decode cX7_pin 47 = .ok (.if_icmp .ne 5, 3) := by decide +kernel
theorem dX7_pin_50 : decode cX7_pin 50 = .ok (.iconst 1, 1) := by decide +kernel
theorem dX7_pin_51 : decode cX7_pin 51 = .ok (.ireturn, 1) := by decide +kernel
theorem dX7_pin_52 : decode cX7_pin 52 = .ok (.iload_n 2, 1) := by decide +kernel
theorem dX7_pin_53 : decode cX7_pin 53 = .ok (.ifCond .le 17, 3) := by decide +kernel
theorem dX7_pin_56 : decode cX7_pin 56 = .ok (.aload_n 0, 1) := by decide +kernel
theorem dX7_pin_57 : decode cX7_pin 57 = .ok (.getfield 79, 3) := by decide +kernel
theorem dX7_pin_60 : decode cX7_pin 60 = .ok (.iload_n 1, 1) := by decide +kernel
theorem dX7_pin_61 : decode cX7_pin 61 = .ok (.iload_n 2, 1) := by decide +kernel
theorem dX7_pin_62 : decode cX7_pin 62 = .ok (.invokestatic 150, 3) := by decide +kernel
theorem dX7_pin_65 : decode cX7_pin 65 = .ok (.ifCond .ne 5, 3) := by decide +kernel
theorem dX7_pin_68 : decode cX7_pin 68 = .ok (.iconst 2, 1) := by decide +kernel
theorem dX7_pin_69 : decode cX7_pin 69 = .ok (.ireturn, 1) := by decide +kernel
theorem dX7_pin_70 : decode cX7_pin 70 = .ok (.aload_n 0, 1) := by decide +kernel
theorem dX7_pin_71 : decode cX7_pin 71 = .ok (.invokevirtual 185, 3) := by decide +kernel
theorem dX7_pin_74 : decode cX7_pin 74 = .ok (.aload_n 0, 1) := by decide +kernel
theorem dX7_pin_75 : decode cX7_pin 75 = .ok (.getfield 79, 3) := by decide +kernel
theorem dX7_pin_78 : decode cX7_pin 78 = .ok (.iconst 3, 1) := by decide +kernel
theorem dX7_pin_79 : decode cX7_pin 79 = .ok (.iload_n 1, 1) := by decide +kernel
theorem dX7_pin_80 : decode cX7_pin 80 = .ok (.iadd, 1) := by decide +kernel
theorem dX7_pin_81 : decode cX7_pin 81 = .ok (.iload_n 2, 1) := by decide +kernel
theorem dX7_pin_82 : decode cX7_pin 82 = .ok (.iastore, 1) := by decide +kernel
theorem dX7_pin_83 : decode cX7_pin 83 = .ok (.iconst 0, 1) := by decide +kernel
theorem dX7_pin_84 : decode cX7_pin 84 = .ok (.ireturn, 1) := by decide +kernel
theorem dX7_draw_0 : decode cX7_draw 0 = .ok (.aload_n 0, 1) := by decide +kernel
theorem dX7_draw_1 : decode cX7_draw 1 = .ok (.aload_n 0, 1) := by decide +kernel
theorem dX7_draw_2 : decode cX7_draw 2 = .ok (.getfield 258, 3) := by decide +kernel
theorem dX7_draw_5 : decode cX7_draw 5 = .ok (.ldc_w 261, 3) := by decide +kernel
theorem dX7_draw_8 : decode cX7_draw 8 = .ok (.imul, 1) := by decide +kernel
theorem dX7_draw_9 : decode cX7_draw 9 = .ok (.sipush 12345, 3) := by decide +kernel
theorem dX7_draw_12 : decode cX7_draw 12 = .ok (.iadd, 1) := by decide +kernel
theorem dX7_draw_13 : decode cX7_draw 13 = .ok (.putfield 258, 3) := by decide +kernel
theorem dX7_draw_16 : decode cX7_draw 16 = .ok (.aload_n 0, 1) := by decide +kernel
theorem dX7_draw_17 : decode cX7_draw 17 = .ok (.getfield 258, 3) := by decide +kernel
theorem dX7_draw_20 : decode cX7_draw 20 = .ok (.bipush 8, 2) := by decide +kernel
theorem dX7_draw_22 : decode cX7_draw 22 = .ok (.iushr, 1) := by decide +kernel
theorem dX7_draw_23 : decode cX7_draw 23 = .ok (.iload_n 1, 1) := by decide +kernel
theorem dX7_draw_24 : decode cX7_draw 24 = .ok (.irem, 1) := by decide +kernel
theorem dX7_draw_25 : decode cX7_draw 25 = .ok (.ireturn, 1) := by decide +kernel
set_option maxRecDepth 20000 in
theorem ggX7_distance_X7_isTold : GoodIn wsX7_distance wsX7_isTold := goodIn_r _ [5, 6, 7, 4, 8, 9, 10, 11] (by decide +kernel) (by decide +kernel)
set_option maxRecDepth 20000 in
theorem gX7_distance_X7_isTold : GoodIn wsX7_distance (va_wsS RX7 129 yX7_isTold wsX7_isTold) := goodIn_app (goodIn_of _ (by decide +kernel)) ggX7_distance_X7_isTold
theorem dX7_distance_0 : decode cX7_distance 0 = .ok (.iload_n 1, 1) := by decide +kernel
theorem dX7_distance_1 : decode cX7_distance 1 = .ok (.istore_n 2, 1) := by decide +kernel
theorem dX7_distance_2 : decode cX7_distance 2 = .ok (.iconst 1, 1) := by decide +kernel
theorem dX7_distance_3 : decode cX7_distance 3 = .ok (.istore_n 3, 1) := by decide +kernel
theorem dX7_distance_4 : decode cX7_distance 4 = .ok (.aload_n 0, 1) := by decide +kernel
theorem dX7_distance_5 : decode cX7_distance 5 = .ok (.getfield 79, 3) := by decide +kernel
theorem dX7_distance_8 : decode cX7_distance 8 = .ok (.iload_n 3, 1) := by decide +kernel
theorem dX7_distance_9 : decode cX7_distance 9 = .ok (.invokestatic 129, 3) := by decide +kernel
theorem dX7_distance_12 : decode cX7_distance 12 = .ok (.ifCond .eq 7, 3) := by decide +kernel
theorem dX7_distance_15 : decode cX7_distance 15 = .ok (.iload_n 2, 1) := by decide +kernel
theorem dX7_distance_16 : decode cX7_distance 16 = .ok (.ifCond .le 23, 3) := by decide +kernel
theorem dX7_distance_19 : decode cX7_distance 19 = .ok (.aload_n 0, 1) := by decide +kernel
theorem dX7_distance_20 : decode cX7_distance 20 = .ok (.getfield 79, 3) := by decide +kernel
theorem dX7_distance_23 : decode cX7_distance 23 = .ok (.iload_n 3, 1) := by decide +kernel
theorem dX7_distance_24 : decode cX7_distance 24 = .ok (.invokestatic 129, 3) := by decide +kernel
theorem dX7_distance_27 : decode cX7_distance 27 = .ok (.ifCond .eq 6, 3) := by decide +kernel
theorem dX7_distance_30 : decode cX7_distance 30 = .ok (.iinc 2 (-1), 3) := by decide +kernel
theorem dX7_distance_33 : decode cX7_distance 33 = .ok (.iinc 3 1, 3) := by decide +kernel
theorem dX7_distance_36 : decode cX7_distance 36 = .ok (.goto (-32), 3) := by decide +kernel
theorem dX7_distance_39 : decode cX7_distance 39 = .ok (.iload_n 3, 1) := by decide +kernel
theorem dX7_distance_40 : decode cX7_distance 40 = .ok (.ireturn, 1) := by decide +kernel
set_option maxRecDepth 20000 in
theorem ggX7_does_X7_draw : GoodIn wsX7_does wsX7_draw := goodIn_r _ [6, 7, 8, 39, 40, 41, 42, 43, 44, 45, 46, 47, 48, 49, 50, 51, 52, 53, 54, 55, 56, 57, 58, 59, 60, 61, 62, 63, 64, 65, 66, 67, 68, 69] (by decide +kernel) (by decide +kernel)
set_option maxRecDepth 20000 in
theorem gX7_does_X7_draw : GoodIn wsX7_does (wsV RX7 262 RX7 yX7_draw wsX7_draw) := goodIn_app (goodIn_of _ (by decide +kernel)) ggX7_does_X7_draw
set_option maxRecDepth 20000 in
theorem ggX7_does_X7_pins : GoodIn wsX7_does wsX7_pins := goodIn_r _ [11, 12, 13, 5, 14, 15, 16, 17, 18, 19, 20] (by decide +kernel) (by decide +kernel)
set_option maxRecDepth 20000 in
theorem gX7_does_X7_pins : GoodIn wsX7_does (va_wsS RX7 133 yX7_pins wsX7_pins) := goodIn_app (goodIn_of _ (by decide +kernel)) ggX7_does_X7_pins
set_option maxRecDepth 20000 in
theorem ggX7_does_X7_has : GoodIn wsX7_does wsX7_has := goodIn_r _ [20] (by decide +kernel) (by decide +kernel)
set_option maxRecDepth 20000 in
theorem gX7_does_X7_has : GoodIn wsX7_does (va_wsS RX7 125 yX7_has wsX7_has) := goodIn_app (goodIn_of _ (by decide +kernel)) ggX7_does_X7_has
set_option maxRecDepth 20000 in
theorem ggX7_does_X7_isTold : GoodIn wsX7_does wsX7_isTold := goodIn_r _ [14, 15, 16, 5, 17, 18, 19, 20] (by decide +kernel) (by decide +kernel)
set_option maxRecDepth 20000 in
theorem gX7_does_X7_isTold : GoodIn wsX7_does (va_wsS RX7 129 yX7_isTold wsX7_isTold) := goodIn_app (goodIn_of _ (by decide +kernel)) ggX7_does_X7_isTold
set_option maxRecDepth 20000 in
theorem ggX7_does_X7_mayPair : GoodIn wsX7_does wsX7_mayPair := goodIn_r _ [24, 1, 15, 16, 5, 17, 12, 13, 14, 18, 19, 20, 25, 26, 27, 39, 40, 41, 42, 43, 44, 45, 46, 47, 48, 49, 50, 51, 52, 53, 54, 55, 56, 57, 58, 59, 60, 61, 62, 63, 64, 65, 66, 67, 68, 69] (by decide +kernel) (by decide +kernel)
set_option maxRecDepth 20000 in
theorem gX7_does_X7_mayPair : GoodIn wsX7_does (wsV RX7 252 RX7 yX7_mayPair wsX7_mayPair) := goodIn_app (goodIn_of _ (by decide +kernel)) ggX7_does_X7_mayPair
set_option maxRecDepth 20000 in
theorem ggX7_does_X7_turns : GoodIn wsX7_does wsX7_turns := goodIn_r _ [31, 1, 39, 40, 41, 42, 43, 44, 45, 46, 47, 48, 49, 50, 51, 52, 53, 54, 55, 56, 57, 58, 59, 60, 61, 62, 63, 64, 65, 66, 67, 68, 69] (by decide +kernel) (by decide +kernel)
set_option maxRecDepth 20000 in
theorem gX7_does_X7_turns : GoodIn wsX7_does (wsV RX7 255 RX7 yX7_turns wsX7_turns) := goodIn_app (goodIn_of _ (by decide +kernel)) ggX7_does_X7_turns
set_option maxRecDepth 20000 in
theorem ggX7_does_X7_bits : GoodIn wsX7_does wsX7_bits := goodIn_r _ [27] (by decide +kernel) (by decide +kernel)
set_option maxRecDepth 20000 in
theorem gX7_does_X7_bits : GoodIn wsX7_does (va_wsS RX7 143 yX7_bits wsX7_bits) := goodIn_app (goodIn_of _ (by decide +kernel)) ggX7_does_X7_bits
set_option maxRecDepth 20000 in
theorem ggX7_does_X7_distance : GoodIn wsX7_does wsX7_distance := goodIn_r _ [35, 1, 12, 13, 5, 14, 15, 16, 17, 18, 19, 20, 39, 40, 41, 42, 43, 44, 45, 46, 47, 48, 49, 50, 51, 52, 53, 54, 55, 56, 57, 58, 59, 60, 61, 62, 63, 64, 65, 66, 67, 68, 69] (by decide +kernel) (by decide +kernel)
set_option maxRecDepth 20000 in
theorem gX7_does_X7_distance : GoodIn wsX7_does (wsV RX7 265 RX7 yX7_distance wsX7_distance) := goodIn_app (goodIn_of _ (by decide +kernel)) ggX7_does_X7_distance
set_option maxRecDepth 20000 in
theorem ggX7_does_X7_mayPin : GoodIn wsX7_does wsX7_mayPin := goodIn_r _ [38, 9, 10, 5, 11, 12, 13, 14, 15, 16, 17, 18, 19, 20] (by decide +kernel) (by decide +kernel)
set_option maxRecDepth 20000 in
theorem gX7_does_X7_mayPin : GoodIn wsX7_does (va_wsS RX7 150 yX7_mayPin wsX7_mayPin) := goodIn_app (goodIn_of _ (by decide +kernel)) ggX7_does_X7_mayPin
theorem dX7_does_0 : decode cX7_does 0 = .ok (.aload_n 0, 1) := by decide +kernel
theorem dX7_does_1 : decode cX7_does 1 = .ok (.iconst 4, 1) := by decide +kernel
theorem dX7_does_2 : decode cX7_does 2 = .ok (.invokevirtual 262, 3) := by decide +kernel
theorem dX7_does_5 : decode cX7_does 5 = .ok (.istore_n 1, 1) := by decide +kernel
theorem dX7_does_6 : decode cX7_does 6 = .ok (.aload_n 0, 1) := by decide +kernel
theorem dX7_does_7 : decode cX7_does 7 = .ok (.getfield 79, 3) := by decide +kernel
theorem dX7_does_10 : decode cX7_does 10 = .ok (.iconst 0, 1) := by decide +kernel
theorem dX7_does_11 : decode cX7_does 11 = .ok (.iaload, 1) := by decide +kernel
theorem dX7_does_12 : decode cX7_does 12 = .ok (.ifCond .ne 5, 3) := by decide +kernel
theorem dX7_does_15 : decode cX7_does 15 = .ok (.iconst 0, 1) := by decide +kernel
theorem dX7_does_16 : decode cX7_does 16 = .ok (.ireturn, 1) := by decide +kernel
theorem dX7_does_17 : decode cX7_does 17 = .ok (.iload_n 1, 1) := by decide +kernel
theorem dX7_does_18 : decode cX7_does 18 = .ok (.ifCond .ne 51, 3) := by decide +kernel
theorem dX7_does_21 : decode cX7_does 21 = .ok (.aload_n 0, 1) := by decide +kernel
theorem dX7_does_22 : decode cX7_does 22 = .ok (.aload_n 0, 1) := by decide +kernel
theorem dX7_does_23 : decode cX7_does 23 = .ok (.getfield 79, 3) := by decide +kernel
theorem dX7_does_26 : decode cX7_does 26 = .ok (.iconst 0, 1) := by decide +kernel
theorem dX7_does_27 : decode cX7_does 27 = .ok (.iaload, 1) := by decide +kernel
theorem dX7_does_28 : decode cX7_does 28 = .ok (.invokevirtual 262, 3) := by decide +kernel
theorem dX7_does_31 : decode cX7_does 31 = .ok (.iconst 1, 1) := by decide +kernel
theorem dX7_does_32 : decode cX7_does 32 = .ok (.iadd, 1) := by decide +kernel
theorem dX7_does_33 : decode cX7_does 33 = .ok (.istore_n 2, 1) := by decide +kernel
theorem dX7_does_34 : decode cX7_does 34 = .ok (.aload_n 0, 1) := by decide +kernel
theorem dX7_does_35 : decode cX7_does 35 = .ok (.getfield 79, 3) := by decide +kernel
theorem dX7_does_38 : decode cX7_does 38 = .ok (.iconst 0, 1) := by decide +kernel
theorem dX7_does_39 : decode cX7_does 39 = .ok (.invokestatic 133, 3) := by decide +kernel
theorem dX7_does_42 : decode cX7_does 42 = .ok (.iload_n 2, 1) := by decide +kernel
theorem dX7_does_43 : decode cX7_does 43 = .ok (.iconst 1, 1) := by decide +kernel
theorem dX7_does_44 : decode cX7_does 44 = .ok (.isub, 1) := by decide +kernel
theorem dX7_does_45 : decode cX7_does 45 = .ok (.invokestatic 125, 3) := by decide +kernel
theorem dX7_does_48 : decode cX7_does 48 = .ok (.ifCond .eq 5, 3) := by decide +kernel
theorem dX7_does_51 : decode cX7_does 51 = .ok (.iconst 0, 1) := by decide +kernel
theorem dX7_does_52 : decode cX7_does 52 = .ok (.ireturn, 1) := by decide +kernel
theorem dX7_does_53 : decode cX7_does 53 = .ok (.aload_n 0, 1) := by decide +kernel
theorem dX7_does_54 : decode cX7_does 54 = .ok (.getfield 79, 3) := by decide +kernel
theorem dX7_does_57 : decode cX7_does 57 = .ok (.iconst 1, 1) := by decide +kernel
theorem dX7_does_58 : decode cX7_does 58 = .ok (.dup2, 1) := by decide +kernel
theorem dX7_does_59 : decode cX7_does 59 = .ok (.iaload, 1) := by decide +kernel
theorem dX7_does_60 : decode cX7_does 60 = .ok (.iconst 1, 1) := by decide +kernel
theorem dX7_does_61 : decode cX7_does 61 = .ok (.iload_n 2, 1) := by decide +kernel
theorem dX7_does_62 : decode cX7_does 62 = .ok (.iconst 1, 1) := by decide +kernel
theorem dX7_does_63 : decode cX7_does 63 = .ok (.isub, 1) := by decide +kernel
theorem dX7_does_64 : decode cX7_does 64 = .ok (.ishl, 1) := by decide +kernel
theorem dX7_does_65 : decode cX7_does 65 = .ok (.ixor, 1) := by decide +kernel
theorem dX7_does_66 : decode cX7_does 66 = .ok (.iastore, 1) := by decide +kernel
theorem dX7_does_67 : decode cX7_does 67 = .ok (.iconst 1, 1) := by decide +kernel
theorem dX7_does_68 : decode cX7_does 68 = .ok (.ireturn, 1) := by decide +kernel
theorem dX7_does_69 : decode cX7_does 69 = .ok (.iload_n 1, 1) := by decide +kernel
theorem dX7_does_70 : decode cX7_does 70 = .ok (.iconst 1, 1) := by decide +kernel
theorem dX7_does_71 : decode cX7_does 71 = .ok (.if_icmp .ne 45, 3) := by decide +kernel
theorem dX7_does_74 : decode cX7_does 74 = .ok (.aload_n 0, 1) := by decide +kernel
theorem dX7_does_75 : decode cX7_does 75 = .ok (.bipush 15, 2) := by decide +kernel
theorem dX7_does_77 : decode cX7_does 77 = .ok (.invokevirtual 262, 3) := by decide +kernel
theorem dX7_does_80 : decode cX7_does 80 = .ok (.iconst 1, 1) := by decide +kernel
theorem dX7_does_81 : decode cX7_does 81 = .ok (.iadd, 1) := by decide +kernel
theorem dX7_does_82 : decode cX7_does 82 = .ok (.istore_n 2, 1) := by decide +kernel
theorem dX7_does_83 : decode cX7_does 83 = .ok (.aload_n 0, 1) := by decide +kernel
theorem dX7_does_84 : decode cX7_does 84 = .ok (.iload_n 2, 1) := by decide +kernel
theorem dX7_does_85 : decode cX7_does 85 = .ok (.aload_n 0, 1) := by decide +kernel
theorem dX7_does_86 : decode cX7_does 86 = .ok (.getfield 79, 3) := by decide +kernel
theorem dX7_does_89 : decode cX7_does 89 = .ok (.iload_n 2, 1) := by decide +kernel
theorem dX7_does_90 : decode cX7_does 90 = .ok (.invokestatic 129, 3) := by decide +kernel
theorem dX7_does_93 : decode cX7_does 93 = .ok (.ifCond .ne 7, 3) := by decide +kernel
theorem dX7_does_96 : decode cX7_does 96 = .ok (.iconst 1, 1) := by decide +kernel
theorem dX7_does_97 : decode cX7_does 97 = .ok (.goto 4, 3) := by decide +kernel
theorem dX7_does_100 : decode cX7_does 100 = .ok (.iconst 0, 1) := by decide +kernel
theorem dX7_does_101 : decode cX7_does 101 = .ok (.invokevirtual 252, 3) := by decide +kernel
theorem dX7_does_104 : decode cX7_does 104 = .ok (.ifCond .ne 5, 3) := by decide +kernel
theorem dX7_does_107 : decode cX7_does 107 = .ok (.iconst 0, 1) := by decide +kernel
theorem dX7_does_108 : decode cX7_does 108 = .ok (.ireturn, 1) := by decide +kernel
theorem dX7_does_109 : decode cX7_does 109 = .ok (.aload_n 0, 1) := by decide +kernel
theorem dX7_does_110 : decode cX7_does 110 = .ok (.iload_n 2, 1) := by decide +kernel
theorem dX7_does_111 : decode cX7_does 111 = .ok (.invokevirtual 255, 3) := by decide +kernel
theorem dX7_does_114 : decode cX7_does 114 = .ok (.iconst 1, 1) := by decide +kernel
theorem dX7_does_115 : decode cX7_does 115 = .ok (.ireturn, 1) := by decide +kernel
theorem dX7_does_116 : decode cX7_does 116 = .ok (.aload_n 0, 1) := by decide +kernel
theorem dX7_does_117 : decode cX7_does 117 = .ok (.getfield 79, 3) := by decide +kernel
theorem dX7_does_120 : decode cX7_does 120 = .ok (.iconst 2, 1) := by decide +kernel
theorem dX7_does_121 : decode cX7_does 121 = .ok (.iaload, 1) := by decide +kernel
theorem dX7_does_122 : decode cX7_does 122 = .ok (.ifCond .ne 5, 3) := by decide +kernel
theorem dX7_does_125 : decode cX7_does 125 = .ok (.iconst 0, 1) := by decide +kernel
theorem dX7_does_126 : decode cX7_does 126 = .ok (.ireturn, 1) := by decide +kernel
theorem dX7_does_127 : decode cX7_does 127 = .ok (.aload_n 0, 1) := by decide +kernel
theorem dX7_does_128 : decode cX7_does 128 = .ok (.aload_n 0, 1) := by decide +kernel
theorem dX7_does_129 : decode cX7_does 129 = .ok (.aload_n 0, 1) := by decide +kernel
theorem dX7_does_130 : decode cX7_does 130 = .ok (.getfield 79, 3) := by decide +kernel
theorem dX7_does_133 : decode cX7_does 133 = .ok (.iconst 2, 1) := by decide +kernel
theorem dX7_does_134 : decode cX7_does 134 = .ok (.iaload, 1) := by decide +kernel
theorem dX7_does_135 : decode cX7_does 135 = .ok (.invokestatic 143, 3) := by decide +kernel
theorem dX7_does_138 : decode cX7_does 138 = .ok (.invokevirtual 262, 3) := by decide +kernel
theorem dX7_does_141 : decode cX7_does 141 = .ok (.invokevirtual 265, 3) := by decide +kernel
theorem dX7_does_144 : decode cX7_does 144 = .ok (.istore_n 2, 1) := by decide +kernel
theorem dX7_does_145 : decode cX7_does 145 = .ok (.aload_n 0, 1) := by decide +kernel
theorem dX7_does_146 : decode cX7_does 146 = .ok (.aload_n 0, 1) := by decide +kernel
theorem dX7_does_147 : decode cX7_does 147 = .ok (.getfield 79, 3) := by decide +kernel
theorem dX7_does_150 : decode cX7_does 150 = .ok (.iconst 0, 1) := by decide +kernel
theorem dX7_does_151 : decode cX7_does 151 = .ok (.iaload, 1) := by decide +kernel
theorem dX7_does_152 : decode cX7_does 152 = .ok (.invokevirtual 262, 3) := by decide +kernel
theorem dX7_does_155 : decode cX7_does 155 = .ok (.iconst 1, 1) := by decide +kernel
theorem dX7_does_156 : decode cX7_does 156 = .ok (.iadd, 1) := by decide +kernel
theorem dX7_does_157 : decode cX7_does 157 = .ok (.istore_n 3, 1) := by decide +kernel
theorem dX7_does_158 : decode cX7_does 158 = .ok (.aload_n 0, 1) := by decide +kernel
theorem dX7_does_159 : decode cX7_does 159 = .ok (.getfield 79, 3) := by decide +kernel
theorem dX7_does_162 : decode cX7_does 162 = .ok (.iconst 3, 1) := by decide +kernel
theorem dX7_does_163 : decode cX7_does 163 = .ok (.iload_n 2, 1) := by decide +kernel
theorem dX7_does_164 : decode cX7_does 164 = .ok (.iadd, 1) := by decide +kernel
theorem dX7_does_165 : decode cX7_does 165 = .ok (.iaload, 1) := by decide +kernel
theorem dX7_does_166 : decode cX7_does 166 = .ok (.ifCond .le 14, 3) := by decide +kernel
theorem dX7_does_169 : decode cX7_does 169 = .ok (.aload_n 0, 1) := by decide +kernel
theorem dX7_does_170 : decode cX7_does 170 = .ok (.getfield 79, 3) := by decide +kernel
theorem dX7_does_173 : decode cX7_does 173 = .ok (.iconst 3, 1) := by decide +kernel
theorem dX7_does_174 : decode cX7_does 174 = .ok (.iload_n 2, 1) := by decide +kernel
theorem dX7_does_175 : decode cX7_does 175 = .ok (.iadd, 1) := by decide +kernel
theorem dX7_does_176 : decode cX7_does 176 = .ok (.iconst 0, 1) := by decide +kernel
theorem dX7_does_177 : decode cX7_does 177 = .ok (.iastore, 1) := by decide +kernel
theorem dX7_does_178 : decode cX7_does 178 = .ok (.iconst 1, 1) := by decide +kernel
theorem dX7_does_179 : decode cX7_does 179 = .ok (.ireturn, 1) := by decide +kernel
theorem dX7_does_180 : decode cX7_does 180 = .ok (.iload_n 3, 1) := by decide +kernel
theorem dX7_does_181 : decode cX7_does 181 = .ok (.iload_n 2, 1) := by decide +kernel
theorem dX7_does_182 : decode cX7_does 182 = .ok (.iadd, 1) := by decide +kernel
theorem dX7_does_183 : decode cX7_does 183 = .ok (.aload_n 0, 1) := by decide +kernel
theorem dX7_does_184 : decode cX7_does 184 = .ok (.getfield 79, 3) := by decide +kernel
theorem dX7_does_187 : decode cX7_does 187 = .ok (.iconst 0, 1) := by decide +kernel
theorem dX7_does_188 : decode cX7_does 188 = .ok (.iaload, 1) := by decide +kernel
theorem dX7_does_189 : decode cX7_does 189 = .ok (.if_icmp .gt 15, 3) := by decide +kernel
theorem dX7_does_192 : decode cX7_does 192 = .ok (.aload_n 0, 1) := by decide +kernel
theorem dX7_does_193 : decode cX7_does 193 = .ok (.getfield 79, 3) := by decide +kernel
theorem dX7_does_196 : decode cX7_does 196 = .ok (.iload_n 2, 1) := by decide +kernel
theorem dX7_does_197 : decode cX7_does 197 = .ok (.iload_n 3, 1) := by decide +kernel
theorem dX7_does_198 : decode cX7_does 198 = .ok (.invokestatic 150, 3) := by decide +kernel
theorem dX7_does_201 : decode cX7_does 201 = .ok (.ifCond .ne 5, 3) := by decide +kernel
theorem dX7_does_204 : decode cX7_does 204 = .ok (.iconst 0, 1) := by decide +kernel
theorem dX7_does_205 : decode cX7_does 205 = .ok (.ireturn, 1) := by decide +kernel
theorem dX7_does_206 : decode cX7_does 206 = .ok (.aload_n 0, 1) := by decide +kernel
theorem dX7_does_207 : decode cX7_does 207 = .ok (.getfield 79, 3) := by decide +kernel
theorem dX7_does_210 : decode cX7_does 210 = .ok (.iconst 3, 1) := by decide +kernel
theorem dX7_does_211 : decode cX7_does 211 = .ok (.iload_n 2, 1) := by decide +kernel
theorem dX7_does_212 : decode cX7_does 212 = .ok (.iadd, 1) := by decide +kernel
theorem dX7_does_213 : decode cX7_does 213 = .ok (.iload_n 3, 1) := by decide +kernel
theorem dX7_does_214 : decode cX7_does 214 = .ok (.iastore, 1) := by decide +kernel
theorem dX7_does_215 : decode cX7_does 215 = .ok (.iconst 1, 1) := by decide +kernel
theorem dX7_does_216 : decode cX7_does 216 = .ok (.ireturn, 1) := by decide +kernel
set_option maxRecDepth 20000 in
theorem ggX7_drawn_X7_isIn : GoodIn wsX7_drawn wsX7_isIn := goodIn_r _ [8] (by decide +kernel) (by decide +kernel)
set_option maxRecDepth 20000 in
theorem gX7_drawn_X7_isIn : GoodIn wsX7_drawn (va_wsS RX7 69 yX7_isIn wsX7_isIn) := goodIn_app (goodIn_of _ (by decide +kernel)) ggX7_drawn_X7_isIn
set_option maxRecDepth 20000 in
theorem ggX7_drawn_X7_copy : GoodIn wsX7_drawn wsX7_copy := goodIn_r _ [11] (by decide +kernel) (by decide +kernel)
set_option maxRecDepth 20000 in
theorem gX7_drawn_X7_copy : GoodIn wsX7_drawn (va_wsS RX7 178 yX7_copy wsX7_copy) := goodIn_app (goodIn_of _ (by decide +kernel)) ggX7_drawn_X7_copy
set_option maxRecDepth 20000 in
theorem ggX7_drawn_X7_does : GoodIn wsX7_drawn wsX7_does := goodIn_r _ [15, 2, 16, 17, 18, 7, 19, 4, 20, 21, 22, 23, 24, 25, 26, 5, 6, 8, 27, 28, 29, 30, 31, 32, 33, 34, 35, 36, 37, 38, 39, 40, 41, 42, 43, 44, 45, 46, 47, 59, 60, 61, 62, 63, 64, 65, 66, 67, 68, 69, 70, 71, 72, 73, 74, 75, 76, 77, 78, 79, 80, 81, 82, 83, 84, 85, 86, 87, 88, 89] (by decide +kernel) (by decide +kernel)
set_option maxRecDepth 20000 in
theorem gX7_drawn_X7_does : GoodIn wsX7_drawn (wsV RX7 268 RX7 yX7_does wsX7_does) := goodIn_app (goodIn_of _ (by decide +kernel)) ggX7_drawn_X7_does
set_option maxRecDepth 20000 in
theorem ggX7_drawn_X7_stay : GoodIn wsX7_drawn wsX7_stay := goodIn_r _ [51, 2, 52, 3, 9, 10, 7, 11, 53, 54, 55, 56, 57, 58, 59, 60, 61, 62, 63, 64, 65, 66, 67, 68, 69, 70, 71, 72, 73, 74, 75, 76, 77, 78, 79, 80, 81, 82, 83, 84, 85, 86, 87, 88, 89] (by decide +kernel) (by decide +kernel)
set_option maxRecDepth 20000 in
theorem gX7_drawn_X7_stay : GoodIn wsX7_drawn (wsV RX7 271 RX7 yX7_stay wsX7_stay) := goodIn_app (goodIn_of _ (by decide +kernel)) ggX7_drawn_X7_stay
theorem dX7_drawn_0 : decode cX7_drawn 0 = .ok (.aload_n 0, 1) := by decide +kernel
theorem dX7_drawn_1 : decode cX7_drawn 1 = .ok (.iconst 0, 1) := by decide +kernel
theorem dX7_drawn_2 : decode cX7_drawn 2 = .ok (.putfield 1, 3) := by decide +kernel
theorem dX7_drawn_5 : decode cX7_drawn 5 = .ok (.iload_n 1, 1) := by decide +kernel
theorem dX7_drawn_6 : decode cX7_drawn 6 = .ok (.iconst 1, 1) := by decide +kernel
theorem dX7_drawn_7 : decode cX7_drawn 7 = .ok (.bipush 60, 2) := by decide +kernel
theorem dX7_drawn_9 : decode cX7_drawn 9 = .ok (.invokestatic 69, 3) := by decide +kernel
theorem dX7_drawn_12 : decode cX7_drawn 12 = .ok (.ifCond .ne 5, 3) := by decide +kernel
theorem dX7_drawn_15 : decode cX7_drawn 15 = .ok (.iconst (-1), 1) := by decide +kernel
theorem dX7_drawn_16 : decode cX7_drawn 16 = .ok (.ireturn, 1) := by decide +kernel
theorem dX7_drawn_17 : decode cX7_drawn 17 = .ok (.aload_n 0, 1) := by decide +kernel
theorem dX7_drawn_18 : decode cX7_drawn 18 = .ok (.getfield 79, 3) := by decide +kernel
theorem dX7_drawn_21 : decode cX7_drawn 21 = .ok (.iconst 0, 1) := by decide +kernel
theorem dX7_drawn_22 : decode cX7_drawn 22 = .ok (.aload_n 0, 1) := by decide +kernel
theorem dX7_drawn_23 : decode cX7_drawn 23 = .ok (.getfield 91, 3) := by decide +kernel
theorem dX7_drawn_26 : decode cX7_drawn 26 = .ok (.iconst 0, 1) := by decide +kernel
theorem dX7_drawn_27 : decode cX7_drawn 27 = .ok (.invokestatic 178, 3) := by decide +kernel
theorem dX7_drawn_30 : decode cX7_drawn 30 = .ok (.aload_n 0, 1) := by decide +kernel
theorem dX7_drawn_31 : decode cX7_drawn 31 = .ok (.iload_n 2, 1) := by decide +kernel
theorem dX7_drawn_32 : decode cX7_drawn 32 = .ok (.putfield 258, 3) := by decide +kernel
theorem dX7_drawn_35 : decode cX7_drawn 35 = .ok (.iconst 0, 1) := by decide +kernel
theorem dX7_drawn_36 : decode cX7_drawn 36 = .ok (.istore_n 3, 1) := by decide +kernel
theorem dX7_drawn_37 : decode cX7_drawn 37 = .ok (.iconst 0, 1) := by decide +kernel
theorem dX7_drawn_38 : decode cX7_drawn 38 = .ok (.istore 4, 2) := by decide +kernel
theorem dX7_drawn_40 : decode cX7_drawn 40 = .ok (.iload 4, 2) := by decide +kernel
theorem dX7_drawn_42 : decode cX7_drawn 42 = .ok (.iload_n 1, 1) := by decide +kernel
theorem dX7_drawn_43 : decode cX7_drawn 43 = .ok (.if_icmp .ge 19, 3) := by decide +kernel
theorem dX7_drawn_46 : decode cX7_drawn 46 = .ok (.aload_n 0, 1) := by decide +kernel
theorem dX7_drawn_47 : decode cX7_drawn 47 = .ok (.invokevirtual 268, 3) := by decide +kernel
theorem dX7_drawn_50 : decode cX7_drawn 50 = .ok (.ifCond .eq 6, 3) := by decide +kernel
theorem dX7_drawn_53 : decode cX7_drawn 53 = .ok (.iinc 3 1, 3) := by decide +kernel
theorem dX7_drawn_56 : decode cX7_drawn 56 = .ok (.iinc 4 1, 3) := by decide +kernel
theorem dX7_drawn_59 : decode cX7_drawn 59 = .ok (.goto (-19), 3) := by decide +kernel
theorem dX7_drawn_62 : decode cX7_drawn 62 = .ok (.iload_n 3, 1) := by decide +kernel
theorem dX7_drawn_63 : decode cX7_drawn 63 = .ok (.ifCond .le 7, 3) := by decide +kernel
theorem dX7_drawn_66 : decode cX7_drawn 66 = .ok (.aload_n 0, 1) := by decide +kernel
theorem dX7_drawn_67 : decode cX7_drawn 67 = .ok (.invokevirtual 271, 3) := by decide +kernel
theorem dX7_drawn_70 : decode cX7_drawn 70 = .ok (.iload_n 3, 1) := by decide +kernel
theorem dX7_drawn_71 : decode cX7_drawn 71 = .ok (.ireturn, 1) := by decide +kernel
set_option maxRecDepth 20000 in
theorem ggX7_undo_X7_copy : GoodIn wsX7_undo wsX7_copy := goodIn_r _ [8] (by decide +kernel) (by decide +kernel)
set_option maxRecDepth 20000 in
theorem gX7_undo_X7_copy : GoodIn wsX7_undo (va_wsS RX7 178 yX7_copy wsX7_copy) := goodIn_app (goodIn_of _ (by decide +kernel)) ggX7_undo_X7_copy
theorem dX7_undo_0 : decode cX7_undo 0 = .ok (.aload_n 0, 1) := by decide +kernel
theorem dX7_undo_1 : decode cX7_undo 1 = .ok (.iconst 0, 1) := by decide +kernel
theorem dX7_undo_2 : decode cX7_undo 2 = .ok (.putfield 1, 3) := by decide +kernel
theorem dX7_undo_5 : decode cX7_undo 5 = .ok (.aload_n 0, 1) := by decide +kernel
theorem dX7_undo_6 : decode cX7_undo 6 = .ok (.getfield 182, 3) := by decide +kernel
theorem dX7_undo_9 : decode cX7_undo 9 = .ok (.ifCond .ne 5, 3) := by decide +kernel
theorem dX7_undo_12 : decode cX7_undo 12 = .ok (.iconst (-1), 1) := by decide +kernel
theorem dX7_undo_13 : decode cX7_undo 13 = .ok (.ireturn, 1) := by decide +kernel
theorem dX7_undo_14 : decode cX7_undo 14 = .ok (.aload_n 0, 1) := by decide +kernel
theorem dX7_undo_15 : decode cX7_undo 15 = .ok (.dup, 1) := by decide +kernel
theorem dX7_undo_16 : decode cX7_undo 16 = .ok (.getfield 182, 3) := by decide +kernel
theorem dX7_undo_19 : decode cX7_undo 19 = .ok (.iconst 1, 1) := by decide +kernel
theorem dX7_undo_20 : decode cX7_undo 20 = .ok (.isub, 1) := by decide +kernel
theorem dX7_undo_21 : decode cX7_undo 21 = .ok (.putfield 182, 3) := by decide +kernel
theorem dX7_undo_24 : decode cX7_undo 24 = .ok (.aload_n 0, 1) := by decide +kernel
theorem dX7_undo_25 : decode cX7_undo 25 = .ok (.getfield 88, 3) := by decide +kernel
theorem dX7_undo_28 : decode cX7_undo 28 = .ok (.bipush 19, 2) := by decide +kernel
theorem dX7_undo_30 : decode cX7_undo 30 = .ok (.aload_n 0, 1) := by decide +kernel
theorem dX7_undo_31 : decode cX7_undo 31 = .ok (.getfield 182, 3) := by decide +kernel
theorem dX7_undo_34 : decode cX7_undo 34 = .ok (.imul, 1) := by decide +kernel
theorem dX7_undo_35 : decode cX7_undo 35 = .ok (.aload_n 0, 1) := by decide +kernel
theorem dX7_undo_36 : decode cX7_undo 36 = .ok (.getfield 79, 3) := by decide +kernel
theorem dX7_undo_39 : decode cX7_undo 39 = .ok (.iconst 0, 1) := by decide +kernel
theorem dX7_undo_40 : decode cX7_undo 40 = .ok (.invokestatic 178, 3) := by decide +kernel
theorem dX7_undo_43 : decode cX7_undo 43 = .ok (.aload_n 0, 1) := by decide +kernel
theorem dX7_undo_44 : decode cX7_undo 44 = .ok (.getfield 182, 3) := by decide +kernel
theorem dX7_undo_47 : decode cX7_undo 47 = .ok (.ireturn, 1) := by decide +kernel
set_option maxRecDepth 20000 in
theorem ggX7_image_X7_isIn : GoodIn wsX7_image wsX7_isIn := goodIn_r _ [8] (by decide +kernel) (by decide +kernel)
set_option maxRecDepth 20000 in
theorem gX7_image_X7_isIn : GoodIn wsX7_image (va_wsS RX7 69 yX7_isIn wsX7_isIn) := goodIn_app (goodIn_of _ (by decide +kernel)) ggX7_image_X7_isIn
set_option maxRecDepth 20000 in
theorem ggX7_image_X7_copy : GoodIn wsX7_image wsX7_copy := goodIn_r _ [11] (by decide +kernel) (by decide +kernel)
set_option maxRecDepth 20000 in
theorem gX7_image_X7_copy : GoodIn wsX7_image (va_wsS RX7 178 yX7_copy wsX7_copy) := goodIn_app (goodIn_of _ (by decide +kernel)) ggX7_image_X7_copy
theorem dX7_image_0 : decode cX7_image 0 = .ok (.aload_n 0, 1) := by decide +kernel
theorem dX7_image_1 : decode cX7_image 1 = .ok (.iconst 0, 1) := by decide +kernel
theorem dX7_image_2 : decode cX7_image 2 = .ok (.putfield 1, 3) := by decide +kernel
theorem dX7_image_5 : decode cX7_image 5 = .ok (.iload_n 1, 1) := by decide +kernel
theorem dX7_image_6 : decode cX7_image 6 = .ok (.iconst 0, 1) := by decide +kernel
theorem dX7_image_7 : decode cX7_image 7 = .ok (.iconst 1, 1) := by decide +kernel
theorem dX7_image_8 : decode cX7_image 8 = .ok (.invokestatic 69, 3) := by decide +kernel
theorem dX7_image_11 : decode cX7_image 11 = .ok (.ifCond .ne 5, 3) := by decide +kernel
theorem dX7_image_14 : decode cX7_image 14 = .ok (.iconst 0, 1) := by decide +kernel
theorem dX7_image_15 : decode cX7_image 15 = .ok (.ireturn, 1) := by decide +kernel
theorem dX7_image_16 : decode cX7_image 16 = .ok (.aload_n 0, 1) := by decide +kernel
theorem dX7_image_17 : decode cX7_image 17 = .ok (.getfield 79, 3) := by decide +kernel
theorem dX7_image_20 : decode cX7_image 20 = .ok (.iconst 0, 1) := by decide +kernel
theorem dX7_image_21 : decode cX7_image 21 = .ok (.aload_n 0, 1) := by decide +kernel
theorem dX7_image_22 : decode cX7_image 22 = .ok (.getfield 85, 3) := by decide +kernel
theorem dX7_image_25 : decode cX7_image 25 = .ok (.bipush 19, 2) := by decide +kernel
theorem dX7_image_27 : decode cX7_image 27 = .ok (.iload_n 1, 1) := by decide +kernel
theorem dX7_image_28 : decode cX7_image 28 = .ok (.imul, 1) := by decide +kernel
theorem dX7_image_29 : decode cX7_image 29 = .ok (.invokestatic 178, 3) := by decide +kernel
theorem dX7_image_32 : decode cX7_image 32 = .ok (.aload_n 0, 1) := by decide +kernel
theorem dX7_image_33 : decode cX7_image 33 = .ok (.getfield 100, 3) := by decide +kernel
theorem dX7_image_36 : decode cX7_image 36 = .ok (.iload_n 1, 1) := by decide +kernel
theorem dX7_image_37 : decode cX7_image 37 = .ok (.iconst 1, 1) := by decide +kernel
theorem dX7_image_38 : decode cX7_image 38 = .ok (.bastore, 1) := by decide +kernel
theorem dX7_image_39 : decode cX7_image 39 = .ok (.iconst 1, 1) := by decide +kernel
theorem dX7_image_40 : decode cX7_image 40 = .ok (.ireturn, 1) := by decide +kernel
set_option maxRecDepth 20000 in
theorem ggX7_restore_X7_isIn : GoodIn wsX7_restore wsX7_isIn := goodIn_r _ [9] (by decide +kernel) (by decide +kernel)
set_option maxRecDepth 20000 in
theorem gX7_restore_X7_isIn : GoodIn wsX7_restore (va_wsS RX7 69 yX7_isIn wsX7_isIn) := goodIn_app (goodIn_of _ (by decide +kernel)) ggX7_restore_X7_isIn
set_option maxRecDepth 20000 in
theorem ggX7_restore_X7_copy : GoodIn wsX7_restore wsX7_copy := goodIn_r _ [12] (by decide +kernel) (by decide +kernel)
set_option maxRecDepth 20000 in
theorem gX7_restore_X7_copy : GoodIn wsX7_restore (va_wsS RX7 178 yX7_copy wsX7_copy) := goodIn_app (goodIn_of _ (by decide +kernel)) ggX7_restore_X7_copy
theorem dX7_restore_0 : decode cX7_restore 0 = .ok (.aload_n 0, 1) := by decide +kernel
theorem dX7_restore_1 : decode cX7_restore 1 = .ok (.iconst 0, 1) := by decide +kernel
theorem dX7_restore_2 : decode cX7_restore 2 = .ok (.putfield 1, 3) := by decide +kernel
theorem dX7_restore_5 : decode cX7_restore 5 = .ok (.iload_n 1, 1) := by decide +kernel
theorem dX7_restore_6 : decode cX7_restore 6 = .ok (.iconst 0, 1) := by decide +kernel
theorem dX7_restore_7 : decode cX7_restore 7 = .ok (.iconst 1, 1) := by decide +kernel
theorem dX7_restore_8 : decode cX7_restore 8 = .ok (.invokestatic 69, 3) := by decide +kernel
theorem dX7_restore_11 : decode cX7_restore 11 = .ok (.ifCond .eq 12, 3) := by decide +kernel
theorem dX7_restore_14 : decode cX7_restore 14 = .ok (.aload_n 0, 1) := by decide +kernel
theorem dX7_restore_15 : decode cX7_restore 15 = .ok (.getfield 100, 3) := by decide +kernel
theorem dX7_restore_18 : decode cX7_restore 18 = .ok (.iload_n 1, 1) := by decide +kernel
theorem dX7_restore_19 : decode cX7_restore 19 = .ok (.baload, 1) := by decide +kernel
theorem dX7_restore_20 : decode cX7_restore 20 = .ok (.ifCond .ne 5, 3) := by decide +kernel
theorem dX7_restore_23 : decode cX7_restore 23 = .ok (.iconst 0, 1) := by decide +kernel
theorem dX7_restore_24 : decode cX7_restore 24 = .ok (.ireturn, 1) := by decide +kernel
theorem dX7_restore_25 : decode cX7_restore 25 = .ok (.aload_n 0, 1) := by decide +kernel
theorem dX7_restore_26 : decode cX7_restore 26 = .ok (.getfield 85, 3) := by decide +kernel
theorem dX7_restore_29 : decode cX7_restore 29 = .ok (.bipush 19, 2) := by decide +kernel
theorem dX7_restore_31 : decode cX7_restore 31 = .ok (.iload_n 1, 1) := by decide +kernel
theorem dX7_restore_32 : decode cX7_restore 32 = .ok (.imul, 1) := by decide +kernel
theorem dX7_restore_33 : decode cX7_restore 33 = .ok (.aload_n 0, 1) := by decide +kernel
theorem dX7_restore_34 : decode cX7_restore 34 = .ok (.getfield 79, 3) := by decide +kernel
theorem dX7_restore_37 : decode cX7_restore 37 = .ok (.iconst 0, 1) := by decide +kernel
theorem dX7_restore_38 : decode cX7_restore 38 = .ok (.invokestatic 178, 3) := by decide +kernel
theorem dX7_restore_41 : decode cX7_restore 41 = .ok (.aload_n 0, 1) := by decide +kernel
theorem dX7_restore_42 : decode cX7_restore 42 = .ok (.iconst 0, 1) := by decide +kernel
theorem dX7_restore_43 : decode cX7_restore 43 = .ok (.putfield 182, 3) := by decide +kernel
theorem dX7_restore_46 : decode cX7_restore 46 = .ok (.iconst 1, 1) := by decide +kernel
theorem dX7_restore_47 : decode cX7_restore 47 = .ok (.ireturn, 1) := by decide +kernel
