theorem dX6_init_0 : decode cX6_init 0 = .ok (.aload_n 0, 1) := by decide +kernel
theorem dX6_init_1 : decode cX6_init 1 = .ok (.invokespecial 1, 3) := by decide +kernel
theorem dX6_init_4 : decode cX6_init 4 = .ok (.aload_n 0, 1) := by decide +kernel
theorem dX6_init_5 : decode cX6_init 5 = .ok (.sipush 340, 3) := by decide +kernel
theorem dX6_init_8 : decode cX6_init 8 = .ok (.newarray .byte, 2) := by decide +kernel
theorem dX6_init_10 : decode cX6_init 10 = .ok (.putfield 9, 3) := by decide +kernel
theorem dX6_init_13 : decode cX6_init 13 = .ok (.aload_n 0, 1) := by decide +kernel
theorem dX6_init_14 : decode cX6_init 14 = .ok (.iconst 0, 1) := by decide +kernel
theorem dX6_init_15 : decode cX6_init 15 = .ok (.putfield 13, 3) := by decide +kernel
theorem dX6_init_18 : decode cX6_init 18 = .ok (.aload_n 0, 1) := by decide +kernel
theorem dX6_init_19 : decode cX6_init 19 = .ok (.new 17, 3) := by decide +kernel
theorem dX6_init_22 : decode cX6_init 22 = .ok (.dup, 1) := by decide +kernel
theorem dX6_init_23 : decode cX6_init 23 = .ok (.invokespecial 19, 3) := by decide +kernel
theorem dX6_init_26 : decode cX6_init 26 = .ok (.putfield 20, 3) := by decide +kernel
theorem dX6_init_29 : decode cX6_init 29 = .ok (.aload_n 0, 1) := by decide +kernel
theorem dX6_init_30 : decode cX6_init 30 = .ok (.iconst 0, 1) := by decide +kernel
theorem dX6_init_31 : decode cX6_init 31 = .ok (.putfield 24, 3) := by decide +kernel
theorem dX6_init_34 : decode cX6_init 34 = .ok (.aload_n 0, 1) := by decide +kernel
theorem dX6_init_35 : decode cX6_init 35 = .ok (.new 27, 3) := by decide +kernel
theorem dX6_init_38 : decode cX6_init 38 = .ok (.dup, 1) := by decide +kernel
theorem dX6_init_39 : decode cX6_init 39 = .ok (.invokespecial 29, 3) := by decide +kernel
theorem dX6_init_42 : decode cX6_init 42 = .ok (.putfield 30, 3) := by decide +kernel
theorem dX6_init_45 : decode cX6_init 45 = .ok (.aload_n 0, 1) := by decide +kernel
theorem dX6_init_46 : decode cX6_init 46 = .ok (.new 27, 3) := by decide +kernel
theorem dX6_init_49 : decode cX6_init 49 = .ok (.dup, 1) := by decide +kernel
theorem dX6_init_50 : decode cX6_init 50 = .ok (.invokespecial 29, 3) := by decide +kernel
theorem dX6_init_53 : decode cX6_init 53 = .ok (.putfield 34, 3) := by decide +kernel
theorem dX6_init_56 : decode cX6_init 56 = .ok (.aload_n 0, 1) := by decide +kernel
theorem dX6_init_57 : decode cX6_init 57 = .ok (.new 37, 3) := by decide +kernel
theorem dX6_init_60 : decode cX6_init 60 = .ok (.dup, 1) := by decide +kernel
theorem dX6_init_61 : decode cX6_init 61 = .ok (.invokespecial 39, 3) := by decide +kernel
theorem dX6_init_64 : decode cX6_init 64 = .ok (.putfield 40, 3) := by decide +kernel
theorem dX6_init_67 : decode cX6_init 67 = .ok (.aload_n 0, 1) := by decide +kernel
theorem dX6_init_68 : decode cX6_init 68 = .ok (.iconst 2, 1) := by decide +kernel
theorem dX6_init_69 : decode cX6_init 69 = .ok (.anewarray 27, 3) := by decide +kernel
theorem dX6_init_72 : decode cX6_init 72 = .ok (.putfield 44, 3) := by decide +kernel
theorem dX6_init_75 : decode cX6_init 75 = .ok (.aload_n 0, 1) := by decide +kernel
theorem dX6_init_76 : decode cX6_init 76 = .ok (.new 48, 3) := by decide +kernel
theorem dX6_init_79 : decode cX6_init 79 = .ok (.dup, 1) := by decide +kernel
theorem dX6_init_80 : decode cX6_init 80 = .ok (.invokespecial 50, 3) := by decide +kernel
theorem dX6_init_83 : decode cX6_init 83 = .ok (.putfield 51, 3) := by decide +kernel
theorem dX6_init_86 : decode cX6_init 86 = .ok (.aload_n 0, 1) := by decide +kernel
theorem dX6_init_87 : decode cX6_init 87 = .ok (.new 55, 3) := by decide +kernel
theorem dX6_init_90 : decode cX6_init 90 = .ok (.dup, 1) := by decide +kernel
theorem dX6_init_91 : decode cX6_init 91 = .ok (.sipush 2656, 3) := by decide +kernel
theorem dX6_init_94 : decode cX6_init 94 = .ok (.invokespecial 57, 3) := by decide +kernel
theorem dX6_init_97 : decode cX6_init 97 = .ok (.putfield 60, 3) := by decide +kernel
theorem dX6_init_100 : decode cX6_init 100 = .ok (.aload_n 0, 1) := by decide +kernel
theorem dX6_init_101 : decode cX6_init 101 = .ok (.new 27, 3) := by decide +kernel
theorem dX6_init_104 : decode cX6_init 104 = .ok (.dup, 1) := by decide +kernel
theorem dX6_init_105 : decode cX6_init 105 = .ok (.invokespecial 29, 3) := by decide +kernel
theorem dX6_init_108 : decode cX6_init 108 = .ok (.putfield 64, 3) := by decide +kernel
theorem dX6_init_111 : decode cX6_init 111 = .ok (.aload_n 0, 1) := by decide +kernel
theorem dX6_init_112 : decode cX6_init 112 = .ok (.new 55, 3) := by decide +kernel
theorem dX6_init_115 : decode cX6_init 115 = .ok (.dup, 1) := by decide +kernel
theorem dX6_init_116 : decode cX6_init 116 = .ok (.iconst 0, 1) := by decide +kernel
theorem dX6_init_117 : decode cX6_init 117 = .ok (.invokespecial 57, 3) := by decide +kernel
theorem dX6_init_120 : decode cX6_init 120 = .ok (.putfield 67, 3) := by decide +kernel
theorem dX6_init_123 : decode cX6_init 123 = .ok (.aload_n 0, 1) := by decide +kernel
theorem dX6_init_124 : decode cX6_init 124 = .ok (.new 70, 3) := by decide +kernel
theorem dX6_init_127 : decode cX6_init 127 = .ok (.dup, 1) := by decide +kernel
theorem dX6_init_128 : decode cX6_init 128 = .ok (.invokespecial 72, 3) := by decide +kernel
theorem dX6_init_131 : decode cX6_init 131 = .ok (.putfield 73, 3) := by decide +kernel
theorem dX6_init_134 : decode cX6_init 134 = .ok (.aload_n 0, 1) := by decide +kernel
theorem dX6_init_135 : decode cX6_init 135 = .ok (.bipush 19, 2) := by decide +kernel
theorem dX6_init_137 : decode cX6_init 137 = .ok (.newarray .int, 2) := by decide +kernel
theorem dX6_init_139 : decode cX6_init 139 = .ok (.putfield 77, 3) := by decide +kernel
theorem dX6_init_142 : decode cX6_init 142 = .ok (.return_, 1) := by decide +kernel
set_option maxRecDepth 20000 in
theorem ggX6_feed_X6_feedNumber : GoodIn wsX6_feed wsX6_feedNumber := goodIn_r _ [6, 1, 7, 8, 9, 10, 11, 12, 13, 14, 15, 16, 17, 18, 19, 20, 21] (by decide +kernel) (by decide +kernel)
set_option maxRecDepth 20000 in
theorem gX6_feed_X6_feedNumber : GoodIn wsX6_feed (wsV RX6 81 RX6 yX6_feedNumber wsX6_feedNumber) := goodIn_app (goodIn_of _ (by decide +kernel)) ggX6_feed_X6_feedNumber
theorem dX6_feed_0 : decode cX6_feed 0 = .ok (.aload_n 0, 1) := by decide +kernel
theorem dX6_feed_1 : decode cX6_feed 1 = .ok (.getfield 13, 3) := by decide +kernel
theorem dX6_feed_4 : decode cX6_feed 4 = .ok (.bipush 20, 2) := by decide +kernel
theorem dX6_feed_6 : decode cX6_feed 6 = .ok (.iadd, 1) := by decide +kernel
theorem dX6_feed_7 : decode cX6_feed 7 = .ok (.sipush 340, 3) := by decide +kernel
theorem dX6_feed_10 : decode cX6_feed 10 = .ok (.if_icmp .le 5, 3) := by decide +kernel
theorem dX6_feed_13 : decode cX6_feed 13 = .ok (.iconst (-1), 1) := by decide +kernel
theorem dX6_feed_14 : decode cX6_feed 14 = .ok (.ireturn, 1) := by decide +kernel
theorem dX6_feed_15 : decode cX6_feed 15 = .ok (.aload_n 0, 1) := by decide +kernel
theorem dX6_feed_16 : decode cX6_feed 16 = .ok (.iload_n 1, 1) := by decide +kernel
theorem dX6_feed_17 : decode cX6_feed 17 = .ok (.invokevirtual 81, 3) := by decide +kernel
theorem dX6_feed_20 : decode cX6_feed 20 = .ok (.aload_n 0, 1) := by decide +kernel
theorem dX6_feed_21 : decode cX6_feed 21 = .ok (.iload_n 2, 1) := by decide +kernel
theorem dX6_feed_22 : decode cX6_feed 22 = .ok (.invokevirtual 81, 3) := by decide +kernel
theorem dX6_feed_25 : decode cX6_feed 25 = .ok (.aload_n 0, 1) := by decide +kernel
theorem dX6_feed_26 : decode cX6_feed 26 = .ok (.iload_n 3, 1) := by decide +kernel
theorem dX6_feed_27 : decode cX6_feed 27 = .ok (.invokevirtual 81, 3) := by decide +kernel
theorem dX6_feed_30 : decode cX6_feed 30 = .ok (.aload_n 0, 1) := by decide +kernel
theorem dX6_feed_31 : decode cX6_feed 31 = .ok (.iload 4, 2) := by decide +kernel
theorem dX6_feed_33 : decode cX6_feed 33 = .ok (.invokevirtual 81, 3) := by decide +kernel
theorem dX6_feed_36 : decode cX6_feed 36 = .ok (.aload_n 0, 1) := by decide +kernel
theorem dX6_feed_37 : decode cX6_feed 37 = .ok (.iload 5, 2) := by decide +kernel
theorem dX6_feed_39 : decode cX6_feed 39 = .ok (.invokevirtual 81, 3) := by decide +kernel
theorem dX6_feed_42 : decode cX6_feed 42 = .ok (.aload_n 0, 1) := by decide +kernel
theorem dX6_feed_43 : decode cX6_feed 43 = .ok (.getfield 13, 3) := by decide +kernel
theorem dX6_feed_46 : decode cX6_feed 46 = .ok (.ireturn, 1) := by decide +kernel
theorem dX6_feedNumber_0 : decode cX6_feedNumber 0 = .ok (.bipush 24, 2) := by decide +kernel
theorem dX6_feedNumber_2 : decode cX6_feedNumber 2 = .ok (.istore_n 2, 1) := by decide +kernel
theorem dX6_feedNumber_3 : decode cX6_feedNumber 3 = .ok (.iload_n 2, 1) := by decide +kernel
theorem dX6_feedNumber_4 : decode cX6_feedNumber 4 = .ok (.ifCond .lt 42, 3) := by decide +kernel
theorem dX6_feedNumber_7 : decode cX6_feedNumber 7 = .ok (.aload_n 0, 1) := by decide +kernel
theorem dX6_feedNumber_8 : decode cX6_feedNumber 8 = .ok (.getfield 13, 3) := by decide +kernel
theorem dX6_feedNumber_11 : decode cX6_feedNumber 11 = .ok (.sipush 340, 3) := by decide +kernel
theorem dX6_feedNumber_14 : decode cX6_feedNumber 14 = .ok (.if_icmp .ge 32, 3) := by decide +kernel
theorem dX6_feedNumber_17 : decode cX6_feedNumber 17 = .ok (.aload_n 0, 1) := by decide +kernel
theorem dX6_feedNumber_18 : decode cX6_feedNumber 18 = .ok (.getfield 9, 3) := by decide +kernel
theorem dX6_feedNumber_21 : decode cX6_feedNumber 21 = .ok (.aload_n 0, 1) := by decide +kernel
theorem dX6_feedNumber_22 : decode cX6_feedNumber 22 = .ok (.getfield 13, 3) := by decide +kernel
theorem dX6_feedNumber_25 : decode cX6_feedNumber 25 = .ok (.iload_n 1, 1) := by decide +kernel
theorem dX6_feedNumber_26 : decode cX6_feedNumber 26 = .ok (.iload_n 2, 1) := by decide +kernel
theorem dX6_feedNumber_27 : decode cX6_feedNumber 27 = .ok (.iushr, 1) := by decide +kernel
theorem dX6_feedNumber_28 : decode cX6_feedNumber 28 = .ok (.i2b, 1) := by decide +kernel
theorem dX6_feedNumber_29 : decode cX6_feedNumber 29 = .ok (.bastore, 1) := by decide +kernel
theorem dX6_feedNumber_30 : decode cX6_feedNumber 30 = .ok (.aload_n 0, 1) := by decide +kernel
theorem dX6_feedNumber_31 : decode cX6_feedNumber 31 = .ok (.dup, 1) := by decide +kernel
theorem dX6_feedNumber_32 : decode cX6_feedNumber 32 = .ok (.getfield 13, 3) := by decide +kernel
theorem dX6_feedNumber_35 : decode cX6_feedNumber 35 = .ok (.iconst 1, 1) := by decide +kernel
theorem dX6_feedNumber_36 : decode cX6_feedNumber 36 = .ok (.iadd, 1) := by decide +kernel
theorem dX6_feedNumber_37 : decode cX6_feedNumber 37 = .ok (.putfield 13, 3) := by decide +kernel
theorem dX6_feedNumber_40 : decode cX6_feedNumber 40 = .ok (.iinc 2 (-8), 3) := by decide +kernel
theorem dX6_feedNumber_43 : decode cX6_feedNumber 43 = .ok (.goto (-40), 3) := by decide +kernel
theorem dX6_feedNumber_46 : decode cX6_feedNumber 46 = .ok (.return_, 1) := by decide +kernel
theorem dX6_end_0 : decode cX6_end 0 = .ok (.iload_n 1, 1) := by decide +kernel
theorem dX6_end_1 : decode cX6_end 1 = .ok (.ifCond .lt 11, 3) := by decide +kernel
theorem dX6_end_4 : decode cX6_end 4 = .ok (.iload_n 1, 1) := by decide +kernel
theorem dX6_end_5 : decode cX6_end 5 = .ok (.aload_n 0, 1) := by decide +kernel
theorem dX6_end_6 : decode cX6_end 6 = .ok (.getfield 13, 3) := by decide +kernel
theorem dX6_end_9 : decode cX6_end 9 = .ok (.if_icmp .le 5, 3) := by decide +kernel
theorem dX6_end_12 : decode cX6_end 12 = .ok (.iconst 0, 1) := by decide +kernel
theorem dX6_end_13 : decode cX6_end 13 = .ok (.ireturn, 1) := by decide +kernel
theorem dX6_end_14 : decode cX6_end 14 = .ok (.aload_n 0, 1) := by decide +kernel
theorem dX6_end_15 : decode cX6_end 15 = .ok (.iload_n 1, 1) := by decide +kernel
theorem dX6_end_16 : decode cX6_end 16 = .ok (.putfield 13, 3) := by decide +kernel
theorem dX6_end_19 : decode cX6_end 19 = .ok (.iconst 1, 1) := by decide +kernel
theorem dX6_end_20 : decode cX6_end 20 = .ok (.ireturn, 1) := by decide +kernel
set_option maxRecDepth 20000 in
theorem ggX6_frame_X5_read : GoodIn wsX6_frame wsX5_read := goodIn_r _ [9, 10, 11, 12, 13, 14, 15, 16, 17, 18, 19, 20, 21, 22, 23, 24, 25, 26, 27, 28, 29, 30, 31, 32, 33, 34, 35, 36, 37, 38, 39, 40, 8, 41, 42, 43, 44, 45, 46, 47, 48, 49, 50, 51, 52, 53, 54, 55, 56, 57, 58, 59, 60, 61, 62, 63, 64, 65, 66, 67, 68, 69, 70, 71, 72, 73, 74, 75, 76, 77, 78, 79, 80, 81, 82, 83, 84, 85, 86, 87, 88, 89, 90, 91, 92, 93, 94, 95, 96, 97, 98, 99, 100, 101, 102, 103, 104, 105, 106, 107, 108, 109, 110, 111, 112, 113, 114, 115, 116, 117, 118, 119, 120, 121, 122, 123, 124, 125, 126, 127, 128, 129, 130, 131, 132, 133, 134, 135, 136, 137, 138, 139, 140, 141, 142, 143, 144, 145, 146, 147, 148, 149, 150, 151, 152, 153, 154, 155, 156, 157, 158, 159, 160, 161, 162, 163, 164, 165, 166, 167, 168, 169, 170, 171, 198, 199, 200, 201, 202, 203, 204, 205, 206, 207, 208, 209, 210] (by decide +kernel) (by decide +kernel)
set_option maxRecDepth 20000 in
theorem gX6_frame_X5_read : GoodIn wsX6_frame (wsV RX6 84 RX5 yX5_read wsX5_read) := goodIn_app (goodIn_of _ (by decide +kernel)) ggX6_frame_X5_read
set_option maxRecDepth 20000 in
theorem ggX6_frame_X6_becomes : GoodIn wsX6_frame wsX6_becomes := goodIn_r _ [175, 176, 177, 178, 179, 180, 181, 28, 182, 30, 31, 32, 33, 183, 17, 18, 19, 184, 185, 186, 187, 188, 189, 190, 191, 192, 193, 194, 195, 196, 197, 211, 212, 213, 214, 215, 216, 217, 218, 219, 220, 221, 207, 208, 209, 210] (by decide +kernel) (by decide +kernel)
set_option maxRecDepth 20000 in
theorem gX6_frame_X6_becomes : GoodIn wsX6_frame (wsV RX6 94 RX6 yX6_becomes wsX6_becomes) := goodIn_app (goodIn_of _ (by decide +kernel)) ggX6_frame_X6_becomes
theorem dX6_frame_0 : decode cX6_frame 0 = .ok (.aload_n 0, 1) := by decide +kernel
theorem dX6_frame_1 : decode cX6_frame 1 = .ok (.getfield 13, 3) := by decide +kernel
theorem dX6_frame_4 : decode cX6_frame 4 = .ok (.istore_n 1, 1) := by decide +kernel
theorem dX6_frame_5 : decode cX6_frame 5 = .ok (.aload_n 0, 1) := by decide +kernel
theorem dX6_frame_6 : decode cX6_frame 6 = .ok (.iconst 0, 1) := by decide +kernel
theorem dX6_frame_7 : decode cX6_frame 7 = .ok (.putfield 13, 3) := by decide +kernel
theorem dX6_frame_10 : decode cX6_frame 10 = .ok (.aload_n 0, 1) := by decide +kernel
theorem dX6_frame_11 : decode cX6_frame 11 = .ok (.getfield 20, 3) := by decide +kernel
theorem dX6_frame_14 : decode cX6_frame 14 = .ok (.aload_n 0, 1) := by decide +kernel
theorem dX6_frame_15 : decode cX6_frame 15 = .ok (.getfield 9, 3) := by decide +kernel
theorem dX6_frame_18 : decode cX6_frame 18 = .ok (.iload_n 1, 1) := by decide +kernel
theorem dX6_frame_19 : decode cX6_frame 19 = .ok (.invokevirtual 84, 3) := by decide +kernel
theorem dX6_frame_22 : decode cX6_frame 22 = .ok (.istore_n 2, 1) := by decide +kernel
theorem dX6_frame_23 : decode cX6_frame 23 = .ok (.aload_n 0, 1) := by decide +kernel
theorem dX6_frame_24 : decode cX6_frame 24 = .ok (.aload_n 0, 1) := by decide +kernel
theorem dX6_frame_25 : decode cX6_frame 25 = .ok (.getfield 20, 3) := by decide +kernel
theorem dX6_frame_28 : decode cX6_frame 28 = .ok (.getfield 88, 3) := by decide +kernel
theorem dX6_frame_31 : decode cX6_frame 31 = .ok (.putfield 24, 3) := by decide +kernel
theorem dX6_frame_34 : decode cX6_frame 34 = .ok (.aload_n 0, 1) := by decide +kernel
theorem dX6_frame_35 : decode cX6_frame 35 = .ok (.getfield 20, 3) := by decide +kernel
theorem dX6_frame_38 : decode cX6_frame 38 = .ok (.getfield 88, 3) := by decide +kernel
theorem dX6_frame_41 : decode cX6_frame 41 = .ok (.ifCond .ne 14, 3) := by decide +kernel
theorem dX6_frame_44 : decode cX6_frame 44 = .ok (.aload_n 0, 1) := by decide +kernel
theorem dX6_frame_45 : decode cX6_frame 45 = .ok (.aload_n 0, 1) := by decide +kernel
theorem dX6_frame_46 : decode cX6_frame 46 = .ok (.getfield 20, 3) := by decide +kernel
theorem dX6_frame_49 : decode cX6_frame 49 = .ok (.getfield 91, 3) := by decide +kernel
theorem dX6_frame_52 : decode cX6_frame 52 = .ok (.invokevirtual 94, 3) := by decide +kernel
theorem dX6_frame_55 : decode cX6_frame 55 = .ok (.iload_n 2, 1) := by decide +kernel
theorem dX6_frame_56 : decode cX6_frame 56 = .ok (.ireturn, 1) := by decide +kernel
theorem dX6_fault_0 : decode cX6_fault 0 = .ok (.aload_n 0, 1) := by decide +kernel
theorem dX6_fault_1 : decode cX6_fault 1 = .ok (.getfield 24, 3) := by decide +kernel
theorem dX6_fault_4 : decode cX6_fault 4 = .ok (.ireturn, 1) := by decide +kernel
set_option maxRecDepth 20000 in
theorem ggX6_kind_X6_mostOrder : GoodIn wsX6_kind wsX6_mostOrder := goodIn_r _ [6] (by decide +kernel) (by decide +kernel)
set_option maxRecDepth 20000 in
theorem gX6_kind_X6_mostOrder : GoodIn wsX6_kind (va_wsS RX6 98 yX6_mostOrder wsX6_mostOrder) := goodIn_app (goodIn_of _ (by decide +kernel)) ggX6_kind_X6_mostOrder
set_option maxRecDepth 20000 in
theorem ggX6_kind_X2_copy : GoodIn wsX6_kind wsX2_copy := goodIn_r _ [11, 12, 13, 14, 15, 16, 17, 18, 19, 72, 73, 74, 75] (by decide +kernel) (by decide +kernel)
set_option maxRecDepth 20000 in
theorem gX6_kind_X2_copy : GoodIn wsX6_kind (wsV RX6 102 RX2 yX2_copy wsX2_copy) := goodIn_app (goodIn_of _ (by decide +kernel)) ggX6_kind_X2_copy
set_option maxRecDepth 20000 in
theorem ggX6_kind_X6_bit : GoodIn wsX6_kind wsX6_bit := goodIn_r _ [22] (by decide +kernel) (by decide +kernel)
set_option maxRecDepth 20000 in
theorem gX6_kind_X6_bit : GoodIn wsX6_kind (va_wsS RX6 105 yX6_bit wsX6_bit) := goodIn_app (goodIn_of _ (by decide +kernel)) ggX6_kind_X6_bit
set_option maxRecDepth 20000 in
theorem ggX6_kind_X2_begin : GoodIn wsX6_kind wsX2_begin := goodIn_r _ [26, 12, 13, 14, 15, 27, 28, 29, 30, 72, 73, 74, 75] (by decide +kernel) (by decide +kernel)
set_option maxRecDepth 20000 in
theorem gX6_kind_X2_begin : GoodIn wsX6_kind (wsV RX6 108 RX2 yX2_begin wsX2_begin) := goodIn_app (goodIn_of _ (by decide +kernel)) ggX6_kind_X2_begin
set_option maxRecDepth 20000 in
theorem ggX6_kind_X6_acted : GoodIn wsX6_kind wsX6_acted := goodIn_r _ [34, 35, 1, 36, 37, 38, 39, 40, 41, 42, 43, 44, 45, 10, 46, 47, 48, 49, 50, 51, 52, 53, 54, 55, 12, 13, 14, 56, 15, 57, 8, 9, 11, 16, 17, 18, 19, 58, 59, 60, 61, 62, 63, 64, 65, 66, 67, 68, 69, 70, 71, 76, 77, 78, 79, 80, 81, 82, 83, 84, 85, 86, 72, 73, 74, 75] (by decide +kernel) (by decide +kernel)
set_option maxRecDepth 20000 in
theorem gX6_kind_X6_acted : GoodIn wsX6_kind (wsV RX6 112 RX6 yX6_acted wsX6_acted) := goodIn_app (goodIn_of _ (by decide +kernel)) ggX6_kind_X6_acted
theorem dX6_kind_0 : decode cX6_kind 0 = .ok (.iload_n 1, 1) := by decide +kernel
theorem dX6_kind_1 : decode cX6_kind 1 = .ok (.ifCond .lt 21, 3) := by decide +kernel
theorem dX6_kind_4 : decode cX6_kind 4 = .ok (.iload_n 1, 1) := by decide +kernel
theorem dX6_kind_5 : decode cX6_kind 5 = .ok (.iconst 3, 1) := by decide +kernel
theorem dX6_kind_6 : decode cX6_kind 6 = .ok (.if_icmp .gt 16, 3) := by decide +kernel
theorem dX6_kind_9 : decode cX6_kind 9 = .ok (.iload_n 2, 1) := by decide +kernel
theorem dX6_kind_10 : decode cX6_kind 10 = .ok (.iconst 1, 1) := by decide +kernel
theorem dX6_kind_11 : decode cX6_kind 11 = .ok (.if_icmp .lt 11, 3) := by decide +kernel
theorem dX6_kind_14 : decode cX6_kind 14 = .ok (.iload_n 2, 1) := by decide +kernel
theorem dX6_kind_15 : decode cX6_kind 15 = .ok (.iload_n 1, 1) := by decide +kernel
theorem dX6_kind_16 : decode cX6_kind 16 = .ok (.invokestatic 98, 3) := by decide +kernel
theorem dX6_kind_19 : decode cX6_kind 19 = .ok (.if_icmp .le 5, 3) := by decide +kernel
theorem dX6_kind_22 : decode cX6_kind 22 = .ok (.iconst (-1), 1) := by decide +kernel
theorem dX6_kind_23 : decode cX6_kind 23 = .ok (.ireturn, 1) := by decide +kernel
theorem dX6_kind_24 : decode cX6_kind 24 = .ok (.aload_n 0, 1) := by decide +kernel
theorem dX6_kind_25 : decode cX6_kind 25 = .ok (.getfield 34, 3) := by decide +kernel
theorem dX6_kind_28 : decode cX6_kind 28 = .ok (.aload_n 0, 1) := by decide +kernel
theorem dX6_kind_29 : decode cX6_kind 29 = .ok (.getfield 30, 3) := by decide +kernel
theorem dX6_kind_32 : decode cX6_kind 32 = .ok (.invokevirtual 102, 3) := by decide +kernel
theorem dX6_kind_35 : decode cX6_kind 35 = .ok (.iconst 1, 1) := by decide +kernel
theorem dX6_kind_36 : decode cX6_kind 36 = .ok (.iload_n 2, 1) := by decide +kernel
theorem dX6_kind_37 : decode cX6_kind 37 = .ok (.ishl, 1) := by decide +kernel
theorem dX6_kind_38 : decode cX6_kind 38 = .ok (.iconst 1, 1) := by decide +kernel
theorem dX6_kind_39 : decode cX6_kind 39 = .ok (.isub, 1) := by decide +kernel
theorem dX6_kind_40 : decode cX6_kind 40 = .ok (.istore_n 3, 1) := by decide +kernel
theorem dX6_kind_41 : decode cX6_kind 41 = .ok (.iload_n 1, 1) := by decide +kernel
theorem dX6_kind_42 : decode cX6_kind 42 = .ok (.tableswitch 87 1 3 #[26, 48, 65], 26) := by decide +kernel
theorem dX6_kind_68 : decode cX6_kind 68 = .ok (.aload_n 0, 1) := by decide +kernel
theorem dX6_kind_69 : decode cX6_kind 69 = .ok (.getfield 30, 3) := by decide +kernel
theorem dX6_kind_72 : decode cX6_kind 72 = .ok (.iconst 2, 1) := by decide +kernel
theorem dX6_kind_73 : decode cX6_kind 73 = .ok (.iload_n 2, 1) := by decide +kernel
theorem dX6_kind_74 : decode cX6_kind 74 = .ok (.imul, 1) := by decide +kernel
theorem dX6_kind_75 : decode cX6_kind 75 = .ok (.iconst 1, 1) := by decide +kernel
theorem dX6_kind_76 : decode cX6_kind 76 = .ok (.iadd, 1) := by decide +kernel
theorem dX6_kind_77 : decode cX6_kind 77 = .ok (.iconst 2, 1) := by decide +kernel
theorem dX6_kind_78 : decode cX6_kind 78 = .ok (.iload_n 2, 1) := by decide +kernel
theorem dX6_kind_79 : decode cX6_kind 79 = .ok (.imul, 1) := by decide +kernel
theorem dX6_kind_80 : decode cX6_kind 80 = .ok (.invokestatic 105, 3) := by decide +kernel
theorem dX6_kind_83 : decode cX6_kind 83 = .ok (.iload_n 3, 1) := by decide +kernel
theorem dX6_kind_84 : decode cX6_kind 84 = .ok (.invokevirtual 108, 3) := by decide +kernel
theorem dX6_kind_87 : decode cX6_kind 87 = .ok (.goto 54, 3) := by decide +kernel
theorem dX6_kind_90 : decode cX6_kind 90 = .ok (.aload_n 0, 1) := by decide +kernel
theorem dX6_kind_91 : decode cX6_kind 91 = .ok (.getfield 30, 3) := by decide +kernel
theorem dX6_kind_94 : decode cX6_kind 94 = .ok (.iconst 2, 1) := by decide +kernel
theorem dX6_kind_95 : decode cX6_kind 95 = .ok (.iload_n 2, 1) := by decide +kernel
theorem dX6_kind_96 : decode cX6_kind 96 = .ok (.imul, 1) := by decide +kernel
theorem dX6_kind_97 : decode cX6_kind 97 = .ok (.iconst 0, 1) := by decide +kernel
theorem dX6_kind_98 : decode cX6_kind 98 = .ok (.iload_n 3, 1) := by decide +kernel
theorem dX6_kind_99 : decode cX6_kind 99 = .ok (.iconst 1, 1) := by decide +kernel
theorem dX6_kind_100 : decode cX6_kind 100 = .ok (.ishl, 1) := by decide +kernel
theorem dX6_kind_101 : decode cX6_kind 101 = .ok (.invokevirtual 108, 3) := by decide +kernel
theorem dX6_kind_104 : decode cX6_kind 104 = .ok (.goto 37, 3) := by decide +kernel
theorem dX6_kind_107 : decode cX6_kind 107 = .ok (.aload_n 0, 1) := by decide +kernel
theorem dX6_kind_108 : decode cX6_kind 108 = .ok (.getfield 30, 3) := by decide +kernel
theorem dX6_kind_111 : decode cX6_kind 111 = .ok (.iconst 2, 1) := by decide +kernel
theorem dX6_kind_112 : decode cX6_kind 112 = .ok (.iload_n 2, 1) := by decide +kernel
theorem dX6_kind_113 : decode cX6_kind 113 = .ok (.imul, 1) := by decide +kernel
theorem dX6_kind_114 : decode cX6_kind 114 = .ok (.iconst 1, 1) := by decide +kernel
theorem dX6_kind_115 : decode cX6_kind 115 = .ok (.iadd, 1) := by decide +kernel
theorem dX6_kind_116 : decode cX6_kind 116 = .ok (.iload_n 2, 1) := by decide +kernel
theorem dX6_kind_117 : decode cX6_kind 117 = .ok (.iconst 1, 1) := by decide +kernel
theorem dX6_kind_118 : decode cX6_kind 118 = .ok (.iadd, 1) := by decide +kernel
theorem dX6_kind_119 : decode cX6_kind 119 = .ok (.invokestatic 105, 3) := by decide +kernel
theorem dX6_kind_122 : decode cX6_kind 122 = .ok (.iload_n 3, 1) := by decide +kernel
theorem dX6_kind_123 : decode cX6_kind 123 = .ok (.invokevirtual 108, 3) := by decide +kernel
theorem dX6_kind_126 : decode cX6_kind 126 = .ok (.goto 15, 3) := by decide +kernel
theorem dX6_kind_129 : decode cX6_kind 129 = .ok (.aload_n 0, 1) := by decide +kernel
theorem dX6_kind_130 : decode cX6_kind 130 = .ok (.getfield 30, 3) := by decide +kernel
theorem dX6_kind_133 : decode cX6_kind 133 = .ok (.iconst 2, 1) := by decide +kernel
theorem dX6_kind_134 : decode cX6_kind 134 = .ok (.iload_n 2, 1) := by decide +kernel
theorem dX6_kind_135 : decode cX6_kind 135 = .ok (.imul, 1) := by decide +kernel
theorem dX6_kind_136 : decode cX6_kind 136 = .ok (.iconst 0, 1) := by decide +kernel
theorem dX6_kind_137 : decode cX6_kind 137 = .ok (.iload_n 3, 1) := by decide +kernel
theorem dX6_kind_138 : decode cX6_kind 138 = .ok (.invokevirtual 108, 3) := by decide +kernel
theorem dX6_kind_141 : decode cX6_kind 141 = .ok (.aload_n 0, 1) := by decide +kernel
theorem dX6_kind_142 : decode cX6_kind 142 = .ok (.invokevirtual 112, 3) := by decide +kernel
theorem dX6_kind_145 : decode cX6_kind 145 = .ok (.aload_n 0, 1) := by decide +kernel
theorem dX6_kind_146 : decode cX6_kind 146 = .ok (.getfield 30, 3) := by decide +kernel
theorem dX6_kind_149 : decode cX6_kind 149 = .ok (.getfield 115, 3) := by decide +kernel
theorem dX6_kind_152 : decode cX6_kind 152 = .ok (.ireturn, 1) := by decide +kernel
theorem dX6_mostOrder_0 : decode cX6_mostOrder 0 = .ok (.iload_n 0, 1) := by decide +kernel
theorem dX6_mostOrder_1 : decode cX6_mostOrder 1 = .ok (.iconst 1, 1) := by decide +kernel
theorem dX6_mostOrder_2 : decode cX6_mostOrder 2 = .ok (.if_icmp .eq 8, 3) := by decide +kernel
theorem dX6_mostOrder_5 : decode cX6_mostOrder 5 = .ok (.iload_n 0, 1) := by decide +kernel
theorem dX6_mostOrder_6 : decode cX6_mostOrder 6 = .ok (.iconst 3, 1) := by decide +kernel
theorem dX6_mostOrder_7 : decode cX6_mostOrder 7 = .ok (.if_icmp .ne 8, 3) := by decide +kernel
theorem dX6_mostOrder_10 : decode cX6_mostOrder 10 = .ok (.bipush 8, 2) := by decide +kernel
theorem dX6_mostOrder_12 : decode cX6_mostOrder 12 = .ok (.goto 5, 3) := by decide +kernel
theorem dX6_mostOrder_15 : decode cX6_mostOrder 15 = .ok (.bipush 9, 2) := by decide +kernel
theorem dX6_mostOrder_17 : decode cX6_mostOrder 17 = .ok (.ireturn, 1) := by decide +kernel
set_option maxRecDepth 20000 in
theorem ggX6_now_X2_pinnedPairs : GoodIn wsX6_now wsX2_pinnedPairs := goodIn_r _ [8, 9, 10, 11, 12, 48, 49, 50, 51] (by decide +kernel) (by decide +kernel)
set_option maxRecDepth 20000 in
theorem gX6_now_X2_pinnedPairs : GoodIn wsX6_now (wsV RX6 124 RX2 yX2_pinnedPairs wsX2_pinnedPairs) := goodIn_app (goodIn_of _ (by decide +kernel)) ggX6_now_X2_pinnedPairs
set_option maxRecDepth 20000 in
theorem ggX6_now_X2_isEven : GoodIn wsX6_now wsX2_isEven := goodIn_r _ [16, 17, 18, 19, 20, 7, 21, 22, 23, 24, 25, 26, 27, 28, 29, 30, 31, 32, 33, 10, 11, 12, 48, 49, 50, 51] (by decide +kernel) (by decide +kernel)
set_option maxRecDepth 20000 in
theorem gX6_now_X2_isEven : GoodIn wsX6_now (wsV RX6 128 RX2 yX2_isEven wsX2_isEven) := goodIn_app (goodIn_of _ (by decide +kernel)) ggX6_now_X2_isEven
theorem dX6_now_0 : decode cX6_now 0 = .ok (.iload_n 1, 1) := by decide +kernel
theorem dX6_now_1 : decode cX6_now 1 = .ok (.tableswitch 104 0 6 #[43, 51, 59, 67, 75, 91, 99], 43) := by decide +kernel
theorem dX6_now_44 : decode cX6_now 44 = .ok (.aload_n 0, 1) := by decide +kernel
theorem dX6_now_45 : decode cX6_now 45 = .ok (.getfield 30, 3) := by decide +kernel
theorem dX6_now_48 : decode cX6_now 48 = .ok (.getfield 115, 3) := by decide +kernel
theorem dX6_now_51 : decode cX6_now 51 = .ok (.ireturn, 1) := by decide +kernel
theorem dX6_now_52 : decode cX6_now 52 = .ok (.aload_n 0, 1) := by decide +kernel
theorem dX6_now_53 : decode cX6_now 53 = .ok (.getfield 30, 3) := by decide +kernel
theorem dX6_now_56 : decode cX6_now 56 = .ok (.getfield 118, 3) := by decide +kernel
theorem dX6_now_59 : decode cX6_now 59 = .ok (.ireturn, 1) := by decide +kernel
theorem dX6_now_60 : decode cX6_now 60 = .ok (.aload_n 0, 1) := by decide +kernel
theorem dX6_now_61 : decode cX6_now 61 = .ok (.getfield 30, 3) := by decide +kernel
theorem dX6_now_64 : decode cX6_now 64 = .ok (.getfield 121, 3) := by decide +kernel
theorem dX6_now_67 : decode cX6_now 67 = .ok (.ireturn, 1) := by decide +kernel
theorem dX6_now_68 : decode cX6_now 68 = .ok (.aload_n 0, 1) := by decide +kernel
theorem dX6_now_69 : decode cX6_now 69 = .ok (.getfield 30, 3) := by decide +kernel
theorem dX6_now_72 : decode cX6_now 72 = .ok (.invokevirtual 124, 3) := by decide +kernel
theorem dX6_now_75 : decode cX6_now 75 = .ok (.ireturn, 1) := by decide +kernel
theorem dX6_now_76 : decode cX6_now 76 = .ok (.aload_n 0, 1) := by decide +kernel
theorem dX6_now_77 : decode cX6_now 77 = .ok (.getfield 30, 3) := by decide +kernel
theorem dX6_now_80 : decode cX6_now 80 = .ok (.invokevirtual 128, 3) := by decide +kernel
theorem dX6_now_83 : decode cX6_now 83 = .ok (.ifCond .eq 7, 3) := by decide +kernel
theorem dX6_now_86 : decode cX6_now 86 = .ok (.iconst 1, 1) := by decide +kernel
theorem dX6_now_87 : decode cX6_now 87 = .ok (.goto 4, 3) := by decide +kernel
theorem dX6_now_90 : decode cX6_now 90 = .ok (.iconst 0, 1) := by decide +kernel
theorem dX6_now_91 : decode cX6_now 91 = .ok (.ireturn, 1) := by decide +kernel
theorem dX6_now_92 : decode cX6_now 92 = .ok (.aload_n 0, 1) := by decide +kernel
theorem dX6_now_93 : decode cX6_now 93 = .ok (.getfield 40, 3) := by decide +kernel
theorem dX6_now_96 : decode cX6_now 96 = .ok (.getfield 132, 3) := by decide +kernel
theorem dX6_now_99 : decode cX6_now 99 = .ok (.ireturn, 1) := by decide +kernel
theorem dX6_now_100 : decode cX6_now 100 = .ok (.aload_n 0, 1) := by decide +kernel
theorem dX6_now_101 : decode cX6_now 101 = .ok (.getfield 13, 3) := by decide +kernel
theorem dX6_now_104 : decode cX6_now 104 = .ok (.ireturn, 1) := by decide +kernel
theorem dX6_now_105 : decode cX6_now 105 = .ok (.iconst (-1), 1) := by decide +kernel
theorem dX6_now_106 : decode cX6_now 106 = .ok (.ireturn, 1) := by decide +kernel
set_option maxRecDepth 20000 in
theorem ggX6_pinned_X2_hasPair : GoodIn wsX6_pinned wsX2_hasPair := goodIn_r _ [6, 7, 8, 9, 10, 25, 26, 27, 28] (by decide +kernel) (by decide +kernel)
set_option maxRecDepth 20000 in
theorem gX6_pinned_X2_hasPair : GoodIn wsX6_pinned (wsV RX6 135 RX2 yX2_hasPair wsX2_hasPair) := goodIn_app (goodIn_of _ (by decide +kernel)) ggX6_pinned_X2_hasPair
theorem dX6_pinned_0 : decode cX6_pinned 0 = .ok (.aload_n 0, 1) := by decide +kernel
theorem dX6_pinned_1 : decode cX6_pinned 1 = .ok (.getfield 30, 3) := by decide +kernel
theorem dX6_pinned_4 : decode cX6_pinned 4 = .ok (.iload_n 1, 1) := by decide +kernel
theorem dX6_pinned_5 : decode cX6_pinned 5 = .ok (.invokevirtual 135, 3) := by decide +kernel
theorem dX6_pinned_8 : decode cX6_pinned 8 = .ok (.ifCond .eq 15, 3) := by decide +kernel
theorem dX6_pinned_11 : decode cX6_pinned 11 = .ok (.aload_n 0, 1) := by decide +kernel
theorem dX6_pinned_12 : decode cX6_pinned 12 = .ok (.getfield 30, 3) := by decide +kernel
theorem dX6_pinned_15 : decode cX6_pinned 15 = .ok (.getfield 139, 3) := by decide +kernel
theorem dX6_pinned_18 : decode cX6_pinned 18 = .ok (.iload_n 1, 1) := by decide +kernel
theorem dX6_pinned_19 : decode cX6_pinned 19 = .ok (.iaload, 1) := by decide +kernel
theorem dX6_pinned_20 : decode cX6_pinned 20 = .ok (.goto 4, 3) := by decide +kernel
theorem dX6_pinned_23 : decode cX6_pinned 23 = .ok (.iconst (-1), 1) := by decide +kernel
theorem dX6_pinned_24 : decode cX6_pinned 24 = .ok (.ireturn, 1) := by decide +kernel
set_option maxRecDepth 20000 in
theorem ggX6_ways_X6_counted : GoodIn wsX6_ways wsX6_counted := goodIn_r _ [5, 6, 7, 8, 9, 10, 11, 12, 13, 14, 15, 16, 17, 18, 19, 20, 21, 22, 23, 24, 25, 26, 27, 28, 29, 30, 31, 32, 4, 33, 34, 35, 36, 37, 38, 39, 40, 41, 42, 43, 44, 45, 46, 47, 48, 49, 50, 51, 52, 53, 54, 55, 56, 57, 58, 59, 60, 61, 62, 63, 64, 65, 66, 67, 68, 69, 70, 71, 72, 73, 74, 75, 76, 77, 78, 79, 80, 81, 82, 83, 84, 85, 86, 87, 88, 97, 98, 99, 100, 101, 102, 103, 104, 105, 106, 107, 108, 109, 110, 89, 90, 91, 92, 93, 94, 95, 96, 111, 112, 113, 114] (by decide +kernel) (by decide +kernel)
set_option maxRecDepth 20000 in
theorem gX6_ways_X6_counted : GoodIn wsX6_ways (wsV RX6 142 RX6 yX6_counted wsX6_counted) := goodIn_app (goodIn_of _ (by decide +kernel)) ggX6_ways_X6_counted
theorem dX6_ways_0 : decode cX6_ways 0 = .ok (.aload_n 0, 1) := by decide +kernel
theorem dX6_ways_1 : decode cX6_ways 1 = .ok (.invokevirtual 142, 3) := by decide +kernel
theorem dX6_ways_4 : decode cX6_ways 4 = .ok (.getfield 146, 3) := by decide +kernel
theorem dX6_ways_7 : decode cX6_ways 7 = .ok (.ireturn, 1) := by decide +kernel
set_option maxRecDepth 20000 in
theorem ggX6_row_X6_counted : GoodIn wsX6_row wsX6_counted := goodIn_r _ [10, 11, 5, 12, 13, 14, 15, 16, 17, 18, 19, 20, 21, 22, 23, 24, 25, 26, 27, 28, 29, 30, 31, 32, 33, 34, 35, 36, 9, 37, 38, 39, 40, 41, 42, 43, 44, 45, 46, 47, 48, 49, 50, 51, 52, 53, 54, 55, 56, 57, 58, 59, 60, 61, 62, 63, 64, 65, 66, 67, 68, 69, 70, 71, 72, 73, 74, 75, 76, 77, 78, 79, 80, 81, 82, 83, 84, 85, 86, 87, 88, 89, 90, 91, 92, 120, 121, 122, 123, 124, 125, 126, 127, 128, 129, 130, 131, 132, 133, 138, 139, 140, 141, 142, 143, 144, 145, 134, 135, 136, 137] (by decide +kernel) (by decide +kernel)
set_option maxRecDepth 20000 in
theorem gX6_row_X6_counted : GoodIn wsX6_row (wsV RX6 142 RX6 yX6_counted wsX6_counted) := goodIn_app (goodIn_of _ (by decide +kernel)) ggX6_row_X6_counted
set_option maxRecDepth 20000 in
theorem ggX6_row_X1_hasRank : GoodIn wsX6_row wsX1_hasRank := goodIn_r _ [96, 18, 87, 138, 139, 140, 141, 142, 143, 144, 145] (by decide +kernel) (by decide +kernel)
set_option maxRecDepth 20000 in
theorem gX6_row_X1_hasRank : GoodIn wsX6_row (wsV RX6 149 RX1 yX1_hasRank wsX1_hasRank) := goodIn_app (goodIn_of _ (by decide +kernel)) ggX6_row_X1_hasRank
set_option maxRecDepth 20000 in
theorem ggX6_row_X1_tell : GoodIn wsX6_row wsX1_tell := goodIn_r _ [100, 46, 87, 48, 29, 101, 94, 95, 15, 96, 18, 138, 139, 140, 141, 142, 143, 144, 145] (by decide +kernel) (by decide +kernel)
set_option maxRecDepth 20000 in
theorem gX6_row_X1_tell : GoodIn wsX6_row (wsV RX6 155 RX1 yX1_tell wsX1_tell) := goodIn_app (goodIn_of _ (by decide +kernel)) ggX6_row_X1_tell
set_option maxRecDepth 20000 in
theorem ggX6_row_X4_take : GoodIn wsX6_row wsX4_take := goodIn_r _ [106, 107, 43, 44, 45, 108, 109, 110, 111, 112, 113, 105, 114, 115, 21, 22, 23, 146, 147, 148] (by decide +kernel) (by decide +kernel)
set_option maxRecDepth 20000 in
theorem gX6_row_X4_take : GoodIn wsX6_row (wsV RX6 159 RX4 yX4_take wsX4_take) := goodIn_app (goodIn_of _ (by decide +kernel)) ggX6_row_X4_take
set_option maxRecDepth 20000 in
theorem ggX6_row_X4_numberAt : GoodIn wsX6_row wsX4_numberAt := goodIn_r _ [119, 108, 109, 146, 147, 148] (by decide +kernel) (by decide +kernel)
set_option maxRecDepth 20000 in
theorem gX6_row_X4_numberAt : GoodIn wsX6_row (wsV RX6 163 RX4 yX4_numberAt wsX4_numberAt) := goodIn_app (goodIn_of _ (by decide +kernel)) ggX6_row_X4_numberAt
theorem dX6_row_0 : decode cX6_row 0 = .ok (.aload_n 0, 1) := by decide +kernel
theorem dX6_row_1 : decode cX6_row 1 = .ok (.invokevirtual 142, 3) := by decide +kernel
theorem dX6_row_4 : decode cX6_row 4 = .ok (.astore_n 2, 1) := by decide +kernel
theorem dX6_row_5 : decode cX6_row 5 = .ok (.aload_n 2, 1) := by decide +kernel
theorem dX6_row_6 : decode cX6_row 6 = .ok (.iload_n 1, 1) := by decide +kernel
theorem dX6_row_7 : decode cX6_row 7 = .ok (.invokevirtual 149, 3) := by decide +kernel
theorem dX6_row_10 : decode cX6_row 10 = .ok (.ifCond .ne 11, 3) := by decide +kernel
theorem dX6_row_13 : decode cX6_row 13 = .ok (.new 152, 3) := by decide +kernel
theorem dX6_row_16 : decode cX6_row 16 = .ok (.dup, 1) := by decide +kernel
theorem dX6_row_17 : decode cX6_row 17 = .ok (.invokespecial 154, 3) := by decide +kernel
theorem dX6_row_20 : decode cX6_row 20 = .ok (.athrow, 1) := by decide +kernel
theorem dX6_row_21 : decode cX6_row 21 = .ok (.aload_n 2, 1) := by decide +kernel
theorem dX6_row_22 : decode cX6_row 22 = .ok (.iload_n 1, 1) := by decide +kernel
theorem dX6_row_23 : decode cX6_row 23 = .ok (.aload_n 0, 1) := by decide +kernel
theorem dX6_row_24 : decode cX6_row 24 = .ok (.getfield 77, 3) := by decide +kernel
theorem dX6_row_27 : decode cX6_row 27 = .ok (.invokevirtual 155, 3) := by decide +kernel
theorem dX6_row_30 : decode cX6_row 30 = .ok (.aload_n 0, 1) := by decide +kernel
theorem dX6_row_31 : decode cX6_row 31 = .ok (.getfield 73, 3) := by decide +kernel
theorem dX6_row_34 : decode cX6_row 34 = .ok (.aload_n 0, 1) := by decide +kernel
theorem dX6_row_35 : decode cX6_row 35 = .ok (.getfield 77, 3) := by decide +kernel
theorem dX6_row_38 : decode cX6_row 38 = .ok (.aload_n 0, 1) := by decide +kernel
theorem dX6_row_39 : decode cX6_row 39 = .ok (.getfield 30, 3) := by decide +kernel
theorem dX6_row_42 : decode cX6_row 42 = .ok (.getfield 115, 3) := by decide +kernel
theorem dX6_row_45 : decode cX6_row 45 = .ok (.invokevirtual 159, 3) := by decide +kernel
theorem dX6_row_48 : decode cX6_row 48 = .ok (.aload_n 0, 1) := by decide +kernel
theorem dX6_row_49 : decode cX6_row 49 = .ok (.getfield 73, 3) := by decide +kernel
theorem dX6_row_52 : decode cX6_row 52 = .ok (.iconst 1, 1) := by decide +kernel
theorem dX6_row_53 : decode cX6_row 53 = .ok (.invokevirtual 163, 3) := by decide +kernel
theorem dX6_row_56 : decode cX6_row 56 = .ok (.ireturn, 1) := by decide +kernel
set_option maxRecDepth 20000 in
theorem ggX6_at_X4_numberAt : GoodIn wsX6_at wsX4_numberAt := goodIn_r _ [6, 7, 8, 23, 24, 25] (by decide +kernel) (by decide +kernel)
set_option maxRecDepth 20000 in
theorem gX6_at_X4_numberAt : GoodIn wsX6_at (wsV RX6 163 RX4 yX4_numberAt wsX4_numberAt) := goodIn_app (goodIn_of _ (by decide +kernel)) ggX6_at_X4_numberAt
theorem dX6_at_0 : decode cX6_at 0 = .ok (.aload_n 0, 1) := by decide +kernel
theorem dX6_at_1 : decode cX6_at 1 = .ok (.getfield 73, 3) := by decide +kernel
theorem dX6_at_4 : decode cX6_at 4 = .ok (.iload_n 1, 1) := by decide +kernel
theorem dX6_at_5 : decode cX6_at 5 = .ok (.invokevirtual 163, 3) := by decide +kernel
theorem dX6_at_8 : decode cX6_at 8 = .ok (.ireturn, 1) := by decide +kernel
set_option maxRecDepth 20000 in
theorem ggX6_first_X4_firstOf : GoodIn wsX6_first wsX4_firstOf := goodIn_r _ [6, 7, 22, 23, 24] (by decide +kernel) (by decide +kernel)
set_option maxRecDepth 20000 in
theorem gX6_first_X4_firstOf : GoodIn wsX6_first (wsV RX6 166 RX4 yX4_firstOf wsX4_firstOf) := goodIn_app (goodIn_of _ (by decide +kernel)) ggX6_first_X4_firstOf
theorem dX6_first_0 : decode cX6_first 0 = .ok (.aload_n 0, 1) := by decide +kernel
theorem dX6_first_1 : decode cX6_first 1 = .ok (.getfield 73, 3) := by decide +kernel
theorem dX6_first_4 : decode cX6_first 4 = .ok (.iload_n 1, 1) := by decide +kernel
theorem dX6_first_5 : decode cX6_first 5 = .ok (.invokevirtual 166, 3) := by decide +kernel
theorem dX6_first_8 : decode cX6_first 8 = .ok (.ireturn, 1) := by decide +kernel
set_option maxRecDepth 20000 in
theorem ggX6_rank_X6_lookAtTold : GoodIn wsX6_rank wsX6_lookAtTold := goodIn_r _ [9, 3, 10, 2, 11, 12, 13, 8, 14, 15, 16, 17, 18, 19, 20, 21, 22, 23, 24, 25, 26, 27, 28, 29, 30, 31, 32, 33, 34, 35, 36, 37, 38, 39, 40, 41, 42, 43, 44, 45, 46, 47, 48, 49, 50, 51, 52, 53, 54, 55, 56, 57, 58, 59, 60, 61, 62, 63, 64, 65, 66, 67, 68, 69, 70, 71, 72, 73, 74, 75, 76, 77, 78, 79, 80, 81, 82, 83, 84, 85, 86, 87, 88, 89, 90, 91, 92, 93, 94, 95, 96, 97, 98, 99, 100, 101, 102, 103, 104, 105, 106, 107, 108, 109, 110, 111, 112, 113, 114, 115, 116, 117, 118, 119, 120, 121, 122, 123, 124, 125, 126, 127, 128, 129, 130, 131, 132, 133, 134, 135, 136, 137, 138, 139, 140, 141, 142, 143, 144, 145, 146, 147] (by decide +kernel) (by decide +kernel)
set_option maxRecDepth 20000 in
theorem gX6_rank_X6_lookAtTold : GoodIn wsX6_rank (wsV RX6 169 RX6 yX6_lookAtTold wsX6_lookAtTold) := goodIn_app (goodIn_of _ (by decide +kernel)) ggX6_rank_X6_lookAtTold
theorem dX6_rank_0 : decode cX6_rank 0 = .ok (.aload_n 0, 1) := by decide +kernel
theorem dX6_rank_1 : decode cX6_rank 1 = .ok (.getfield 13, 3) := by decide +kernel
theorem dX6_rank_4 : decode cX6_rank 4 = .ok (.istore_n 1, 1) := by decide +kernel
theorem dX6_rank_5 : decode cX6_rank 5 = .ok (.aload_n 0, 1) := by decide +kernel
theorem dX6_rank_6 : decode cX6_rank 6 = .ok (.iconst 0, 1) := by decide +kernel
theorem dX6_rank_7 : decode cX6_rank 7 = .ok (.putfield 13, 3) := by decide +kernel
theorem dX6_rank_10 : decode cX6_rank 10 = .ok (.iload_n 1, 1) := by decide +kernel
theorem dX6_rank_11 : decode cX6_rank 11 = .ok (.aload_n 0, 1) := by decide +kernel
theorem dX6_rank_12 : decode cX6_rank 12 = .ok (.getfield 30, 3) := by decide +kernel
theorem dX6_rank_15 : decode cX6_rank 15 = .ok (.getfield 115, 3) := by decide +kernel
theorem dX6_rank_18 : decode cX6_rank 18 = .ok (.if_icmp .eq 5, 3) := by decide +kernel
theorem dX6_rank_21 : decode cX6_rank 21 = .ok (.iconst (-1), 1) := by decide +kernel
theorem dX6_rank_22 : decode cX6_rank 22 = .ok (.ireturn, 1) := by decide +kernel
theorem dX6_rank_23 : decode cX6_rank 23 = .ok (.iconst 1, 1) := by decide +kernel
theorem dX6_rank_24 : decode cX6_rank 24 = .ok (.istore_n 2, 1) := by decide +kernel
theorem dX6_rank_25 : decode cX6_rank 25 = .ok (.iload_n 2, 1) := by decide +kernel
theorem dX6_rank_26 : decode cX6_rank 26 = .ok (.iload_n 1, 1) := by decide +kernel
theorem dX6_rank_27 : decode cX6_rank 27 = .ok (.if_icmp .gt 33, 3) := by decide +kernel
theorem dX6_rank_30 : decode cX6_rank 30 = .ok (.iload_n 2, 1) := by decide +kernel
theorem dX6_rank_31 : decode cX6_rank 31 = .ok (.bipush 18, 2) := by decide +kernel
theorem dX6_rank_33 : decode cX6_rank 33 = .ok (.if_icmp .gt 27, 3) := by decide +kernel
theorem dX6_rank_36 : decode cX6_rank 36 = .ok (.aload_n 0, 1) := by decide +kernel
theorem dX6_rank_37 : decode cX6_rank 37 = .ok (.getfield 77, 3) := by decide +kernel
theorem dX6_rank_40 : decode cX6_rank 40 = .ok (.iload_n 2, 1) := by decide +kernel
theorem dX6_rank_41 : decode cX6_rank 41 = .ok (.aload_n 0, 1) := by decide +kernel
theorem dX6_rank_42 : decode cX6_rank 42 = .ok (.getfield 9, 3) := by decide +kernel
theorem dX6_rank_45 : decode cX6_rank 45 = .ok (.iload_n 2, 1) := by decide +kernel
theorem dX6_rank_46 : decode cX6_rank 46 = .ok (.iconst 1, 1) := by decide +kernel
theorem dX6_rank_47 : decode cX6_rank 47 = .ok (.isub, 1) := by decide +kernel
theorem dX6_rank_48 : decode cX6_rank 48 = .ok (.baload, 1) := by decide +kernel
theorem dX6_rank_49 : decode cX6_rank 49 = .ok (.sipush 255, 3) := by decide +kernel
theorem dX6_rank_52 : decode cX6_rank 52 = .ok (.iand, 1) := by decide +kernel
theorem dX6_rank_53 : decode cX6_rank 53 = .ok (.iastore, 1) := by decide +kernel
theorem dX6_rank_54 : decode cX6_rank 54 = .ok (.iinc 2 1, 3) := by decide +kernel
theorem dX6_rank_57 : decode cX6_rank 57 = .ok (.goto (-32), 3) := by decide +kernel
theorem dX6_rank_60 : decode cX6_rank 60 = .ok (.aload_n 0, 1) := by decide +kernel
theorem dX6_rank_61 : decode cX6_rank 61 = .ok (.invokevirtual 169, 3) := by decide +kernel
theorem dX6_rank_64 : decode cX6_rank 64 = .ok (.ireturn, 1) := by decide +kernel
set_option maxRecDepth 20000 in
theorem ggX6_behind_X4_numberAt : GoodIn wsX6_behind wsX4_numberAt := goodIn_r _ [8, 9, 10, 135, 136, 137] (by decide +kernel) (by decide +kernel)
set_option maxRecDepth 20000 in
theorem gX6_behind_X4_numberAt : GoodIn wsX6_behind (wsV RX6 163 RX4 yX4_numberAt wsX4_numberAt) := goodIn_app (goodIn_of _ (by decide +kernel)) ggX6_behind_X4_numberAt
set_option maxRecDepth 20000 in
theorem ggX6_behind_X6_lookAtTold : GoodIn wsX6_behind wsX6_lookAtTold := goodIn_r _ [15, 3, 1, 2, 16, 17, 18, 14, 19, 20, 21, 22, 23, 24, 25, 26, 27, 28, 29, 30, 31, 32, 33, 34, 35, 36, 37, 38, 39, 40, 41, 42, 43, 44, 45, 46, 47, 48, 49, 50, 51, 52, 53, 54, 55, 56, 57, 58, 59, 60, 61, 62, 63, 64, 65, 66, 67, 68, 69, 70, 71, 72, 73, 74, 75, 76, 77, 78, 79, 80, 81, 82, 83, 84, 85, 86, 87, 88, 89, 90, 91, 92, 93, 94, 95, 96, 97, 98, 99, 100, 101, 102, 103, 104, 105, 106, 107, 108, 109, 110, 111, 112, 7, 113, 114, 9, 10, 115, 116, 117, 118, 119, 120, 121, 122, 123, 124, 125, 126, 127, 128, 129, 130, 131, 132, 133, 134, 138, 139, 140, 141, 142, 143, 144, 145, 146, 147, 148, 149, 135, 136, 137] (by decide +kernel) (by decide +kernel)
set_option maxRecDepth 20000 in
theorem gX6_behind_X6_lookAtTold : GoodIn wsX6_behind (wsV RX6 169 RX6 yX6_lookAtTold wsX6_lookAtTold) := goodIn_app (goodIn_of _ (by decide +kernel)) ggX6_behind_X6_lookAtTold
theorem dX6_behind_0 : decode cX6_behind 0 = .ok (.aload_n 0, 1) := by decide +kernel
theorem dX6_behind_1 : decode cX6_behind 1 = .ok (.getfield 73, 3) := by decide +kernel
theorem dX6_behind_4 : decode cX6_behind 4 = .ok (.getfield 172, 3) := by decide +kernel
theorem dX6_behind_7 : decode cX6_behind 7 = .ok (.istore_n 1, 1) := by decide +kernel
theorem dX6_behind_8 : decode cX6_behind 8 = .ok (.iload_n 1, 1) := by decide +kernel
theorem dX6_behind_9 : decode cX6_behind 9 = .ok (.aload_n 0, 1) := by decide +kernel
theorem dX6_behind_10 : decode cX6_behind 10 = .ok (.getfield 30, 3) := by decide +kernel
theorem dX6_behind_13 : decode cX6_behind 13 = .ok (.getfield 115, 3) := by decide +kernel
theorem dX6_behind_16 : decode cX6_behind 16 = .ok (.if_icmp .eq 5, 3) := by decide +kernel
theorem dX6_behind_19 : decode cX6_behind 19 = .ok (.iconst (-1), 1) := by decide +kernel
theorem dX6_behind_20 : decode cX6_behind 20 = .ok (.ireturn, 1) := by decide +kernel
theorem dX6_behind_21 : decode cX6_behind 21 = .ok (.iconst 1, 1) := by decide +kernel
theorem dX6_behind_22 : decode cX6_behind 22 = .ok (.istore_n 2, 1) := by decide +kernel
theorem dX6_behind_23 : decode cX6_behind 23 = .ok (.iload_n 2, 1) := by decide +kernel
theorem dX6_behind_24 : decode cX6_behind 24 = .ok (.iload_n 1, 1) := by decide +kernel
theorem dX6_behind_25 : decode cX6_behind 25 = .ok (.if_icmp .gt 33, 3) := by decide +kernel
theorem dX6_behind_28 : decode cX6_behind 28 = .ok (.iload_n 2, 1) := by decide +kernel
theorem dX6_behind_29 : decode cX6_behind 29 = .ok (.bipush 18, 2) := by decide +kernel
theorem dX6_behind_31 : decode cX6_behind 31 = .ok (.if_icmp .gt 27, 3) := by decide +kernel
theorem dX6_behind_34 : decode cX6_behind 34 = .ok (.aload_n 0, 1) := by decide +kernel
theorem dX6_behind_35 : decode cX6_behind 35 = .ok (.getfield 77, 3) := by decide +kernel
theorem dX6_behind_38 : decode cX6_behind 38 = .ok (.iload_n 2, 1) := by decide +kernel
theorem dX6_behind_39 : decode cX6_behind 39 = .ok (.aload_n 0, 1) := by decide +kernel
theorem dX6_behind_40 : decode cX6_behind 40 = .ok (.getfield 73, 3) := by decide +kernel
theorem dX6_behind_43 : decode cX6_behind 43 = .ok (.iload_n 1, 1) := by decide +kernel
theorem dX6_behind_44 : decode cX6_behind 44 = .ok (.iconst 1, 1) := by decide +kernel
theorem dX6_behind_45 : decode cX6_behind 45 = .ok (.iadd, 1) := by decide +kernel
theorem dX6_behind_46 : decode cX6_behind 46 = .ok (.iload_n 2, 1) := by decide +kernel
theorem dX6_behind_47 : decode cX6_behind 47 = .ok (.isub, 1) := by decide +kernel
theorem dX6_behind_48 : decode cX6_behind 48 = .ok (.invokevirtual 163, 3) := by decide +kernel
theorem dX6_behind_51 : decode cX6_behind 51 = .ok (.iastore, 1) := by decide +kernel
theorem dX6_behind_52 : decode cX6_behind 52 = .ok (.iinc 2 1, 3) := by decide +kernel
theorem dX6_behind_55 : decode cX6_behind 55 = .ok (.goto (-32), 3) := by decide +kernel
theorem dX6_behind_58 : decode cX6_behind 58 = .ok (.aload_n 0, 1) := by decide +kernel
theorem dX6_behind_59 : decode cX6_behind 59 = .ok (.invokevirtual 169, 3) := by decide +kernel
theorem dX6_behind_62 : decode cX6_behind 62 = .ok (.ireturn, 1) := by decide +kernel
set_option maxRecDepth 20000 in
theorem ggX6_lookAtTold_X6_counted : GoodIn wsX6_lookAtTold wsX6_counted := goodIn_r _ [8, 9, 3, 10, 11, 12, 13, 14, 15, 16, 17, 18, 19, 20, 21, 22, 23, 24, 25, 26, 27, 28, 29, 30, 31, 32, 33, 34, 7, 35, 36, 37, 38, 39, 40, 41, 42, 43, 44, 45, 46, 47, 48, 49, 50, 51, 52, 53, 54, 55, 56, 57, 58, 59, 60, 61, 62, 63, 64, 65, 66, 67, 68, 69, 70, 71, 72, 73, 74, 75, 76, 77, 78, 79, 80, 81, 82, 83, 84, 85, 86, 87, 88, 89, 90, 113, 114, 115, 116, 117, 118, 119, 120, 121, 122, 123, 124, 125, 126, 131, 132, 133, 134, 135, 136, 137, 138, 127, 128, 129, 130] (by decide +kernel) (by decide +kernel)
set_option maxRecDepth 20000 in
theorem gX6_lookAtTold_X6_counted : GoodIn wsX6_lookAtTold (wsV RX6 142 RX6 yX6_counted wsX6_counted) := goodIn_app (goodIn_of _ (by decide +kernel)) ggX6_lookAtTold_X6_counted
set_option maxRecDepth 20000 in
theorem ggX6_lookAtTold_X1_rankOf : GoodIn wsX6_lookAtTold wsX1_rankOf := goodIn_r _ [94, 44, 26, 46, 95, 96, 97, 13, 98, 16, 85, 40, 41, 42, 43, 131, 132, 133, 134, 135, 136, 137, 138] (by decide +kernel) (by decide +kernel)
set_option maxRecDepth 20000 in
theorem gX6_lookAtTold_X1_rankOf : GoodIn wsX6_lookAtTold (wsV RX6 175 RX1 yX1_rankOf wsX1_rankOf) := goodIn_app (goodIn_of _ (by decide +kernel)) ggX6_lookAtTold_X1_rankOf
set_option maxRecDepth 20000 in
theorem ggX6_lookAtTold_X4_take : GoodIn wsX6_lookAtTold wsX4_take := goodIn_r _ [103, 104, 41, 42, 43, 105, 106, 107, 108, 109, 110, 102, 111, 112, 19, 20, 21, 139, 140, 141] (by decide +kernel) (by decide +kernel)
set_option maxRecDepth 20000 in
theorem gX6_lookAtTold_X4_take : GoodIn wsX6_lookAtTold (wsV RX6 159 RX4 yX4_take wsX4_take) := goodIn_app (goodIn_of _ (by decide +kernel)) ggX6_lookAtTold_X4_take
theorem dX6_lookAtTold_0 : decode cX6_lookAtTold 0 = .ok (.aload_n 0, 1) := by decide +kernel
theorem dX6_lookAtTold_1 : decode cX6_lookAtTold 1 = .ok (.invokevirtual 142, 3) := by decide +kernel
theorem dX6_lookAtTold_4 : decode cX6_lookAtTold 4 = .ok (.aload_n 0, 1) := by decide +kernel
theorem dX6_lookAtTold_5 : decode cX6_lookAtTold 5 = .ok (.getfield 77, 3) := by decide +kernel
theorem dX6_lookAtTold_8 : decode cX6_lookAtTold 8 = .ok (.invokevirtual 175, 3) := by decide +kernel
theorem dX6_lookAtTold_11 : decode cX6_lookAtTold 11 = .ok (.istore_n 1, 1) := by decide +kernel
theorem dX6_lookAtTold_12 : decode cX6_lookAtTold 12 = .ok (.iload_n 1, 1) := by decide +kernel
theorem dX6_lookAtTold_13 : decode cX6_lookAtTold 13 = .ok (.iconst (-1), 1) := by decide +kernel
theorem dX6_lookAtTold_14 : decode cX6_lookAtTold 14 = .ok (.if_icmp .eq 21, 3) := by decide +kernel
theorem dX6_lookAtTold_17 : decode cX6_lookAtTold 17 = .ok (.aload_n 0, 1) := by decide +kernel
theorem dX6_lookAtTold_18 : decode cX6_lookAtTold 18 = .ok (.getfield 73, 3) := by decide +kernel
theorem dX6_lookAtTold_21 : decode cX6_lookAtTold 21 = .ok (.aload_n 0, 1) := by decide +kernel
theorem dX6_lookAtTold_22 : decode cX6_lookAtTold 22 = .ok (.getfield 77, 3) := by decide +kernel
theorem dX6_lookAtTold_25 : decode cX6_lookAtTold 25 = .ok (.aload_n 0, 1) := by decide +kernel
theorem dX6_lookAtTold_26 : decode cX6_lookAtTold 26 = .ok (.getfield 30, 3) := by decide +kernel
theorem dX6_lookAtTold_29 : decode cX6_lookAtTold 29 = .ok (.getfield 115, 3) := by decide +kernel
theorem dX6_lookAtTold_32 : decode cX6_lookAtTold 32 = .ok (.invokevirtual 159, 3) := by decide +kernel
theorem dX6_lookAtTold_35 : decode cX6_lookAtTold 35 = .ok (.iload_n 1, 1) := by decide +kernel
theorem dX6_lookAtTold_36 : decode cX6_lookAtTold 36 = .ok (.ireturn, 1) := by decide +kernel
set_option maxRecDepth 20000 in
theorem ggX6_standing_X2_hasPair : GoodIn wsX6_standing wsX2_hasPair := goodIn_r _ [6, 7, 8, 9, 10, 116, 117, 118, 119] (by decide +kernel) (by decide +kernel)
set_option maxRecDepth 20000 in
theorem gX6_standing_X2_hasPair : GoodIn wsX6_standing (wsV RX6 135 RX2 yX2_hasPair wsX2_hasPair) := goodIn_app (goodIn_of _ (by decide +kernel)) ggX6_standing_X2_hasPair
set_option maxRecDepth 20000 in
theorem ggX6_standing_X2_hasPlace : GoodIn wsX6_standing wsX2_hasPlace := goodIn_r _ [14, 15, 116, 117, 118, 119] (by decide +kernel) (by decide +kernel)
set_option maxRecDepth 20000 in
theorem gX6_standing_X2_hasPlace : GoodIn wsX6_standing (wsV RX6 179 RX2 yX2_hasPlace wsX2_hasPlace) := goodIn_app (goodIn_of _ (by decide +kernel)) ggX6_standing_X2_hasPlace
set_option maxRecDepth 20000 in
theorem ggX6_standing_X6_counted : GoodIn wsX6_standing wsX6_counted := goodIn_r _ [19, 20, 1, 21, 22, 23, 24, 25, 26, 27, 28, 29, 30, 31, 32, 33, 34, 35, 36, 37, 38, 39, 3, 4, 5, 6, 7, 8, 9, 10, 40, 41, 42, 43, 44, 45, 46, 47, 48, 49, 50, 51, 52, 53, 54, 55, 56, 57, 58, 15, 59, 60, 61, 62, 63, 64, 65, 66, 67, 68, 69, 70, 71, 72, 73, 74, 75, 76, 77, 78, 79, 80, 81, 82, 83, 84, 85, 86, 87, 88, 89, 90, 91, 92, 93, 94, 95, 96, 97, 98, 99, 100, 101, 102, 103, 104, 105, 106, 107, 108, 109, 110, 111, 112, 113, 114, 115, 116, 117, 118, 119] (by decide +kernel) (by decide +kernel)
set_option maxRecDepth 20000 in
theorem gX6_standing_X6_counted : GoodIn wsX6_standing (wsV RX6 142 RX6 yX6_counted wsX6_counted) := goodIn_app (goodIn_of _ (by decide +kernel)) ggX6_standing_X6_counted
theorem dX6_standing_0 : decode cX6_standing 0 = .ok (.aload_n 0, 1) := by decide +kernel
theorem dX6_standing_1 : decode cX6_standing 1 = .ok (.getfield 30, 3) := by decide +kernel
theorem dX6_standing_4 : decode cX6_standing 4 = .ok (.iload_n 1, 1) := by decide +kernel
theorem dX6_standing_5 : decode cX6_standing 5 = .ok (.invokevirtual 135, 3) := by decide +kernel
theorem dX6_standing_8 : decode cX6_standing 8 = .ok (.ifCond .eq 28, 3) := by decide +kernel
theorem dX6_standing_11 : decode cX6_standing 11 = .ok (.aload_n 0, 1) := by decide +kernel
theorem dX6_standing_12 : decode cX6_standing 12 = .ok (.getfield 30, 3) := by decide +kernel
theorem dX6_standing_15 : decode cX6_standing 15 = .ok (.iload_n 2, 1) := by decide +kernel
theorem dX6_standing_16 : decode cX6_standing 16 = .ok (.invokevirtual 179, 3) := by decide +kernel
theorem dX6_standing_19 : decode cX6_standing 19 = .ok (.ifCond .eq 17, 3) := by decide +kernel
theorem dX6_standing_22 : decode cX6_standing 22 = .ok (.aload_n 0, 1) := by decide +kernel
theorem dX6_standing_23 : decode cX6_standing 23 = .ok (.invokevirtual 142, 3) := by decide +kernel
theorem dX6_standing_26 : decode cX6_standing 26 = .ok (.getfield 182, 3) := by decide +kernel
theorem dX6_standing_29 : decode cX6_standing 29 = .ok (.iload_n 1, 1) := by decide +kernel
theorem dX6_standing_30 : decode cX6_standing 30 = .ok (.aaload, 1) := by decide +kernel
theorem dX6_standing_31 : decode cX6_standing 31 = .ok (.iload_n 2, 1) := by decide +kernel
theorem dX6_standing_32 : decode cX6_standing 32 = .ok (.iaload, 1) := by decide +kernel
theorem dX6_standing_33 : decode cX6_standing 33 = .ok (.goto 4, 3) := by decide +kernel
theorem dX6_standing_36 : decode cX6_standing 36 = .ok (.iconst (-1), 1) := by decide +kernel
theorem dX6_standing_37 : decode cX6_standing 37 = .ok (.ireturn, 1) := by decide +kernel
set_option maxRecDepth 20000 in
theorem ggX6_may_X2_hasPair : GoodIn wsX6_may wsX2_hasPair := goodIn_r _ [6, 7, 8, 9, 10, 108, 109, 110, 111] (by decide +kernel) (by decide +kernel)
set_option maxRecDepth 20000 in
theorem gX6_may_X2_hasPair : GoodIn wsX6_may (wsV RX6 135 RX2 yX2_hasPair wsX2_hasPair) := goodIn_app (goodIn_of _ (by decide +kernel)) ggX6_may_X2_hasPair
set_option maxRecDepth 20000 in
theorem ggX6_may_X6_counted : GoodIn wsX6_may wsX6_counted := goodIn_r _ [14, 15, 1, 16, 17, 18, 19, 20, 21, 22, 23, 24, 25, 26, 27, 28, 29, 30, 31, 32, 33, 34, 3, 4, 5, 6, 7, 8, 9, 10, 35, 36, 37, 38, 39, 40, 41, 42, 43, 44, 45, 46, 47, 48, 49, 50, 51, 52, 53, 54, 55, 56, 57, 58, 59, 60, 61, 62, 63, 64, 65, 66, 67, 68, 69, 70, 71, 72, 73, 74, 75, 76, 77, 78, 79, 80, 81, 82, 83, 84, 85, 86, 87, 88, 89, 94, 95, 96, 97, 98, 99, 100, 101, 102, 103, 104, 105, 106, 107, 112, 113, 114, 115, 116, 117, 118, 119, 108, 109, 110, 111] (by decide +kernel) (by decide +kernel)
set_option maxRecDepth 20000 in
theorem gX6_may_X6_counted : GoodIn wsX6_may (wsV RX6 142 RX6 yX6_counted wsX6_counted) := goodIn_app (goodIn_of _ (by decide +kernel)) ggX6_may_X6_counted
set_option maxRecDepth 20000 in
theorem ggX6_may_X1_placesOf : GoodIn wsX6_may wsX1_placesOf := goodIn_r _ [93, 43, 23, 8, 9, 10, 112, 113, 114, 115, 116, 117, 118, 119] (by decide +kernel) (by decide +kernel)
set_option maxRecDepth 20000 in
theorem gX6_may_X1_placesOf : GoodIn wsX6_may (wsV RX6 186 RX1 yX1_placesOf wsX1_placesOf) := goodIn_app (goodIn_of _ (by decide +kernel)) ggX6_may_X1_placesOf
theorem dX6_may_0 : decode cX6_may 0 = .ok (.aload_n 0, 1) := by decide +kernel
theorem dX6_may_1 : decode cX6_may 1 = .ok (.getfield 30, 3) := by decide +kernel
theorem dX6_may_4 : decode cX6_may 4 = .ok (.iload_n 1, 1) := by decide +kernel
theorem dX6_may_5 : decode cX6_may 5 = .ok (.invokevirtual 135, 3) := by decide +kernel
theorem dX6_may_8 : decode cX6_may 8 = .ok (.ifCond .eq 14, 3) := by decide +kernel
theorem dX6_may_11 : decode cX6_may 11 = .ok (.aload_n 0, 1) := by decide +kernel
theorem dX6_may_12 : decode cX6_may 12 = .ok (.invokevirtual 142, 3) := by decide +kernel
theorem dX6_may_15 : decode cX6_may 15 = .ok (.iload_n 1, 1) := by decide +kernel
theorem dX6_may_16 : decode cX6_may 16 = .ok (.invokevirtual 186, 3) := by decide +kernel
theorem dX6_may_19 : decode cX6_may 19 = .ok (.goto 4, 3) := by decide +kernel
theorem dX6_may_22 : decode cX6_may 22 = .ok (.iconst (-1), 1) := by decide +kernel
theorem dX6_may_23 : decode cX6_may 23 = .ok (.ireturn, 1) := by decide +kernel
set_option maxRecDepth 20000 in
theorem ggX6_sure_X6_counted : GoodIn wsX6_sure wsX6_counted := goodIn_r _ [6, 7, 1, 8, 9, 10, 11, 12, 13, 14, 15, 16, 17, 18, 19, 20, 21, 22, 23, 24, 25, 26, 27, 28, 29, 30, 31, 32, 5, 33, 34, 35, 36, 37, 38, 39, 40, 41, 42, 43, 44, 45, 46, 47, 48, 49, 50, 51, 52, 53, 54, 55, 56, 57, 58, 59, 60, 61, 62, 63, 64, 65, 66, 67, 68, 69, 70, 71, 72, 73, 74, 75, 76, 77, 78, 79, 80, 81, 82, 83, 84, 85, 86, 87, 88, 99, 100, 101, 102, 103, 104, 105, 106, 107, 108, 109, 110, 111, 112, 113, 114, 115, 116, 117, 118, 119, 120, 121, 122, 123, 124] (by decide +kernel) (by decide +kernel)
set_option maxRecDepth 20000 in
theorem gX6_sure_X6_counted : GoodIn wsX6_sure (wsV RX6 142 RX6 yX6_counted wsX6_counted) := goodIn_app (goodIn_of _ (by decide +kernel)) ggX6_sure_X6_counted
set_option maxRecDepth 20000 in
theorem ggX6_sure_X2_hasPair : GoodIn wsX6_sure wsX2_hasPair := goodIn_r _ [30, 31, 32, 5, 33, 121, 122, 123, 124] (by decide +kernel) (by decide +kernel)
set_option maxRecDepth 20000 in
theorem gX6_sure_X2_hasPair : GoodIn wsX6_sure (wsV RX6 135 RX2 yX2_hasPair wsX2_hasPair) := goodIn_app (goodIn_of _ (by decide +kernel)) ggX6_sure_X2_hasPair
set_option maxRecDepth 20000 in
theorem ggX6_sure_X1_isSure : GoodIn wsX6_sure wsX1_isSure := goodIn_r _ [93, 94, 95, 96, 11, 97, 42, 15, 32, 5, 33, 84, 56, 57, 58, 59, 60, 61, 113, 114, 115, 116, 117, 118, 119, 120] (by decide +kernel) (by decide +kernel)
set_option maxRecDepth 20000 in
theorem gX6_sure_X1_isSure : GoodIn wsX6_sure (wsV RX6 189 RX1 yX1_isSure wsX1_isSure) := goodIn_app (goodIn_of _ (by decide +kernel)) ggX6_sure_X1_isSure
set_option maxRecDepth 20000 in
theorem ggX6_sure_X6_bit : GoodIn wsX6_sure wsX6_bit := goodIn_r _ [33] (by decide +kernel) (by decide +kernel)
set_option maxRecDepth 20000 in
theorem gX6_sure_X6_bit : GoodIn wsX6_sure (va_wsS RX6 105 yX6_bit wsX6_bit) := goodIn_app (goodIn_of _ (by decide +kernel)) ggX6_sure_X6_bit
theorem dX6_sure_0 : decode cX6_sure 0 = .ok (.aload_n 0, 1) := by decide +kernel
theorem dX6_sure_1 : decode cX6_sure 1 = .ok (.invokevirtual 142, 3) := by decide +kernel
theorem dX6_sure_4 : decode cX6_sure 4 = .ok (.astore_n 1, 1) := by decide +kernel
theorem dX6_sure_5 : decode cX6_sure 5 = .ok (.iconst 0, 1) := by decide +kernel
theorem dX6_sure_6 : decode cX6_sure 6 = .ok (.istore_n 2, 1) := by decide +kernel
theorem dX6_sure_7 : decode cX6_sure 7 = .ok (.iconst 1, 1) := by decide +kernel
theorem dX6_sure_8 : decode cX6_sure 8 = .ok (.istore_n 3, 1) := by decide +kernel
theorem dX6_sure_9 : decode cX6_sure 9 = .ok (.iload_n 3, 1) := by decide +kernel
theorem dX6_sure_10 : decode cX6_sure 10 = .ok (.bipush 15, 2) := by decide +kernel
theorem dX6_sure_12 : decode cX6_sure 12 = .ok (.if_icmp .gt 35, 3) := by decide +kernel
theorem dX6_sure_15 : decode cX6_sure 15 = .ok (.aload_n 0, 1) := by decide +kernel
theorem dX6_sure_16 : decode cX6_sure 16 = .ok (.getfield 30, 3) := by decide +kernel
theorem dX6_sure_19 : decode cX6_sure 19 = .ok (.iload_n 3, 1) := by decide +kernel
theorem dX6_sure_20 : decode cX6_sure 20 = .ok (.invokevirtual 135, 3) := by decide +kernel
theorem dX6_sure_23 : decode cX6_sure 23 = .ok (.ifCond .eq 18, 3) := by decide +kernel
theorem dX6_sure_26 : decode cX6_sure 26 = .ok (.aload_n 1, 1) := by decide +kernel
theorem dX6_sure_27 : decode cX6_sure 27 = .ok (.iload_n 3, 1) := by decide +kernel
theorem dX6_sure_28 : decode cX6_sure 28 = .ok (.invokevirtual 189, 3) := by decide +kernel
theorem dX6_sure_31 : decode cX6_sure 31 = .ok (.ifCond .eq 10, 3) := by decide +kernel
theorem dX6_sure_34 : decode cX6_sure 34 = .ok (.iload_n 2, 1) := by decide +kernel
theorem dX6_sure_35 : decode cX6_sure 35 = .ok (.iload_n 3, 1) := by decide +kernel
theorem dX6_sure_36 : decode cX6_sure 36 = .ok (.invokestatic 105, 3) := by decide +kernel
theorem dX6_sure_39 : decode cX6_sure 39 = .ok (.ior, 1) := by decide +kernel
theorem dX6_sure_40 : decode cX6_sure 40 = .ok (.istore_n 2, 1) := by decide +kernel
theorem dX6_sure_41 : decode cX6_sure 41 = .ok (.iinc 3 1, 3) := by decide +kernel
theorem dX6_sure_44 : decode cX6_sure 44 = .ok (.goto (-35), 3) := by decide +kernel
theorem dX6_sure_47 : decode cX6_sure 47 = .ok (.iload_n 2, 1) := by decide +kernel
theorem dX6_sure_48 : decode cX6_sure 48 = .ok (.ireturn, 1) := by decide +kernel
set_option maxRecDepth 20000 in
theorem ggX6_extended_X6_bit : GoodIn wsX6_extended wsX6_bit := goodIn_r _ [6] (by decide +kernel) (by decide +kernel)
set_option maxRecDepth 20000 in
theorem gX6_extended_X6_bit : GoodIn wsX6_extended (va_wsS RX6 105 yX6_bit wsX6_bit) := goodIn_app (goodIn_of _ (by decide +kernel)) ggX6_extended_X6_bit
set_option maxRecDepth 20000 in
theorem ggX6_extended_X2_begin : GoodIn wsX6_extended wsX2_begin := goodIn_r _ [11, 12, 13, 14, 15, 16, 17, 18, 19, 113, 114, 115, 116] (by decide +kernel) (by decide +kernel)
set_option maxRecDepth 20000 in
theorem gX6_extended_X2_begin : GoodIn wsX6_extended (wsV RX6 108 RX2 yX2_begin wsX2_begin) := goodIn_app (goodIn_of _ (by decide +kernel)) ggX6_extended_X2_begin
set_option maxRecDepth 20000 in
theorem ggX6_extended_X1_countAll : GoodIn wsX6_extended wsX1_countAll := goodIn_r _ [24, 25, 26, 27, 28, 17, 18, 19, 29, 30, 31, 23, 32, 33, 34, 35, 36, 37, 10, 38, 14, 4, 5, 6, 39, 40, 41, 42, 43, 44, 45, 46, 47, 48, 49, 50, 51, 52, 53, 54, 55, 56, 57, 12, 13, 58, 59, 60, 61, 62, 63, 64, 65, 66, 67, 68, 69, 70, 71, 72, 15, 73, 74, 75, 76, 77, 78, 79, 80, 81, 82, 83, 84, 85, 86, 87, 88, 89, 90, 105, 106, 107, 108, 109, 110, 111, 112, 113, 114, 115, 116] (by decide +kernel) (by decide +kernel)
set_option maxRecDepth 20000 in
theorem gX6_extended_X1_countAll : GoodIn wsX6_extended (wsV RX6 192 RX1 yX1_countAll wsX1_countAll) := goodIn_app (goodIn_of _ (by decide +kernel)) ggX6_extended_X1_countAll
theorem dX6_extended_0 : decode cX6_extended 0 = .ok (.iload_n 1, 1) := by decide +kernel
theorem dX6_extended_1 : decode cX6_extended 1 = .ok (.iconst 1, 1) := by decide +kernel
theorem dX6_extended_2 : decode cX6_extended 2 = .ok (.if_icmp .lt 23, 3) := by decide +kernel
theorem dX6_extended_5 : decode cX6_extended 5 = .ok (.iload_n 1, 1) := by decide +kernel
theorem dX6_extended_6 : decode cX6_extended 6 = .ok (.bipush 7, 2) := by decide +kernel
theorem dX6_extended_8 : decode cX6_extended 8 = .ok (.if_icmp .gt 17, 3) := by decide +kernel
theorem dX6_extended_11 : decode cX6_extended 11 = .ok (.iload_n 2, 1) := by decide +kernel
theorem dX6_extended_12 : decode cX6_extended 12 = .ok (.iconst 1, 1) := by decide +kernel
theorem dX6_extended_13 : decode cX6_extended 13 = .ok (.if_icmp .lt 12, 3) := by decide +kernel
theorem dX6_extended_16 : decode cX6_extended 16 = .ok (.iload_n 2, 1) := by decide +kernel
theorem dX6_extended_17 : decode cX6_extended 17 = .ok (.iconst 2, 1) := by decide +kernel
theorem dX6_extended_18 : decode cX6_extended 18 = .ok (.iload_n 1, 1) := by decide +kernel
theorem dX6_extended_19 : decode cX6_extended 19 = .ok (.imul, 1) := by decide +kernel
theorem dX6_extended_20 : decode cX6_extended 20 = .ok (.iconst 1, 1) := by decide +kernel
theorem dX6_extended_21 : decode cX6_extended 21 = .ok (.iadd, 1) := by decide +kernel
theorem dX6_extended_22 : decode cX6_extended 22 = .ok (.if_icmp .le 5, 3) := by decide +kernel
theorem dX6_extended_25 : decode cX6_extended 25 = .ok (.iconst (-1), 1) := by decide +kernel
theorem dX6_extended_26 : decode cX6_extended 26 = .ok (.ireturn, 1) := by decide +kernel
theorem dX6_extended_27 : decode cX6_extended 27 = .ok (.aload_n 0, 1) := by decide +kernel
theorem dX6_extended_28 : decode cX6_extended 28 = .ok (.getfield 64, 3) := by decide +kernel
theorem dX6_extended_31 : decode cX6_extended 31 = .ok (.iconst 2, 1) := by decide +kernel
theorem dX6_extended_32 : decode cX6_extended 32 = .ok (.iload_n 1, 1) := by decide +kernel
theorem dX6_extended_33 : decode cX6_extended 33 = .ok (.imul, 1) := by decide +kernel
theorem dX6_extended_34 : decode cX6_extended 34 = .ok (.iconst 1, 1) := by decide +kernel
theorem dX6_extended_35 : decode cX6_extended 35 = .ok (.iadd, 1) := by decide +kernel
theorem dX6_extended_36 : decode cX6_extended 36 = .ok (.iload_n 2, 1) := by decide +kernel
theorem dX6_extended_37 : decode cX6_extended 37 = .ok (.invokestatic 105, 3) := by decide +kernel
theorem dX6_extended_40 : decode cX6_extended 40 = .ok (.iconst 1, 1) := by decide +kernel
theorem dX6_extended_41 : decode cX6_extended 41 = .ok (.iload_n 1, 1) := by decide +kernel
theorem dX6_extended_42 : decode cX6_extended 42 = .ok (.ishl, 1) := by decide +kernel
theorem dX6_extended_43 : decode cX6_extended 43 = .ok (.iconst 1, 1) := by decide +kernel
theorem dX6_extended_44 : decode cX6_extended 44 = .ok (.isub, 1) := by decide +kernel
theorem dX6_extended_45 : decode cX6_extended 45 = .ok (.invokevirtual 108, 3) := by decide +kernel
theorem dX6_extended_48 : decode cX6_extended 48 = .ok (.aload_n 0, 1) := by decide +kernel
theorem dX6_extended_49 : decode cX6_extended 49 = .ok (.getfield 67, 3) := by decide +kernel
theorem dX6_extended_52 : decode cX6_extended 52 = .ok (.aload_n 0, 1) := by decide +kernel
theorem dX6_extended_53 : decode cX6_extended 53 = .ok (.getfield 64, 3) := by decide +kernel
theorem dX6_extended_56 : decode cX6_extended 56 = .ok (.invokevirtual 192, 3) := by decide +kernel
theorem dX6_extended_59 : decode cX6_extended 59 = .ok (.aload_n 0, 1) := by decide +kernel
theorem dX6_extended_60 : decode cX6_extended 60 = .ok (.getfield 67, 3) := by decide +kernel
theorem dX6_extended_63 : decode cX6_extended 63 = .ok (.getfield 146, 3) := by decide +kernel
theorem dX6_extended_66 : decode cX6_extended 66 = .ok (.ireturn, 1) := by decide +kernel
set_option maxRecDepth 20000 in
theorem ggX6_made_X4_make : GoodIn wsX6_made wsX4_make := goodIn_r _ [6, 7, 8, 9, 5, 10, 11, 12, 13, 14, 15, 16, 17, 18, 19, 20, 21, 22, 23, 24, 25, 26, 27, 28, 29, 30, 31, 32, 33, 34, 35, 36, 37, 38, 39, 40, 41, 56, 57, 58] (by decide +kernel) (by decide +kernel)
set_option maxRecDepth 20000 in
theorem gX6_made_X4_make : GoodIn wsX6_made (wsV RX6 195 RX4 yX4_make wsX4_make) := goodIn_app (goodIn_of _ (by decide +kernel)) ggX6_made_X4_make
theorem dX6_made_0 : decode cX6_made 0 = .ok (.iload_n 1, 1) := by decide +kernel
theorem dX6_made_1 : decode cX6_made 1 = .ok (.bipush 6, 2) := by decide +kernel
theorem dX6_made_3 : decode cX6_made 3 = .ok (.if_icmp .eq 15, 3) := by decide +kernel
theorem dX6_made_6 : decode cX6_made 6 = .ok (.iload_n 1, 1) := by decide +kernel
theorem dX6_made_7 : decode cX6_made 7 = .ok (.bipush 8, 2) := by decide +kernel
theorem dX6_made_9 : decode cX6_made 9 = .ok (.if_icmp .lt 16, 3) := by decide +kernel
theorem dX6_made_12 : decode cX6_made 12 = .ok (.iload_n 1, 1) := by decide +kernel
theorem dX6_made_13 : decode cX6_made 13 = .ok (.bipush 60, 2) := by decide +kernel
theorem dX6_made_15 : decode cX6_made 15 = .ok (.if_icmp .gt 10, 3) := by decide +kernel
theorem dX6_made_18 : decode cX6_made 18 = .ok (.iload_n 1, 1) := by decide +kernel
theorem dX6_made_19 : decode cX6_made 19 = .ok (.iconst 4, 1) := by decide +kernel
theorem dX6_made_20 : decode cX6_made 20 = .ok (.irem, 1) := by decide +kernel
theorem dX6_made_21 : decode cX6_made 21 = .ok (.iconst 3, 1) := by decide +kernel
theorem dX6_made_22 : decode cX6_made 22 = .ok (.if_icmp .ne 5, 3) := by decide +kernel
theorem dX6_made_25 : decode cX6_made 25 = .ok (.iconst (-1), 1) := by decide +kernel
theorem dX6_made_26 : decode cX6_made 26 = .ok (.ireturn, 1) := by decide +kernel
theorem dX6_made_27 : decode cX6_made 27 = .ok (.aload_n 0, 1) := by decide +kernel
theorem dX6_made_28 : decode cX6_made 28 = .ok (.getfield 73, 3) := by decide +kernel
theorem dX6_made_31 : decode cX6_made 31 = .ok (.iload_n 1, 1) := by decide +kernel
theorem dX6_made_32 : decode cX6_made 32 = .ok (.invokevirtual 195, 3) := by decide +kernel
theorem dX6_made_35 : decode cX6_made 35 = .ok (.aload_n 0, 1) := by decide +kernel
theorem dX6_made_36 : decode cX6_made 36 = .ok (.getfield 73, 3) := by decide +kernel
theorem dX6_made_39 : decode cX6_made 39 = .ok (.getfield 172, 3) := by decide +kernel
theorem dX6_made_42 : decode cX6_made 42 = .ok (.ireturn, 1) := by decide +kernel
set_option maxRecDepth 20000 in
theorem ggX6_third_X4_thirdOf : GoodIn wsX6_third wsX4_thirdOf := goodIn_r _ [6, 7, 8, 9, 5, 10, 11, 12, 13, 14, 15, 16, 17, 18, 19, 20, 21, 22, 23, 24, 25, 40, 41, 42] (by decide +kernel) (by decide +kernel)
set_option maxRecDepth 20000 in
theorem gX6_third_X4_thirdOf : GoodIn wsX6_third (wsV RX6 198 RX4 yX4_thirdOf wsX4_thirdOf) := goodIn_app (goodIn_of _ (by decide +kernel)) ggX6_third_X4_thirdOf
theorem dX6_third_0 : decode cX6_third 0 = .ok (.aload_n 0, 1) := by decide +kernel
theorem dX6_third_1 : decode cX6_third 1 = .ok (.getfield 73, 3) := by decide +kernel
theorem dX6_third_4 : decode cX6_third 4 = .ok (.iload_n 1, 1) := by decide +kernel
theorem dX6_third_5 : decode cX6_third 5 = .ok (.iload_n 2, 1) := by decide +kernel
theorem dX6_third_6 : decode cX6_third 6 = .ok (.invokevirtual 198, 3) := by decide +kernel
theorem dX6_third_9 : decode cX6_third 9 = .ok (.ireturn, 1) := by decide +kernel
set_option maxRecDepth 20000 in
theorem ggX6_hole_X2_copy : GoodIn wsX6_hole wsX2_copy := goodIn_r _ [7, 8, 9, 10, 11, 12, 13, 14, 15, 83, 84, 85, 86] (by decide +kernel) (by decide +kernel)
set_option maxRecDepth 20000 in
theorem gX6_hole_X2_copy : GoodIn wsX6_hole (wsV RX6 102 RX2 yX2_copy wsX2_copy) := goodIn_app (goodIn_of _ (by decide +kernel)) ggX6_hole_X2_copy
set_option maxRecDepth 20000 in
theorem ggX6_hole_X2_setHole : GoodIn wsX6_hole wsX2_setHole := goodIn_r _ [19, 9, 20, 21, 22, 6, 23, 8, 24, 25, 26, 27, 28, 29, 30, 31, 32, 33, 34, 11, 35, 36, 37, 38, 39, 40, 41, 83, 84, 85, 86] (by decide +kernel) (by decide +kernel)
set_option maxRecDepth 20000 in
theorem gX6_hole_X2_setHole : GoodIn wsX6_hole (wsV RX6 202 RX2 yX2_setHole wsX2_setHole) := goodIn_app (goodIn_of _ (by decide +kernel)) ggX6_hole_X2_setHole
set_option maxRecDepth 20000 in
theorem ggX6_hole_X6_acted : GoodIn wsX6_hole wsX6_acted := goodIn_r _ [45, 46, 1, 47, 48, 49, 50, 51, 52, 53, 54, 55, 56, 6, 57, 58, 59, 60, 61, 62, 63, 64, 65, 66, 8, 9, 10, 67, 11, 68, 4, 5, 7, 12, 13, 14, 15, 69, 70, 71, 72, 73, 74, 75, 76, 77, 78, 79, 80, 81, 82, 87, 88, 89, 90, 91, 92, 93, 94, 95, 96, 97, 83, 84, 85, 86] (by decide +kernel) (by decide +kernel)
set_option maxRecDepth 20000 in
theorem gX6_hole_X6_acted : GoodIn wsX6_hole (wsV RX6 112 RX6 yX6_acted wsX6_acted) := goodIn_app (goodIn_of _ (by decide +kernel)) ggX6_hole_X6_acted
theorem dX6_hole_0 : decode cX6_hole 0 = .ok (.aload_n 0, 1) := by decide +kernel
theorem dX6_hole_1 : decode cX6_hole 1 = .ok (.getfield 34, 3) := by decide +kernel
theorem dX6_hole_4 : decode cX6_hole 4 = .ok (.aload_n 0, 1) := by decide +kernel
theorem dX6_hole_5 : decode cX6_hole 5 = .ok (.getfield 30, 3) := by decide +kernel
theorem dX6_hole_8 : decode cX6_hole 8 = .ok (.invokevirtual 102, 3) := by decide +kernel
theorem dX6_hole_11 : decode cX6_hole 11 = .ok (.aload_n 0, 1) := by decide +kernel
theorem dX6_hole_12 : decode cX6_hole 12 = .ok (.getfield 30, 3) := by decide +kernel
theorem dX6_hole_15 : decode cX6_hole 15 = .ok (.iload_n 1, 1) := by decide +kernel
theorem dX6_hole_16 : decode cX6_hole 16 = .ok (.iload_n 2, 1) := by decide +kernel
theorem dX6_hole_17 : decode cX6_hole 17 = .ok (.invokevirtual 202, 3) := by decide +kernel
theorem dX6_hole_20 : decode cX6_hole 20 = .ok (.istore_n 3, 1) := by decide +kernel
theorem dX6_hole_21 : decode cX6_hole 21 = .ok (.iload_n 3, 1) := by decide +kernel
theorem dX6_hole_22 : decode cX6_hole 22 = .ok (.iconst (-1), 1) := by decide +kernel
theorem dX6_hole_23 : decode cX6_hole 23 = .ok (.if_icmp .eq 7, 3) := by decide +kernel
theorem dX6_hole_26 : decode cX6_hole 26 = .ok (.aload_n 0, 1) := by decide +kernel
theorem dX6_hole_27 : decode cX6_hole 27 = .ok (.invokevirtual 112, 3) := by decide +kernel
theorem dX6_hole_30 : decode cX6_hole 30 = .ok (.iload_n 3, 1) := by decide +kernel
theorem dX6_hole_31 : decode cX6_hole 31 = .ok (.ireturn, 1) := by decide +kernel
set_option maxRecDepth 20000 in
theorem ggX6_pair_X2_copy : GoodIn wsX6_pair wsX2_copy := goodIn_r _ [7, 8, 9, 10, 11, 12, 13, 14, 15, 75, 76, 77, 78] (by decide +kernel) (by decide +kernel)
set_option maxRecDepth 20000 in
theorem gX6_pair_X2_copy : GoodIn wsX6_pair (wsV RX6 102 RX2 yX2_copy wsX2_copy) := goodIn_app (goodIn_of _ (by decide +kernel)) ggX6_pair_X2_copy
set_option maxRecDepth 20000 in
theorem ggX6_pair_X2_setPair : GoodIn wsX6_pair wsX2_setPair := goodIn_r _ [19, 10, 11, 20, 21, 22, 6, 23, 24, 25, 26, 27, 28, 29, 30, 31, 32, 33, 75, 76, 77, 78] (by decide +kernel) (by decide +kernel)
set_option maxRecDepth 20000 in
theorem gX6_pair_X2_setPair : GoodIn wsX6_pair (wsV RX6 206 RX2 yX2_setPair wsX2_setPair) := goodIn_app (goodIn_of _ (by decide +kernel)) ggX6_pair_X2_setPair
set_option maxRecDepth 20000 in
theorem ggX6_pair_X6_acted : GoodIn wsX6_pair wsX6_acted := goodIn_r _ [37, 38, 1, 39, 40, 41, 42, 43, 44, 45, 46, 47, 48, 6, 49, 50, 51, 52, 53, 54, 55, 56, 57, 58, 8, 9, 10, 59, 11, 60, 4, 5, 7, 12, 13, 14, 15, 61, 62, 63, 64, 65, 66, 67, 68, 69, 70, 71, 72, 73, 74, 79, 80, 81, 82, 83, 84, 85, 86, 87, 88, 89, 75, 76, 77, 78] (by decide +kernel) (by decide +kernel)
set_option maxRecDepth 20000 in
theorem gX6_pair_X6_acted : GoodIn wsX6_pair (wsV RX6 112 RX6 yX6_acted wsX6_acted) := goodIn_app (goodIn_of _ (by decide +kernel)) ggX6_pair_X6_acted
theorem dX6_pair_0 : decode cX6_pair 0 = .ok (.aload_n 0, 1) := by decide +kernel
theorem dX6_pair_1 : decode cX6_pair 1 = .ok (.getfield 34, 3) := by decide +kernel
theorem dX6_pair_4 : decode cX6_pair 4 = .ok (.aload_n 0, 1) := by decide +kernel
theorem dX6_pair_5 : decode cX6_pair 5 = .ok (.getfield 30, 3) := by decide +kernel
theorem dX6_pair_8 : decode cX6_pair 8 = .ok (.invokevirtual 102, 3) := by decide +kernel
theorem dX6_pair_11 : decode cX6_pair 11 = .ok (.aload_n 0, 1) := by decide +kernel
theorem dX6_pair_12 : decode cX6_pair 12 = .ok (.getfield 30, 3) := by decide +kernel
theorem dX6_pair_15 : decode cX6_pair 15 = .ok (.iload_n 1, 1) := by decide +kernel
theorem dX6_pair_16 : decode cX6_pair 16 = .ok (.iload_n 2, 1) := by decide +kernel
theorem dX6_pair_17 : decode cX6_pair 17 = .ok (.invokevirtual 206, 3) := by decide +kernel
theorem dX6_pair_20 : decode cX6_pair 20 = .ok (.istore_n 3, 1) := by decide +kernel
theorem dX6_pair_21 : decode cX6_pair 21 = .ok (.iload_n 3, 1) := by decide +kernel
theorem dX6_pair_22 : decode cX6_pair 22 = .ok (.iconst (-1), 1) := by decide +kernel
theorem dX6_pair_23 : decode cX6_pair 23 = .ok (.if_icmp .eq 7, 3) := by decide +kernel
theorem dX6_pair_26 : decode cX6_pair 26 = .ok (.aload_n 0, 1) := by decide +kernel
theorem dX6_pair_27 : decode cX6_pair 27 = .ok (.invokevirtual 112, 3) := by decide +kernel
theorem dX6_pair_30 : decode cX6_pair 30 = .ok (.iload_n 3, 1) := by decide +kernel
theorem dX6_pair_31 : decode cX6_pair 31 = .ok (.ireturn, 1) := by decide +kernel
set_option maxRecDepth 20000 in
theorem ggX6_pin_X2_copy : GoodIn wsX6_pin wsX2_copy := goodIn_r _ [7, 8, 9, 10, 11, 12, 13, 14, 15, 76, 77, 78, 79] (by decide +kernel) (by decide +kernel)
set_option maxRecDepth 20000 in
theorem gX6_pin_X2_copy : GoodIn wsX6_pin (wsV RX6 102 RX2 yX2_copy wsX2_copy) := goodIn_app (goodIn_of _ (by decide +kernel)) ggX6_pin_X2_copy
set_option maxRecDepth 20000 in
theorem ggX6_pin_X2_setPin : GoodIn wsX6_pin wsX2_setPin := goodIn_r _ [19, 11, 9, 20, 21, 22, 6, 23, 10, 24, 25, 26, 27, 28, 29, 30, 8, 31, 32, 33, 34, 76, 77, 78, 79] (by decide +kernel) (by decide +kernel)
set_option maxRecDepth 20000 in
theorem gX6_pin_X2_setPin : GoodIn wsX6_pin (wsV RX6 209 RX2 yX2_setPin wsX2_setPin) := goodIn_app (goodIn_of _ (by decide +kernel)) ggX6_pin_X2_setPin
set_option maxRecDepth 20000 in
theorem ggX6_pin_X6_acted : GoodIn wsX6_pin wsX6_acted := goodIn_r _ [38, 39, 1, 40, 41, 42, 43, 44, 45, 46, 47, 48, 49, 6, 50, 51, 52, 53, 54, 55, 56, 57, 58, 59, 8, 9, 10, 60, 11, 61, 4, 5, 7, 12, 13, 14, 15, 62, 63, 64, 65, 66, 67, 68, 69, 70, 71, 72, 73, 74, 75, 80, 81, 82, 83, 84, 85, 86, 87, 88, 89, 90, 76, 77, 78, 79] (by decide +kernel) (by decide +kernel)
set_option maxRecDepth 20000 in
theorem gX6_pin_X6_acted : GoodIn wsX6_pin (wsV RX6 112 RX6 yX6_acted wsX6_acted) := goodIn_app (goodIn_of _ (by decide +kernel)) ggX6_pin_X6_acted
theorem dX6_pin_0 : decode cX6_pin 0 = .ok (.aload_n 0, 1) := by decide +kernel
theorem dX6_pin_1 : decode cX6_pin 1 = .ok (.getfield 34, 3) := by decide +kernel
theorem dX6_pin_4 : decode cX6_pin 4 = .ok (.aload_n 0, 1) := by decide +kernel
theorem dX6_pin_5 : decode cX6_pin 5 = .ok (.getfield 30, 3) := by decide +kernel
theorem dX6_pin_8 : decode cX6_pin 8 = .ok (.invokevirtual 102, 3) := by decide +kernel
theorem dX6_pin_11 : decode cX6_pin 11 = .ok (.aload_n 0, 1) := by decide +kernel
theorem dX6_pin_12 : decode cX6_pin 12 = .ok (.getfield 30, 3) := by decide +kernel
theorem dX6_pin_15 : decode cX6_pin 15 = .ok (.iload_n 1, 1) := by decide +kernel
theorem dX6_pin_16 : decode cX6_pin 16 = .ok (.iload_n 2, 1) := by decide +kernel
theorem dX6_pin_17 : decode cX6_pin 17 = .ok (.invokevirtual 209, 3) := by decide +kernel
theorem dX6_pin_20 : decode cX6_pin 20 = .ok (.istore_n 3, 1) := by decide +kernel
theorem dX6_pin_21 : decode cX6_pin 21 = .ok (.iload_n 3, 1) := by decide +kernel
theorem dX6_pin_22 : decode cX6_pin 22 = .ok (.ifCond .ne 7, 3) := by decide +kernel
theorem dX6_pin_25 : decode cX6_pin 25 = .ok (.aload_n 0, 1) := by decide +kernel
theorem dX6_pin_26 : decode cX6_pin 26 = .ok (.invokevirtual 112, 3) := by decide +kernel
theorem dX6_pin_29 : decode cX6_pin 29 = .ok (.iload_n 3, 1) := by decide +kernel
theorem dX6_pin_30 : decode cX6_pin 30 = .ok (.ireturn, 1) := by decide +kernel
set_option maxRecDepth 20000 in
theorem ggX6_drawn_X2_copy : GoodIn wsX6_drawn wsX2_copy := goodIn_r _ [8, 9, 10, 11, 12, 13, 14, 15, 16, 119, 120, 121, 122] (by decide +kernel) (by decide +kernel)
set_option maxRecDepth 20000 in
theorem gX6_drawn_X2_copy : GoodIn wsX6_drawn (wsV RX6 102 RX2 yX2_copy wsX2_copy) := goodIn_app (goodIn_of _ (by decide +kernel)) ggX6_drawn_X2_copy
set_option maxRecDepth 20000 in
theorem ggX6_drawn_X0_doDeed : GoodIn wsX6_drawn wsX0_doDeed := goodIn_r _ [21, 22, 23, 24, 20, 25, 26, 27, 28, 29, 30, 7, 31, 10, 32, 33, 34, 35, 9, 36, 37, 38, 39, 40, 41, 42, 43, 44, 45, 46, 47, 12, 48, 49, 50, 51, 52, 53, 54, 55, 56, 57, 58, 11, 59, 60, 61, 62, 63, 64, 65, 66, 67, 68, 69, 70, 71, 72, 73, 74, 75, 76, 119, 120, 121, 122, 118] (by decide +kernel) (by decide +kernel)
set_option maxRecDepth 20000 in
theorem gX6_drawn_X0_doDeed : GoodIn wsX6_drawn (wsV RX6 215 RX0 yX0_doDeed wsX0_doDeed) := goodIn_app (goodIn_of _ (by decide +kernel)) ggX6_drawn_X0_doDeed
set_option maxRecDepth 20000 in
theorem ggX6_drawn_X6_acted : GoodIn wsX6_drawn wsX6_acted := goodIn_r _ [80, 81, 1, 82, 83, 84, 85, 86, 87, 88, 89, 90, 91, 7, 92, 93, 94, 95, 96, 97, 98, 99, 100, 101, 9, 10, 11, 102, 12, 103, 5, 6, 8, 13, 14, 15, 16, 104, 105, 106, 107, 108, 109, 110, 111, 112, 113, 114, 115, 116, 117, 123, 124, 125, 126, 127, 128, 129, 130, 131, 132, 133, 119, 120, 121, 122] (by decide +kernel) (by decide +kernel)
set_option maxRecDepth 20000 in
theorem gX6_drawn_X6_acted : GoodIn wsX6_drawn (wsV RX6 112 RX6 yX6_acted wsX6_acted) := goodIn_app (goodIn_of _ (by decide +kernel)) ggX6_drawn_X6_acted
theorem dX6_drawn_0 : decode cX6_drawn 0 = .ok (.iload_n 1, 1) := by decide +kernel
theorem dX6_drawn_1 : decode cX6_drawn 1 = .ok (.iconst 1, 1) := by decide +kernel
theorem dX6_drawn_2 : decode cX6_drawn 2 = .ok (.if_icmp .lt 9, 3) := by decide +kernel
theorem dX6_drawn_5 : decode cX6_drawn 5 = .ok (.iload_n 1, 1) := by decide +kernel
theorem dX6_drawn_6 : decode cX6_drawn 6 = .ok (.bipush 60, 2) := by decide +kernel
theorem dX6_drawn_8 : decode cX6_drawn 8 = .ok (.if_icmp .le 5, 3) := by decide +kernel
theorem dX6_drawn_11 : decode cX6_drawn 11 = .ok (.iconst (-1), 1) := by decide +kernel
theorem dX6_drawn_12 : decode cX6_drawn 12 = .ok (.ireturn, 1) := by decide +kernel
theorem dX6_drawn_13 : decode cX6_drawn 13 = .ok (.aload_n 0, 1) := by decide +kernel
theorem dX6_drawn_14 : decode cX6_drawn 14 = .ok (.getfield 34, 3) := by decide +kernel
theorem dX6_drawn_17 : decode cX6_drawn 17 = .ok (.aload_n 0, 1) := by decide +kernel
theorem dX6_drawn_18 : decode cX6_drawn 18 = .ok (.getfield 30, 3) := by decide +kernel
theorem dX6_drawn_21 : decode cX6_drawn 21 = .ok (.invokevirtual 102, 3) := by decide +kernel
theorem dX6_drawn_24 : decode cX6_drawn 24 = .ok (.aload_n 0, 1) := by decide +kernel
theorem dX6_drawn_25 : decode cX6_drawn 25 = .ok (.getfield 51, 3) := by decide +kernel
theorem dX6_drawn_28 : decode cX6_drawn 28 = .ok (.iload_n 2, 1) := by decide +kernel
theorem dX6_drawn_29 : decode cX6_drawn 29 = .ok (.putfield 212, 3) := by decide +kernel
theorem dX6_drawn_32 : decode cX6_drawn 32 = .ok (.iconst 0, 1) := by decide +kernel
theorem dX6_drawn_33 : decode cX6_drawn 33 = .ok (.istore_n 3, 1) := by decide +kernel
theorem dX6_drawn_34 : decode cX6_drawn 34 = .ok (.iconst 0, 1) := by decide +kernel
theorem dX6_drawn_35 : decode cX6_drawn 35 = .ok (.istore 4, 2) := by decide +kernel
theorem dX6_drawn_37 : decode cX6_drawn 37 = .ok (.iload 4, 2) := by decide +kernel
theorem dX6_drawn_39 : decode cX6_drawn 39 = .ok (.iload_n 1, 1) := by decide +kernel
theorem dX6_drawn_40 : decode cX6_drawn 40 = .ok (.if_icmp .ge 26, 3) := by decide +kernel
theorem dX6_drawn_43 : decode cX6_drawn 43 = .ok (.aload_n 0, 1) := by decide +kernel
theorem dX6_drawn_44 : decode cX6_drawn 44 = .ok (.getfield 51, 3) := by decide +kernel
theorem dX6_drawn_47 : decode cX6_drawn 47 = .ok (.aload_n 0, 1) := by decide +kernel
theorem dX6_drawn_48 : decode cX6_drawn 48 = .ok (.getfield 30, 3) := by decide +kernel
theorem dX6_drawn_51 : decode cX6_drawn 51 = .ok (.invokevirtual 215, 3) := by decide +kernel
theorem dX6_drawn_54 : decode cX6_drawn 54 = .ok (.ifCond .eq 6, 3) := by decide +kernel
theorem dX6_drawn_57 : decode cX6_drawn 57 = .ok (.iinc 3 1, 3) := by decide +kernel
theorem dX6_drawn_60 : decode cX6_drawn 60 = .ok (.iinc 4 1, 3) := by decide +kernel
theorem dX6_drawn_63 : decode cX6_drawn 63 = .ok (.goto (-26), 3) := by decide +kernel
theorem dX6_drawn_66 : decode cX6_drawn 66 = .ok (.iload_n 3, 1) := by decide +kernel
theorem dX6_drawn_67 : decode cX6_drawn 67 = .ok (.ifCond .le 7, 3) := by decide +kernel
theorem dX6_drawn_70 : decode cX6_drawn 70 = .ok (.aload_n 0, 1) := by decide +kernel
theorem dX6_drawn_71 : decode cX6_drawn 71 = .ok (.invokevirtual 112, 3) := by decide +kernel
theorem dX6_drawn_74 : decode cX6_drawn 74 = .ok (.iload_n 3, 1) := by decide +kernel
theorem dX6_drawn_75 : decode cX6_drawn 75 = .ok (.ireturn, 1) := by decide +kernel
set_option maxRecDepth 20000 in
theorem ggX6_undo_X3_takeLatest : GoodIn wsX6_undo wsX3_takeLatest := goodIn_r _ [8, 9, 10, 11, 12, 13, 14, 15, 16, 17, 18, 19, 20, 21, 22, 23, 24, 39, 40, 41, 50, 51, 52, 53] (by decide +kernel) (by decide +kernel)
set_option maxRecDepth 20000 in
theorem gX6_undo_X3_takeLatest : GoodIn wsX6_undo (wsV RX6 219 RX3 yX3_takeLatest wsX3_takeLatest) := goodIn_app (goodIn_of _ (by decide +kernel)) ggX6_undo_X3_takeLatest
theorem dX6_undo_0 : decode cX6_undo 0 = .ok (.aload_n 0, 1) := by decide +kernel
theorem dX6_undo_1 : decode cX6_undo 1 = .ok (.getfield 40, 3) := by decide +kernel
theorem dX6_undo_4 : decode cX6_undo 4 = .ok (.getfield 132, 3) := by decide +kernel
theorem dX6_undo_7 : decode cX6_undo 7 = .ok (.ifCond .ne 5, 3) := by decide +kernel
theorem dX6_undo_10 : decode cX6_undo 10 = .ok (.iconst (-1), 1) := by decide +kernel
theorem dX6_undo_11 : decode cX6_undo 11 = .ok (.ireturn, 1) := by decide +kernel
theorem dX6_undo_12 : decode cX6_undo 12 = .ok (.aload_n 0, 1) := by decide +kernel
theorem dX6_undo_13 : decode cX6_undo 13 = .ok (.getfield 40, 3) := by decide +kernel
theorem dX6_undo_16 : decode cX6_undo 16 = .ok (.aload_n 0, 1) := by decide +kernel
theorem dX6_undo_17 : decode cX6_undo 17 = .ok (.getfield 30, 3) := by decide +kernel
theorem dX6_undo_20 : decode cX6_undo 20 = .ok (.invokevirtual 219, 3) := by decide +kernel
theorem dX6_undo_23 : decode cX6_undo 23 = .ok (.aload_n 0, 1) := by decide +kernel
theorem dX6_undo_24 : decode cX6_undo 24 = .ok (.getfield 60, 3) := by decide +kernel
theorem dX6_undo_27 : decode cX6_undo 27 = .ok (.iconst 0, 1) := by decide +kernel
theorem dX6_undo_28 : decode cX6_undo 28 = .ok (.putfield 222, 3) := by decide +kernel
theorem dX6_undo_31 : decode cX6_undo 31 = .ok (.aload_n 0, 1) := by decide +kernel
theorem dX6_undo_32 : decode cX6_undo 32 = .ok (.getfield 40, 3) := by decide +kernel
theorem dX6_undo_35 : decode cX6_undo 35 = .ok (.getfield 132, 3) := by decide +kernel
theorem dX6_undo_38 : decode cX6_undo 38 = .ok (.ireturn, 1) := by decide +kernel
set_option maxRecDepth 20000 in
theorem ggX6_image_X2_init : GoodIn wsX6_image wsX2_init := goodIn_r _ [7, 8, 9, 10, 11, 12, 13, 14, 15, 38, 39, 40, 41] (by decide +kernel) (by decide +kernel)
set_option maxRecDepth 20000 in
theorem gX6_image_X2_init_n29 : GoodIn wsX6_image (wsX2_init) := ggX6_image_X2_init
set_option maxRecDepth 20000 in
theorem ggX6_image_X2_copy : GoodIn wsX6_image wsX2_copy := goodIn_r _ [19, 11, 12, 13, 15, 20, 21, 22, 23, 38, 39, 40, 41] (by decide +kernel) (by decide +kernel)
set_option maxRecDepth 20000 in
theorem gX6_image_X2_copy : GoodIn wsX6_image (wsV RX6 102 RX2 yX2_copy wsX2_copy) := goodIn_app (goodIn_of _ (by decide +kernel)) ggX6_image_X2_copy
theorem dX6_image_0 : decode cX6_image 0 = .ok (.iload_n 1, 1) := by decide +kernel
theorem dX6_image_1 : decode cX6_image 1 = .ok (.ifCond .lt 8, 3) := by decide +kernel
theorem dX6_image_4 : decode cX6_image 4 = .ok (.iload_n 1, 1) := by decide +kernel
theorem dX6_image_5 : decode cX6_image 5 = .ok (.iconst 2, 1) := by decide +kernel
theorem dX6_image_6 : decode cX6_image 6 = .ok (.if_icmp .lt 5, 3) := by decide +kernel
theorem dX6_image_9 : decode cX6_image 9 = .ok (.iconst 0, 1) := by decide +kernel
theorem dX6_image_10 : decode cX6_image 10 = .ok (.ireturn, 1) := by decide +kernel
theorem dX6_image_11 : decode cX6_image 11 = .ok (.aload_n 0, 1) := by decide +kernel
theorem dX6_image_12 : decode cX6_image 12 = .ok (.getfield 44, 3) := by decide +kernel
theorem dX6_image_15 : decode cX6_image 15 = .ok (.iload_n 1, 1) := by decide +kernel
theorem dX6_image_16 : decode cX6_image 16 = .ok (.aaload, 1) := by decide +kernel
theorem dX6_image_17 : decode cX6_image 17 = .ok (.ifnonnull 16, 3) := by decide +kernel
theorem dX6_image_20 : decode cX6_image 20 = .ok (.aload_n 0, 1) := by decide +kernel
theorem dX6_image_21 : decode cX6_image 21 = .ok (.getfield 44, 3) := by decide +kernel
theorem dX6_image_24 : decode cX6_image 24 = .ok (.iload_n 1, 1) := by decide +kernel
theorem dX6_image_25 : decode cX6_image 25 = .ok (.new 27, 3) := by decide +kernel
theorem dX6_image_28 : decode cX6_image 28 = .ok (.dup, 1) := by decide +kernel
theorem dX6_image_29 : decode cX6_image 29 = .ok (.invokespecial 29, 3) := by decide +kernel
theorem dX6_image_32 : decode cX6_image 32 = .ok (.aastore, 1) := by decide +kernel
theorem dX6_image_33 : decode cX6_image 33 = .ok (.aload_n 0, 1) := by decide +kernel
theorem dX6_image_34 : decode cX6_image 34 = .ok (.getfield 44, 3) := by decide +kernel
theorem dX6_image_37 : decode cX6_image 37 = .ok (.iload_n 1, 1) := by decide +kernel
theorem dX6_image_38 : decode cX6_image 38 = .ok (.aaload, 1) := by decide +kernel
theorem dX6_image_39 : decode cX6_image 39 = .ok (.aload_n 0, 1) := by decide +kernel
theorem dX6_image_40 : decode cX6_image 40 = .ok (.getfield 30, 3) := by decide +kernel
theorem dX6_image_43 : decode cX6_image 43 = .ok (.invokevirtual 102, 3) := by decide +kernel
theorem dX6_image_46 : decode cX6_image 46 = .ok (.iconst 1, 1) := by decide +kernel
theorem dX6_image_47 : decode cX6_image 47 = .ok (.ireturn, 1) := by decide +kernel
set_option maxRecDepth 20000 in
theorem ggX6_restore_X6_becomes : GoodIn wsX6_restore wsX6_becomes := goodIn_r _ [6, 7, 8, 9, 10, 11, 12, 13, 14, 15, 16, 17, 18, 19, 20, 21, 22, 23, 24, 25, 26, 27, 28, 29, 30, 31, 32, 33, 34, 35, 36, 37, 38, 39, 40, 41, 42, 43, 44, 45, 46, 47, 48, 49, 50, 51] (by decide +kernel) (by decide +kernel)
set_option maxRecDepth 20000 in
theorem gX6_restore_X6_becomes : GoodIn wsX6_restore (wsV RX6 94 RX6 yX6_becomes wsX6_becomes) := goodIn_app (goodIn_of _ (by decide +kernel)) ggX6_restore_X6_becomes
theorem dX6_restore_0 : decode cX6_restore 0 = .ok (.iload_n 1, 1) := by decide +kernel
theorem dX6_restore_1 : decode cX6_restore 1 = .ok (.ifCond .lt 17, 3) := by decide +kernel
theorem dX6_restore_4 : decode cX6_restore 4 = .ok (.iload_n 1, 1) := by decide +kernel
theorem dX6_restore_5 : decode cX6_restore 5 = .ok (.iconst 2, 1) := by decide +kernel
theorem dX6_restore_6 : decode cX6_restore 6 = .ok (.if_icmp .ge 12, 3) := by decide +kernel
theorem dX6_restore_9 : decode cX6_restore 9 = .ok (.aload_n 0, 1) := by decide +kernel
theorem dX6_restore_10 : decode cX6_restore 10 = .ok (.getfield 44, 3) := by decide +kernel
theorem dX6_restore_13 : decode cX6_restore 13 = .ok (.iload_n 1, 1) := by decide +kernel
theorem dX6_restore_14 : decode cX6_restore 14 = .ok (.aaload, 1) := by decide +kernel
theorem dX6_restore_15 : decode cX6_restore 15 = .ok (.ifnonnull 5, 3) := by decide +kernel
theorem dX6_restore_18 : decode cX6_restore 18 = .ok (.iconst 0, 1) := by decide +kernel
theorem dX6_restore_19 : decode cX6_restore 19 = .ok (.ireturn, 1) := by decide +kernel
theorem dX6_restore_20 : decode cX6_restore 20 = .ok (.aload_n 0, 1) := by decide +kernel
theorem dX6_restore_21 : decode cX6_restore 21 = .ok (.aload_n 0, 1) := by decide +kernel
theorem dX6_restore_22 : decode cX6_restore 22 = .ok (.getfield 44, 3) := by decide +kernel
theorem dX6_restore_25 : decode cX6_restore 25 = .ok (.iload_n 1, 1) := by decide +kernel
theorem dX6_restore_26 : decode cX6_restore 26 = .ok (.aaload, 1) := by decide +kernel
theorem dX6_restore_27 : decode cX6_restore 27 = .ok (.invokevirtual 94, 3) := by decide +kernel
theorem dX6_restore_30 : decode cX6_restore 30 = .ok (.iconst 1, 1) := by decide +kernel
theorem dX6_restore_31 : decode cX6_restore 31 = .ok (.ireturn, 1) := by decide +kernel
set_option maxRecDepth 20000 in
theorem ggX6_becomes_X2_copy : GoodIn wsX6_becomes wsX2_copy := goodIn_r _ [8, 9, 10, 11, 12, 13, 14, 15, 16, 42, 43, 44, 45] (by decide +kernel) (by decide +kernel)
set_option maxRecDepth 20000 in
theorem gX6_becomes_X2_copy : GoodIn wsX6_becomes (wsV RX6 102 RX2 yX2_copy wsX2_copy) := goodIn_app (goodIn_of _ (by decide +kernel)) ggX6_becomes_X2_copy
theorem dX6_becomes_0 : decode cX6_becomes 0 = .ok (.aload_n 0, 1) := by decide +kernel
theorem dX6_becomes_1 : decode cX6_becomes 1 = .ok (.getfield 30, 3) := by decide +kernel
theorem dX6_becomes_4 : decode cX6_becomes 4 = .ok (.aload_n 1, 1) := by decide +kernel
theorem dX6_becomes_5 : decode cX6_becomes 5 = .ok (.invokevirtual 102, 3) := by decide +kernel
theorem dX6_becomes_8 : decode cX6_becomes 8 = .ok (.aload_n 0, 1) := by decide +kernel
theorem dX6_becomes_9 : decode cX6_becomes 9 = .ok (.getfield 40, 3) := by decide +kernel
theorem dX6_becomes_12 : decode cX6_becomes 12 = .ok (.iconst 0, 1) := by decide +kernel
theorem dX6_becomes_13 : decode cX6_becomes 13 = .ok (.putfield 132, 3) := by decide +kernel
theorem dX6_becomes_16 : decode cX6_becomes 16 = .ok (.aload_n 0, 1) := by decide +kernel
theorem dX6_becomes_17 : decode cX6_becomes 17 = .ok (.getfield 60, 3) := by decide +kernel
theorem dX6_becomes_20 : decode cX6_becomes 20 = .ok (.iconst 0, 1) := by decide +kernel
theorem dX6_becomes_21 : decode cX6_becomes 21 = .ok (.putfield 222, 3) := by decide +kernel
theorem dX6_becomes_24 : decode cX6_becomes 24 = .ok (.return_, 1) := by decide +kernel
set_option maxRecDepth 20000 in
theorem ggX6_acted_X3_keep : GoodIn wsX6_acted wsX3_keep := goodIn_r _ [8, 9, 10, 11, 12, 13, 14, 15, 16, 17, 18, 19, 20, 21, 22, 23, 24, 25, 26, 27, 28, 29, 30, 31, 32, 33, 34, 35, 36, 59, 60, 61, 62, 63, 64, 65] (by decide +kernel) (by decide +kernel)
set_option maxRecDepth 20000 in
theorem gX6_acted_X3_keep : GoodIn wsX6_acted (wsV RX6 226 RX3 yX3_keep wsX3_keep) := goodIn_app (goodIn_of _ (by decide +kernel)) ggX6_acted_X3_keep
theorem dX6_acted_0 : decode cX6_acted 0 = .ok (.aload_n 0, 1) := by decide +kernel
theorem dX6_acted_1 : decode cX6_acted 1 = .ok (.getfield 40, 3) := by decide +kernel
theorem dX6_acted_4 : decode cX6_acted 4 = .ok (.aload_n 0, 1) := by decide +kernel
theorem dX6_acted_5 : decode cX6_acted 5 = .ok (.getfield 34, 3) := by decide +kernel
theorem dX6_acted_8 : decode cX6_acted 8 = .ok (.invokevirtual 226, 3) := by decide +kernel
theorem dX6_acted_11 : decode cX6_acted 11 = .ok (.aload_n 0, 1) := by decide +kernel
theorem dX6_acted_12 : decode cX6_acted 12 = .ok (.getfield 60, 3) := by decide +kernel
theorem dX6_acted_15 : decode cX6_acted 15 = .ok (.iconst 0, 1) := by decide +kernel
theorem dX6_acted_16 : decode cX6_acted 16 = .ok (.putfield 222, 3) := by decide +kernel
theorem dX6_acted_19 : decode cX6_acted 19 = .ok (.return_, 1) := by decide +kernel
set_option maxRecDepth 20000 in
theorem ggX6_counted_X1_countAll : GoodIn wsX6_counted wsX1_countAll := goodIn_r _ [7, 8, 9, 10, 11, 12, 13, 14, 15, 16, 17, 6, 18, 19, 20, 21, 22, 23, 24, 25, 26, 27, 28, 29, 30, 31, 32, 33, 34, 35, 36, 37, 38, 39, 40, 41, 42, 43, 44, 45, 46, 47, 48, 49, 50, 51, 52, 53, 54, 55, 56, 57, 58, 59, 60, 61, 62, 63, 64, 65, 66, 67, 68, 69, 70, 71, 72, 73, 74, 75, 76, 77, 78, 79, 80, 81, 82, 83, 84, 99, 100, 101, 102, 103, 104, 105, 106, 107, 108, 109, 110] (by decide +kernel) (by decide +kernel)
set_option maxRecDepth 20000 in
theorem gX6_counted_X1_countAll : GoodIn wsX6_counted (wsV RX6 192 RX1 yX1_countAll wsX1_countAll) := goodIn_app (goodIn_of _ (by decide +kernel)) ggX6_counted_X1_countAll
theorem dX6_counted_0 : decode cX6_counted 0 = .ok (.aload_n 0, 1) := by decide +kernel
theorem dX6_counted_1 : decode cX6_counted 1 = .ok (.getfield 60, 3) := by decide +kernel
theorem dX6_counted_4 : decode cX6_counted 4 = .ok (.getfield 222, 3) := by decide +kernel
theorem dX6_counted_7 : decode cX6_counted 7 = .ok (.ifCond .ne 14, 3) := by decide +kernel
theorem dX6_counted_10 : decode cX6_counted 10 = .ok (.aload_n 0, 1) := by decide +kernel
theorem dX6_counted_11 : decode cX6_counted 11 = .ok (.getfield 60, 3) := by decide +kernel
theorem dX6_counted_14 : decode cX6_counted 14 = .ok (.aload_n 0, 1) := by decide +kernel
theorem dX6_counted_15 : decode cX6_counted 15 = .ok (.getfield 30, 3) := by decide +kernel
theorem dX6_counted_18 : decode cX6_counted 18 = .ok (.invokevirtual 192, 3) := by decide +kernel
theorem dX6_counted_21 : decode cX6_counted 21 = .ok (.aload_n 0, 1) := by decide +kernel
theorem dX6_counted_22 : decode cX6_counted 22 = .ok (.getfield 60, 3) := by decide +kernel
theorem dX6_counted_25 : decode cX6_counted 25 = .ok (.areturn, 1) := by decide +kernel
theorem dX6_bit_0 : decode cX6_bit 0 = .ok (.iconst 1, 1) := by decide +kernel
theorem dX6_bit_1 : decode cX6_bit 1 = .ok (.iload_n 0, 1) := by decide +kernel
theorem dX6_bit_2 : decode cX6_bit 2 = .ok (.iconst 1, 1) := by decide +kernel
theorem dX6_bit_3 : decode cX6_bit 3 = .ok (.isub, 1) := by decide +kernel
theorem dX6_bit_4 : decode cX6_bit 4 = .ok (.ishl, 1) := by decide +kernel
theorem dX6_bit_5 : decode cX6_bit 5 = .ok (.ireturn, 1) := by decide +kernel
