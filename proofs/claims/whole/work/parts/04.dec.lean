theorem dX3_takeLatest_16 : decode cX3_takeLatest 16 = .ok (.ifnonnull 4, 3) := by decide +kernel
theorem dX3_takeLatest_19 : decode cX3_takeLatest 19 = .ok (.return_, 1) := by decide +kernel
theorem dX3_takeLatest_20 : decode cX3_takeLatest 20 = .ok (.aload_n 1, 1) := by decide +kernel
theorem dX3_takeLatest_21 : decode cX3_takeLatest 21 = .ok (.aload_n 0, 1) := by decide +kernel
theorem dX3_takeLatest_22 : decode cX3_takeLatest 22 = .ok (.getfield 11, 3) := by decide +kernel
theorem dX3_takeLatest_25 : decode cX3_takeLatest 25 = .ok (.aload_n 0, 1) := by decide +kernel
theorem dX3_takeLatest_26 : decode cX3_takeLatest 26 = .ok (.getfield 17, 3) := by decide +kernel
theorem dX3_takeLatest_29 : decode cX3_takeLatest 29 = .ok (.aaload, 1) := by decide +kernel
theorem dX3_takeLatest_30 : decode cX3_takeLatest 30 = .ok (.invokevirtual 25, 3) := by decide +kernel
theorem dX3_takeLatest_33 : decode cX3_takeLatest 33 = .ok (.aload_n 0, 1) := by decide +kernel
theorem dX3_takeLatest_34 : decode cX3_takeLatest 34 = .ok (.aload_n 0, 1) := by decide +kernel
theorem dX3_takeLatest_35 : decode cX3_takeLatest 35 = .ok (.getfield 17, 3) := by decide +kernel
theorem dX3_takeLatest_38 : decode cX3_takeLatest 38 = .ok (.bipush 8, 2) := by decide +kernel
theorem dX3_takeLatest_40 : decode cX3_takeLatest 40 = .ok (.iadd, 1) := by decide +kernel
theorem dX3_takeLatest_41 : decode cX3_takeLatest 41 = .ok (.iconst 1, 1) := by decide +kernel
theorem dX3_takeLatest_42 : decode cX3_takeLatest 42 = .ok (.isub, 1) := by decide +kernel
theorem dX3_takeLatest_43 : decode cX3_takeLatest 43 = .ok (.bipush 8, 2) := by decide +kernel
theorem dX3_takeLatest_45 : decode cX3_takeLatest 45 = .ok (.irem, 1) := by decide +kernel
theorem dX3_takeLatest_46 : decode cX3_takeLatest 46 = .ok (.putfield 17, 3) := by decide +kernel
theorem dX3_takeLatest_49 : decode cX3_takeLatest 49 = .ok (.aload_n 0, 1) := by decide +kernel
theorem dX3_takeLatest_50 : decode cX3_takeLatest 50 = .ok (.dup, 1) := by decide +kernel
theorem dX3_takeLatest_51 : decode cX3_takeLatest 51 = .ok (.getfield 21, 3) := by decide +kernel
theorem dX3_takeLatest_54 : decode cX3_takeLatest 54 = .ok (.iconst 1, 1) := by decide +kernel
theorem dX3_takeLatest_55 : decode cX3_takeLatest 55 = .ok (.isub, 1) := by decide +kernel
theorem dX3_takeLatest_56 : decode cX3_takeLatest 56 = .ok (.putfield 21, 3) := by decide +kernel
theorem dX3_takeLatest_59 : decode cX3_takeLatest 59 = .ok (.return_, 1) := by decide +kernel
theorem dX4_init_0 : decode cX4_init 0 = .ok (.aload_n 0, 1) := by decide +kernel
theorem dX4_init_1 : decode cX4_init 1 = .ok (.invokespecial 3, 3) := by decide +kernel
theorem dX4_init_4 : decode cX4_init 4 = .ok (.aload_n 0, 1) := by decide +kernel
theorem dX4_init_5 : decode cX4_init 5 = .ok (.bipush 122, 2) := by decide +kernel
theorem dX4_init_7 : decode cX4_init 7 = .ok (.newarray .int, 2) := by decide +kernel
theorem dX4_init_9 : decode cX4_init 9 = .ok (.putfield 9, 3) := by decide +kernel
theorem dX4_init_12 : decode cX4_init 12 = .ok (.aload_n 0, 1) := by decide +kernel
theorem dX4_init_13 : decode cX4_init 13 = .ok (.bipush 61, 2) := by decide +kernel
theorem dX4_init_15 : decode cX4_init 15 = .ok (.newarray .int, 2) := by decide +kernel
theorem dX4_init_17 : decode cX4_init 17 = .ok (.putfield 15, 3) := by decide +kernel
theorem dX4_init_20 : decode cX4_init 20 = .ok (.aload_n 0, 1) := by decide +kernel
theorem dX4_init_21 : decode cX4_init 21 = .ok (.iconst (-1), 1) := by decide +kernel
theorem dX4_init_22 : decode cX4_init 22 = .ok (.putfield 18, 3) := by decide +kernel
theorem dX4_init_25 : decode cX4_init 25 = .ok (.return_, 1) := by decide +kernel
set_option maxRecDepth 20000 in
theorem ggX4_clear_J7_fill_53178 : GoodIn wsX4_clear wsJ7_fill_53178 := goodIn_r _ [11] (by decide +kernel) (by decide +kernel)
set_option maxRecDepth 20000 in
theorem gX4_clear_J7_fill_53178 : GoodIn wsX4_clear (va_wsS RX4 22 yJ7_fill_53178 wsJ7_fill_53178) := goodIn_app (goodIn_of _ (by decide +kernel)) ggX4_clear_J7_fill_53178
theorem dX4_clear_0 : decode cX4_clear 0 = .ok (.aload_n 0, 1) := by decide +kernel
theorem dX4_clear_1 : decode cX4_clear 1 = .ok (.getfield 9, 3) := by decide +kernel
theorem dX4_clear_4 : decode cX4_clear 4 = .ok (.iconst 0, 1) := by decide +kernel
theorem dX4_clear_5 : decode cX4_clear 5 = .ok (.invokestatic 22, 3) := by decide +kernel
theorem dX4_clear_8 : decode cX4_clear 8 = .ok (.aload_n 0, 1) := by decide +kernel
theorem dX4_clear_9 : decode cX4_clear 9 = .ok (.getfield 15, 3) := by decide +kernel
theorem dX4_clear_12 : decode cX4_clear 12 = .ok (.iconst 0, 1) := by decide +kernel
theorem dX4_clear_13 : decode cX4_clear 13 = .ok (.invokestatic 22, 3) := by decide +kernel
theorem dX4_clear_16 : decode cX4_clear 16 = .ok (.aload_n 0, 1) := by decide +kernel
theorem dX4_clear_17 : decode cX4_clear 17 = .ok (.iload_n 1, 1) := by decide +kernel
theorem dX4_clear_18 : decode cX4_clear 18 = .ok (.aload_n 0, 1) := by decide +kernel
theorem dX4_clear_19 : decode cX4_clear 19 = .ok (.getfield 9, 3) := by decide +kernel
theorem dX4_clear_22 : decode cX4_clear 22 = .ok (.arraylength, 1) := by decide +kernel
theorem dX4_clear_23 : decode cX4_clear 23 = .ok (.iconst 1, 1) := by decide +kernel
theorem dX4_clear_24 : decode cX4_clear 24 = .ok (.isub, 1) := by decide +kernel
theorem dX4_clear_25 : decode cX4_clear 25 = .ok (.invokestatic 28, 3) := by decide +kernel
theorem dX4_clear_28 : decode cX4_clear 28 = .ok (.putfield 18, 3) := by decide +kernel
theorem dX4_clear_31 : decode cX4_clear 31 = .ok (.return_, 1) := by decide +kernel
set_option maxRecDepth 20000 in
theorem ggX4_take_X4_clear : GoodIn wsX4_take wsX4_clear := goodIn_r _ [12, 6, 7, 1, 2, 3, 4, 5, 13, 14, 15, 16, 17, 18, 19] (by decide +kernel) (by decide +kernel)
set_option maxRecDepth 20000 in
theorem gX4_take_X4_clear : GoodIn wsX4_take (wsV RX4 34 RX4 yX4_clear wsX4_clear) := goodIn_app (goodIn_of _ (by decide +kernel)) ggX4_take_X4_clear
theorem dX4_take_0 : decode cX4_take 0 = .ok (.aload_n 0, 1) := by decide +kernel
theorem dX4_take_1 : decode cX4_take 1 = .ok (.iload_n 2, 1) := by decide +kernel
theorem dX4_take_2 : decode cX4_take 2 = .ok (.aload_n 1, 1) := by decide +kernel
theorem dX4_take_3 : decode cX4_take 3 = .ok (.arraylength, 1) := by decide +kernel
theorem dX4_take_4 : decode cX4_take 4 = .ok (.iconst 1, 1) := by decide +kernel
theorem dX4_take_5 : decode cX4_take 5 = .ok (.isub, 1) := by decide +kernel
theorem dX4_take_6 : decode cX4_take 6 = .ok (.invokestatic 28, 3) := by decide +kernel
theorem dX4_take_9 : decode cX4_take 9 = .ok (.invokevirtual 34, 3) := by decide +kernel
theorem dX4_take_12 : decode cX4_take 12 = .ok (.iconst 1, 1) := by decide +kernel
theorem dX4_take_13 : decode cX4_take 13 = .ok (.istore_n 3, 1) := by decide +kernel
theorem dX4_take_14 : decode cX4_take 14 = .ok (.iload_n 3, 1) := by decide +kernel
theorem dX4_take_15 : decode cX4_take 15 = .ok (.aload_n 0, 1) := by decide +kernel
theorem dX4_take_16 : decode cX4_take 16 = .ok (.getfield 18, 3) := by decide +kernel
theorem dX4_take_19 : decode cX4_take 19 = .ok (.if_icmp .gt 53, 3) := by decide +kernel
theorem dX4_take_22 : decode cX4_take 22 = .ok (.aload_n 1, 1) := by decide +kernel
theorem dX4_take_23 : decode cX4_take 23 = .ok (.iload_n 3, 1) := by decide +kernel
theorem dX4_take_24 : decode cX4_take 24 = .ok (.iaload, 1) := by decide +kernel
theorem dX4_take_25 : decode cX4_take 25 = .ok (.istore 4, 2) := by decide +kernel
theorem dX4_take_27 : decode cX4_take 27 = .ok (.aload_n 0, 1) := by decide +kernel
theorem dX4_take_28 : decode cX4_take 28 = .ok (.getfield 9, 3) := by decide +kernel
theorem dX4_take_31 : decode cX4_take 31 = .ok (.iload_n 3, 1) := by decide +kernel
theorem dX4_take_32 : decode cX4_take 32 = .ok (.iload 4, 2) := by decide +kernel
theorem dX4_take_34 : decode cX4_take 34 = .ok (.iastore, 1) := by decide +kernel
theorem dX4_take_35 : decode cX4_take 35 = .ok (.iload 4, 2) := by decide +kernel
theorem dX4_take_37 : decode cX4_take 37 = .ok (.iconst 1, 1) := by decide +kernel
theorem dX4_take_38 : decode cX4_take 38 = .ok (.if_icmp .lt 28, 3) := by decide +kernel
theorem dX4_take_41 : decode cX4_take 41 = .ok (.iload 4, 2) := by decide +kernel
theorem dX4_take_43 : decode cX4_take 43 = .ok (.bipush 60, 2) := by decide +kernel
theorem dX4_take_45 : decode cX4_take 45 = .ok (.if_icmp .gt 21, 3) := by decide +kernel
theorem dX4_take_48 : decode cX4_take 48 = .ok (.aload_n 0, 1) := by decide +kernel
theorem dX4_take_49 : decode cX4_take 49 = .ok (.getfield 15, 3) := by decide +kernel
theorem dX4_take_52 : decode cX4_take 52 = .ok (.iload 4, 2) := by decide +kernel
theorem dX4_take_54 : decode cX4_take 54 = .ok (.iaload, 1) := by decide +kernel
theorem dX4_take_55 : decode cX4_take 55 = .ok (.ifCond .ne 11, 3) := by decide +kernel
theorem dX4_take_58 : decode cX4_take 58 = .ok (.aload_n 0, 1) := by decide +kernel
theorem dX4_take_59 : decode cX4_take 59 = .ok (.getfield 15, 3) := by decide +kernel
theorem dX4_take_62 : decode cX4_take 62 = .ok (.iload 4, 2) := by decide +kernel
theorem dX4_take_64 : decode cX4_take 64 = .ok (.iload_n 3, 1) := by decide +kernel
theorem dX4_take_65 : decode cX4_take 65 = .ok (.iastore, 1) := by decide +kernel
theorem dX4_take_66 : decode cX4_take 66 = .ok (.iinc 3 1, 3) := by decide +kernel
theorem dX4_take_69 : decode cX4_take 69 = .ok (.goto (-55), 3) := by decide +kernel
theorem dX4_take_72 : decode cX4_take 72 = .ok (.return_, 1) := by decide +kernel
theorem dX4_numberAt_0 : decode cX4_numberAt 0 = .ok (.iload_n 1, 1) := by decide +kernel
theorem dX4_numberAt_1 : decode cX4_numberAt 1 = .ok (.iconst 1, 1) := by decide +kernel
theorem dX4_numberAt_2 : decode cX4_numberAt 2 = .ok (.if_icmp .lt 20, 3) := by decide +kernel
theorem dX4_numberAt_5 : decode cX4_numberAt 5 = .ok (.iload_n 1, 1) := by decide +kernel
theorem dX4_numberAt_6 : decode cX4_numberAt 6 = .ok (.aload_n 0, 1) := by decide +kernel
theorem dX4_numberAt_7 : decode cX4_numberAt 7 = .ok (.getfield 18, 3) := by decide +kernel
theorem dX4_numberAt_10 : decode cX4_numberAt 10 = .ok (.if_icmp .gt 12, 3) := by decide +kernel
theorem dX4_numberAt_13 : decode cX4_numberAt 13 = .ok (.aload_n 0, 1) := by decide +kernel
theorem dX4_numberAt_14 : decode cX4_numberAt 14 = .ok (.getfield 9, 3) := by decide +kernel
theorem dX4_numberAt_17 : decode cX4_numberAt 17 = .ok (.iload_n 1, 1) := by decide +kernel
theorem dX4_numberAt_18 : decode cX4_numberAt 18 = .ok (.iaload, 1) := by decide +kernel
theorem dX4_numberAt_19 : decode cX4_numberAt 19 = .ok (.goto 4, 3) := by decide +kernel
theorem dX4_numberAt_22 : decode cX4_numberAt 22 = .ok (.iconst (-1), 1) := by decide +kernel
theorem dX4_numberAt_23 : decode cX4_numberAt 23 = .ok (.ireturn, 1) := by decide +kernel
theorem dX4_firstOf_0 : decode cX4_firstOf 0 = .ok (.iload_n 1, 1) := by decide +kernel
theorem dX4_firstOf_1 : decode cX4_firstOf 1 = .ok (.iconst 1, 1) := by decide +kernel
theorem dX4_firstOf_2 : decode cX4_firstOf 2 = .ok (.if_icmp .lt 27, 3) := by decide +kernel
theorem dX4_firstOf_5 : decode cX4_firstOf 5 = .ok (.iload_n 1, 1) := by decide +kernel
theorem dX4_firstOf_6 : decode cX4_firstOf 6 = .ok (.bipush 60, 2) := by decide +kernel
theorem dX4_firstOf_8 : decode cX4_firstOf 8 = .ok (.if_icmp .gt 21, 3) := by decide +kernel
theorem dX4_firstOf_11 : decode cX4_firstOf 11 = .ok (.aload_n 0, 1) := by decide +kernel
theorem dX4_firstOf_12 : decode cX4_firstOf 12 = .ok (.getfield 15, 3) := by decide +kernel
theorem dX4_firstOf_15 : decode cX4_firstOf 15 = .ok (.iload_n 1, 1) := by decide +kernel
theorem dX4_firstOf_16 : decode cX4_firstOf 16 = .ok (.iaload, 1) := by decide +kernel
theorem dX4_firstOf_17 : decode cX4_firstOf 17 = .ok (.ifCond .eq 12, 3) := by decide +kernel
theorem dX4_firstOf_20 : decode cX4_firstOf 20 = .ok (.aload_n 0, 1) := by decide +kernel
theorem dX4_firstOf_21 : decode cX4_firstOf 21 = .ok (.getfield 15, 3) := by decide +kernel
theorem dX4_firstOf_24 : decode cX4_firstOf 24 = .ok (.iload_n 1, 1) := by decide +kernel
theorem dX4_firstOf_25 : decode cX4_firstOf 25 = .ok (.iaload, 1) := by decide +kernel
theorem dX4_firstOf_26 : decode cX4_firstOf 26 = .ok (.goto 4, 3) := by decide +kernel
theorem dX4_firstOf_29 : decode cX4_firstOf 29 = .ok (.iconst (-1), 1) := by decide +kernel
theorem dX4_firstOf_30 : decode cX4_firstOf 30 = .ok (.ireturn, 1) := by decide +kernel
set_option maxRecDepth 20000 in
theorem ggX4_make_X4_clear : GoodIn wsX4_make wsX4_clear := goodIn_r _ [5, 6, 7, 8, 9, 10, 11, 12, 13, 14, 15, 16, 37, 38, 39] (by decide +kernel) (by decide +kernel)
set_option maxRecDepth 20000 in
theorem gX4_make_X4_clear : GoodIn wsX4_make (wsV RX4 34 RX4 yX4_clear wsX4_clear) := goodIn_app (goodIn_of _ (by decide +kernel)) ggX4_make_X4_clear
set_option maxRecDepth 20000 in
theorem ggX4_make_X4_makeLeaving0 : GoodIn wsX4_make wsX4_makeLeaving0 := goodIn_r _ [20, 21, 22, 23, 4, 24, 25, 26, 27, 28, 12, 6, 7, 37, 38, 39] (by decide +kernel) (by decide +kernel)
set_option maxRecDepth 20000 in
theorem gX4_make_X4_makeLeaving0 : GoodIn wsX4_make (wsV RX4 38 RX4 yX4_makeLeaving0 wsX4_makeLeaving0) := goodIn_app (goodIn_of _ (by decide +kernel)) ggX4_make_X4_makeLeaving0
set_option maxRecDepth 20000 in
theorem ggX4_make_X4_makeLeaving1 : GoodIn wsX4_make wsX4_makeLeaving1 := goodIn_r _ [32, 21, 22, 23, 4, 24, 25, 26, 27, 28, 12, 6, 7, 37, 38, 39] (by decide +kernel) (by decide +kernel)
set_option maxRecDepth 20000 in
theorem gX4_make_X4_makeLeaving1 : GoodIn wsX4_make (wsV RX4 41 RX4 yX4_makeLeaving1 wsX4_makeLeaving1) := goodIn_app (goodIn_of _ (by decide +kernel)) ggX4_make_X4_makeLeaving1
set_option maxRecDepth 20000 in
theorem ggX4_make_X4_makeLeaving2 : GoodIn wsX4_make wsX4_makeLeaving2 := goodIn_r _ [36, 21, 22, 23, 4, 24, 25, 26, 27, 28, 12, 6, 7, 37, 38, 39] (by decide +kernel) (by decide +kernel)
set_option maxRecDepth 20000 in
theorem gX4_make_X4_makeLeaving2 : GoodIn wsX4_make (wsV RX4 44 RX4 yX4_makeLeaving2 wsX4_makeLeaving2) := goodIn_app (goodIn_of _ (by decide +kernel)) ggX4_make_X4_makeLeaving2
theorem dX4_make_0 : decode cX4_make 0 = .ok (.iload_n 1, 1) := by decide +kernel
theorem dX4_make_1 : decode cX4_make 1 = .ok (.iconst 4, 1) := by decide +kernel
theorem dX4_make_2 : decode cX4_make 2 = .ok (.idiv, 1) := by decide +kernel
theorem dX4_make_3 : decode cX4_make 3 = .ok (.istore_n 2, 1) := by decide +kernel
theorem dX4_make_4 : decode cX4_make 4 = .ok (.aload_n 0, 1) := by decide +kernel
theorem dX4_make_5 : decode cX4_make 5 = .ok (.iload_n 1, 1) := by decide +kernel
theorem dX4_make_6 : decode cX4_make 6 = .ok (.iconst 4, 1) := by decide +kernel
theorem dX4_make_7 : decode cX4_make 7 = .ok (.irem, 1) := by decide +kernel
theorem dX4_make_8 : decode cX4_make 8 = .ok (.iconst 2, 1) := by decide +kernel
theorem dX4_make_9 : decode cX4_make 9 = .ok (.if_icmp .ne 11, 3) := by decide +kernel
theorem dX4_make_12 : decode cX4_make 12 = .ok (.iconst 2, 1) := by decide +kernel
theorem dX4_make_13 : decode cX4_make 13 = .ok (.iload_n 1, 1) := by decide +kernel
theorem dX4_make_14 : decode cX4_make 14 = .ok (.imul, 1) := by decide +kernel
theorem dX4_make_15 : decode cX4_make 15 = .ok (.iconst 1, 1) := by decide +kernel
theorem dX4_make_16 : decode cX4_make 16 = .ok (.iadd, 1) := by decide +kernel
theorem dX4_make_17 : decode cX4_make 17 = .ok (.goto 6, 3) := by decide +kernel
theorem dX4_make_20 : decode cX4_make 20 = .ok (.iconst 2, 1) := by decide +kernel
theorem dX4_make_21 : decode cX4_make 21 = .ok (.iload_n 1, 1) := by decide +kernel
theorem dX4_make_22 : decode cX4_make 22 = .ok (.imul, 1) := by decide +kernel
theorem dX4_make_23 : decode cX4_make 23 = .ok (.invokevirtual 34, 3) := by decide +kernel
theorem dX4_make_26 : decode cX4_make 26 = .ok (.iload_n 1, 1) := by decide +kernel
theorem dX4_make_27 : decode cX4_make 27 = .ok (.iconst 4, 1) := by decide +kernel
theorem dX4_make_28 : decode cX4_make 28 = .ok (.irem, 1) := by decide +kernel
theorem dX4_make_29 : decode cX4_make 29 = .ok (.ifCond .ne 11, 3) := by decide +kernel
theorem dX4_make_32 : decode cX4_make 32 = .ok (.aload_n 0, 1) := by decide +kernel
theorem dX4_make_33 : decode cX4_make 33 = .ok (.iload_n 2, 1) := by decide +kernel
theorem dX4_make_34 : decode cX4_make 34 = .ok (.invokevirtual 38, 3) := by decide +kernel
theorem dX4_make_37 : decode cX4_make 37 = .ok (.goto 23, 3) := by decide +kernel
theorem dX4_make_40 : decode cX4_make 40 = .ok (.iload_n 1, 1) := by decide +kernel
theorem dX4_make_41 : decode cX4_make 41 = .ok (.iconst 4, 1) := by decide +kernel
theorem dX4_make_42 : decode cX4_make 42 = .ok (.irem, 1) := by decide +kernel
theorem dX4_make_43 : decode cX4_make 43 = .ok (.iconst 1, 1) := by decide +kernel
theorem dX4_make_44 : decode cX4_make 44 = .ok (.if_icmp .ne 11, 3) := by decide +kernel
theorem dX4_make_47 : decode cX4_make 47 = .ok (.aload_n 0, 1) := by decide +kernel
theorem dX4_make_48 : decode cX4_make 48 = .ok (.iload_n 2, 1) := by decide +kernel
theorem dX4_make_49 : decode cX4_make 49 = .ok (.invokevirtual 41, 3) := by decide +kernel
theorem dX4_make_52 : decode cX4_make 52 = .ok (.goto 8, 3) := by decide +kernel
theorem dX4_make_55 : decode cX4_make 55 = .ok (.aload_n 0, 1) := by decide +kernel
theorem dX4_make_56 : decode cX4_make 56 = .ok (.iload_n 2, 1) := by decide +kernel
theorem dX4_make_57 : decode cX4_make 57 = .ok (.invokevirtual 44, 3) := by decide +kernel
theorem dX4_make_60 : decode cX4_make 60 = .ok (.return_, 1) := by decide +kernel
set_option maxRecDepth 20000 in
theorem ggX4_makeLeaving0_X4_nest : GoodIn wsX4_makeLeaving0 wsX4_nest := goodIn_r _ [5, 6, 7, 8, 4, 9, 10, 11, 12, 13, 14, 15] (by decide +kernel) (by decide +kernel)
set_option maxRecDepth 20000 in
theorem gX4_makeLeaving0_X4_nest : GoodIn wsX4_makeLeaving0 (wsV RX4 47 RX4 yX4_nest wsX4_nest) := goodIn_app (goodIn_of _ (by decide +kernel)) ggX4_makeLeaving0_X4_nest
set_option maxRecDepth 20000 in
theorem ggX4_makeLeaving0_X4_twin : GoodIn wsX4_makeLeaving0 wsX4_twin := goodIn_r _ [9, 10, 11, 12, 13, 14, 15] (by decide +kernel) (by decide +kernel)
set_option maxRecDepth 20000 in
theorem gX4_makeLeaving0_X4_twin : GoodIn wsX4_makeLeaving0 (wsV RX4 51 RX4 yX4_twin wsX4_twin) := goodIn_app (goodIn_of _ (by decide +kernel)) ggX4_makeLeaving0_X4_twin
theorem dX4_makeLeaving0_0 : decode cX4_makeLeaving0 0 = .ok (.aload_n 0, 1) := by decide +kernel
theorem dX4_makeLeaving0_1 : decode cX4_makeLeaving0 1 = .ok (.iconst 4, 1) := by decide +kernel
theorem dX4_makeLeaving0_2 : decode cX4_makeLeaving0 2 = .ok (.iload_n 1, 1) := by decide +kernel
theorem dX4_makeLeaving0_3 : decode cX4_makeLeaving0 3 = .ok (.imul, 1) := by decide +kernel
theorem dX4_makeLeaving0_4 : decode cX4_makeLeaving0 4 = .ok (.bipush 8, 2) := by decide +kernel
theorem dX4_makeLeaving0_6 : decode cX4_makeLeaving0 6 = .ok (.iload_n 1, 1) := by decide +kernel
theorem dX4_makeLeaving0_7 : decode cX4_makeLeaving0 7 = .ok (.imul, 1) := by decide +kernel
theorem dX4_makeLeaving0_8 : decode cX4_makeLeaving0 8 = .ok (.iconst 0, 1) := by decide +kernel
theorem dX4_makeLeaving0_9 : decode cX4_makeLeaving0 9 = .ok (.iconst 2, 1) := by decide +kernel
theorem dX4_makeLeaving0_10 : decode cX4_makeLeaving0 10 = .ok (.iload_n 1, 1) := by decide +kernel
theorem dX4_makeLeaving0_11 : decode cX4_makeLeaving0 11 = .ok (.imul, 1) := by decide +kernel
theorem dX4_makeLeaving0_12 : decode cX4_makeLeaving0 12 = .ok (.iconst 1, 1) := by decide +kernel
theorem dX4_makeLeaving0_13 : decode cX4_makeLeaving0 13 = .ok (.isub, 1) := by decide +kernel
theorem dX4_makeLeaving0_14 : decode cX4_makeLeaving0 14 = .ok (.invokevirtual 47, 3) := by decide +kernel
theorem dX4_makeLeaving0_17 : decode cX4_makeLeaving0 17 = .ok (.aload_n 0, 1) := by decide +kernel
theorem dX4_makeLeaving0_18 : decode cX4_makeLeaving0 18 = .ok (.iload_n 1, 1) := by decide +kernel
theorem dX4_makeLeaving0_19 : decode cX4_makeLeaving0 19 = .ok (.iload_n 1, 1) := by decide +kernel
theorem dX4_makeLeaving0_20 : decode cX4_makeLeaving0 20 = .ok (.iconst 1, 1) := by decide +kernel
theorem dX4_makeLeaving0_21 : decode cX4_makeLeaving0 21 = .ok (.iadd, 1) := by decide +kernel
theorem dX4_makeLeaving0_22 : decode cX4_makeLeaving0 22 = .ok (.invokevirtual 51, 3) := by decide +kernel
theorem dX4_makeLeaving0_25 : decode cX4_makeLeaving0 25 = .ok (.aload_n 0, 1) := by decide +kernel
theorem dX4_makeLeaving0_26 : decode cX4_makeLeaving0 26 = .ok (.iload_n 1, 1) := by decide +kernel
theorem dX4_makeLeaving0_27 : decode cX4_makeLeaving0 27 = .ok (.iconst 2, 1) := by decide +kernel
theorem dX4_makeLeaving0_28 : decode cX4_makeLeaving0 28 = .ok (.iadd, 1) := by decide +kernel
theorem dX4_makeLeaving0_29 : decode cX4_makeLeaving0 29 = .ok (.iconst 3, 1) := by decide +kernel
theorem dX4_makeLeaving0_30 : decode cX4_makeLeaving0 30 = .ok (.iload_n 1, 1) := by decide +kernel
theorem dX4_makeLeaving0_31 : decode cX4_makeLeaving0 31 = .ok (.imul, 1) := by decide +kernel
theorem dX4_makeLeaving0_32 : decode cX4_makeLeaving0 32 = .ok (.iconst 1, 1) := by decide +kernel
theorem dX4_makeLeaving0_33 : decode cX4_makeLeaving0 33 = .ok (.isub, 1) := by decide +kernel
theorem dX4_makeLeaving0_34 : decode cX4_makeLeaving0 34 = .ok (.iconst 0, 1) := by decide +kernel
theorem dX4_makeLeaving0_35 : decode cX4_makeLeaving0 35 = .ok (.iload_n 1, 1) := by decide +kernel
theorem dX4_makeLeaving0_36 : decode cX4_makeLeaving0 36 = .ok (.iconst 3, 1) := by decide +kernel
theorem dX4_makeLeaving0_37 : decode cX4_makeLeaving0 37 = .ok (.isub, 1) := by decide +kernel
theorem dX4_makeLeaving0_38 : decode cX4_makeLeaving0 38 = .ok (.invokevirtual 47, 3) := by decide +kernel
theorem dX4_makeLeaving0_41 : decode cX4_makeLeaving0 41 = .ok (.aload_n 0, 1) := by decide +kernel
theorem dX4_makeLeaving0_42 : decode cX4_makeLeaving0 42 = .ok (.iconst 0, 1) := by decide +kernel
theorem dX4_makeLeaving0_43 : decode cX4_makeLeaving0 43 = .ok (.iconst 4, 1) := by decide +kernel
theorem dX4_makeLeaving0_44 : decode cX4_makeLeaving0 44 = .ok (.iload_n 1, 1) := by decide +kernel
theorem dX4_makeLeaving0_45 : decode cX4_makeLeaving0 45 = .ok (.imul, 1) := by decide +kernel
theorem dX4_makeLeaving0_46 : decode cX4_makeLeaving0 46 = .ok (.iconst 1, 1) := by decide +kernel
theorem dX4_makeLeaving0_47 : decode cX4_makeLeaving0 47 = .ok (.isub, 1) := by decide +kernel
theorem dX4_makeLeaving0_48 : decode cX4_makeLeaving0 48 = .ok (.iconst 1, 1) := by decide +kernel
theorem dX4_makeLeaving0_49 : decode cX4_makeLeaving0 49 = .ok (.iload_n 1, 1) := by decide +kernel
theorem dX4_makeLeaving0_50 : decode cX4_makeLeaving0 50 = .ok (.iconst 1, 1) := by decide +kernel
theorem dX4_makeLeaving0_51 : decode cX4_makeLeaving0 51 = .ok (.isub, 1) := by decide +kernel
theorem dX4_makeLeaving0_52 : decode cX4_makeLeaving0 52 = .ok (.invokevirtual 47, 3) := by decide +kernel
theorem dX4_makeLeaving0_55 : decode cX4_makeLeaving0 55 = .ok (.aload_n 0, 1) := by decide +kernel
theorem dX4_makeLeaving0_56 : decode cX4_makeLeaving0 56 = .ok (.iconst 2, 1) := by decide +kernel
theorem dX4_makeLeaving0_57 : decode cX4_makeLeaving0 57 = .ok (.iload_n 1, 1) := by decide +kernel
theorem dX4_makeLeaving0_58 : decode cX4_makeLeaving0 58 = .ok (.imul, 1) := by decide +kernel
theorem dX4_makeLeaving0_59 : decode cX4_makeLeaving0 59 = .ok (.iconst 1, 1) := by decide +kernel
theorem dX4_makeLeaving0_60 : decode cX4_makeLeaving0 60 = .ok (.iadd, 1) := by decide +kernel
theorem dX4_makeLeaving0_61 : decode cX4_makeLeaving0 61 = .ok (.bipush 6, 2) := by decide +kernel
theorem dX4_makeLeaving0_63 : decode cX4_makeLeaving0 63 = .ok (.iload_n 1, 1) := by decide +kernel
theorem dX4_makeLeaving0_64 : decode cX4_makeLeaving0 64 = .ok (.imul, 1) := by decide +kernel
theorem dX4_makeLeaving0_65 : decode cX4_makeLeaving0 65 = .ok (.invokevirtual 51, 3) := by decide +kernel
theorem dX4_makeLeaving0_68 : decode cX4_makeLeaving0 68 = .ok (.aload_n 0, 1) := by decide +kernel
theorem dX4_makeLeaving0_69 : decode cX4_makeLeaving0 69 = .ok (.iconst 2, 1) := by decide +kernel
theorem dX4_makeLeaving0_70 : decode cX4_makeLeaving0 70 = .ok (.iload_n 1, 1) := by decide +kernel
theorem dX4_makeLeaving0_71 : decode cX4_makeLeaving0 71 = .ok (.imul, 1) := by decide +kernel
theorem dX4_makeLeaving0_72 : decode cX4_makeLeaving0 72 = .ok (.iconst 4, 1) := by decide +kernel
theorem dX4_makeLeaving0_73 : decode cX4_makeLeaving0 73 = .ok (.iload_n 1, 1) := by decide +kernel
theorem dX4_makeLeaving0_74 : decode cX4_makeLeaving0 74 = .ok (.imul, 1) := by decide +kernel
theorem dX4_makeLeaving0_75 : decode cX4_makeLeaving0 75 = .ok (.iconst 1, 1) := by decide +kernel
theorem dX4_makeLeaving0_76 : decode cX4_makeLeaving0 76 = .ok (.isub, 1) := by decide +kernel
theorem dX4_makeLeaving0_77 : decode cX4_makeLeaving0 77 = .ok (.invokevirtual 51, 3) := by decide +kernel
theorem dX4_makeLeaving0_80 : decode cX4_makeLeaving0 80 = .ok (.return_, 1) := by decide +kernel
set_option maxRecDepth 20000 in
theorem ggX4_makeLeaving1_X4_nest : GoodIn wsX4_makeLeaving1 wsX4_nest := goodIn_r _ [5, 6, 7, 8, 4, 9, 10, 11, 12, 13, 14, 15] (by decide +kernel) (by decide +kernel)
set_option maxRecDepth 20000 in
theorem gX4_makeLeaving1_X4_nest : GoodIn wsX4_makeLeaving1 (wsV RX4 47 RX4 yX4_nest wsX4_nest) := goodIn_app (goodIn_of _ (by decide +kernel)) ggX4_makeLeaving1_X4_nest
set_option maxRecDepth 20000 in
theorem ggX4_makeLeaving1_X4_twin : GoodIn wsX4_makeLeaving1 wsX4_twin := goodIn_r _ [9, 10, 11, 12, 13, 14, 15] (by decide +kernel) (by decide +kernel)
set_option maxRecDepth 20000 in
theorem gX4_makeLeaving1_X4_twin : GoodIn wsX4_makeLeaving1 (wsV RX4 51 RX4 yX4_twin wsX4_twin) := goodIn_app (goodIn_of _ (by decide +kernel)) ggX4_makeLeaving1_X4_twin
theorem dX4_makeLeaving1_0 : decode cX4_makeLeaving1 0 = .ok (.aload_n 0, 1) := by decide +kernel
theorem dX4_makeLeaving1_1 : decode cX4_makeLeaving1 1 = .ok (.iconst 4, 1) := by decide +kernel
theorem dX4_makeLeaving1_2 : decode cX4_makeLeaving1 2 = .ok (.iload_n 1, 1) := by decide +kernel
theorem dX4_makeLeaving1_3 : decode cX4_makeLeaving1 3 = .ok (.imul, 1) := by decide +kernel
theorem dX4_makeLeaving1_4 : decode cX4_makeLeaving1 4 = .ok (.iconst 2, 1) := by decide +kernel
theorem dX4_makeLeaving1_5 : decode cX4_makeLeaving1 5 = .ok (.iadd, 1) := by decide +kernel
theorem dX4_makeLeaving1_6 : decode cX4_makeLeaving1 6 = .ok (.bipush 8, 2) := by decide +kernel
theorem dX4_makeLeaving1_8 : decode cX4_makeLeaving1 8 = .ok (.iload_n 1, 1) := by decide +kernel
theorem dX4_makeLeaving1_9 : decode cX4_makeLeaving1 9 = .ok (.imul, 1) := by decide +kernel
theorem dX4_makeLeaving1_10 : decode cX4_makeLeaving1 10 = .ok (.iconst 2, 1) := by decide +kernel
theorem dX4_makeLeaving1_11 : decode cX4_makeLeaving1 11 = .ok (.iadd, 1) := by decide +kernel
theorem dX4_makeLeaving1_12 : decode cX4_makeLeaving1 12 = .ok (.iconst 0, 1) := by decide +kernel
theorem dX4_makeLeaving1_13 : decode cX4_makeLeaving1 13 = .ok (.iconst 2, 1) := by decide +kernel
theorem dX4_makeLeaving1_14 : decode cX4_makeLeaving1 14 = .ok (.iload_n 1, 1) := by decide +kernel
theorem dX4_makeLeaving1_15 : decode cX4_makeLeaving1 15 = .ok (.imul, 1) := by decide +kernel
theorem dX4_makeLeaving1_16 : decode cX4_makeLeaving1 16 = .ok (.iconst 1, 1) := by decide +kernel
theorem dX4_makeLeaving1_17 : decode cX4_makeLeaving1 17 = .ok (.isub, 1) := by decide +kernel
theorem dX4_makeLeaving1_18 : decode cX4_makeLeaving1 18 = .ok (.invokevirtual 47, 3) := by decide +kernel
theorem dX4_makeLeaving1_21 : decode cX4_makeLeaving1 21 = .ok (.aload_n 0, 1) := by decide +kernel
theorem dX4_makeLeaving1_22 : decode cX4_makeLeaving1 22 = .ok (.iconst 0, 1) := by decide +kernel
theorem dX4_makeLeaving1_23 : decode cX4_makeLeaving1 23 = .ok (.iconst 4, 1) := by decide +kernel
theorem dX4_makeLeaving1_24 : decode cX4_makeLeaving1 24 = .ok (.iload_n 1, 1) := by decide +kernel
theorem dX4_makeLeaving1_25 : decode cX4_makeLeaving1 25 = .ok (.imul, 1) := by decide +kernel
theorem dX4_makeLeaving1_26 : decode cX4_makeLeaving1 26 = .ok (.iconst 1, 1) := by decide +kernel
theorem dX4_makeLeaving1_27 : decode cX4_makeLeaving1 27 = .ok (.iadd, 1) := by decide +kernel
theorem dX4_makeLeaving1_28 : decode cX4_makeLeaving1 28 = .ok (.iconst 1, 1) := by decide +kernel
theorem dX4_makeLeaving1_29 : decode cX4_makeLeaving1 29 = .ok (.iload_n 1, 1) := by decide +kernel
theorem dX4_makeLeaving1_30 : decode cX4_makeLeaving1 30 = .ok (.invokevirtual 47, 3) := by decide +kernel
theorem dX4_makeLeaving1_33 : decode cX4_makeLeaving1 33 = .ok (.aload_n 0, 1) := by decide +kernel
theorem dX4_makeLeaving1_34 : decode cX4_makeLeaving1 34 = .ok (.iconst 2, 1) := by decide +kernel
theorem dX4_makeLeaving1_35 : decode cX4_makeLeaving1 35 = .ok (.iload_n 1, 1) := by decide +kernel
theorem dX4_makeLeaving1_36 : decode cX4_makeLeaving1 36 = .ok (.imul, 1) := by decide +kernel
theorem dX4_makeLeaving1_37 : decode cX4_makeLeaving1 37 = .ok (.iconst 1, 1) := by decide +kernel
theorem dX4_makeLeaving1_38 : decode cX4_makeLeaving1 38 = .ok (.iadd, 1) := by decide +kernel
theorem dX4_makeLeaving1_39 : decode cX4_makeLeaving1 39 = .ok (.bipush 6, 2) := by decide +kernel
theorem dX4_makeLeaving1_41 : decode cX4_makeLeaving1 41 = .ok (.iload_n 1, 1) := by decide +kernel
theorem dX4_makeLeaving1_42 : decode cX4_makeLeaving1 42 = .ok (.imul, 1) := by decide +kernel
theorem dX4_makeLeaving1_43 : decode cX4_makeLeaving1 43 = .ok (.iconst 2, 1) := by decide +kernel
theorem dX4_makeLeaving1_44 : decode cX4_makeLeaving1 44 = .ok (.iadd, 1) := by decide +kernel
theorem dX4_makeLeaving1_45 : decode cX4_makeLeaving1 45 = .ok (.invokevirtual 51, 3) := by decide +kernel
theorem dX4_makeLeaving1_48 : decode cX4_makeLeaving1 48 = .ok (.aload_n 0, 1) := by decide +kernel
theorem dX4_makeLeaving1_49 : decode cX4_makeLeaving1 49 = .ok (.iconst 2, 1) := by decide +kernel
theorem dX4_makeLeaving1_50 : decode cX4_makeLeaving1 50 = .ok (.iload_n 1, 1) := by decide +kernel
theorem dX4_makeLeaving1_51 : decode cX4_makeLeaving1 51 = .ok (.imul, 1) := by decide +kernel
theorem dX4_makeLeaving1_52 : decode cX4_makeLeaving1 52 = .ok (.iconst 2, 1) := by decide +kernel
theorem dX4_makeLeaving1_53 : decode cX4_makeLeaving1 53 = .ok (.iadd, 1) := by decide +kernel
theorem dX4_makeLeaving1_54 : decode cX4_makeLeaving1 54 = .ok (.iconst 4, 1) := by decide +kernel
theorem dX4_makeLeaving1_55 : decode cX4_makeLeaving1 55 = .ok (.iload_n 1, 1) := by decide +kernel
theorem dX4_makeLeaving1_56 : decode cX4_makeLeaving1 56 = .ok (.imul, 1) := by decide +kernel
theorem dX4_makeLeaving1_57 : decode cX4_makeLeaving1 57 = .ok (.iconst 1, 1) := by decide +kernel
theorem dX4_makeLeaving1_58 : decode cX4_makeLeaving1 58 = .ok (.iadd, 1) := by decide +kernel
theorem dX4_makeLeaving1_59 : decode cX4_makeLeaving1 59 = .ok (.invokevirtual 51, 3) := by decide +kernel
theorem dX4_makeLeaving1_62 : decode cX4_makeLeaving1 62 = .ok (.aload_n 0, 1) := by decide +kernel
theorem dX4_makeLeaving1_63 : decode cX4_makeLeaving1 63 = .ok (.iload_n 1, 1) := by decide +kernel
theorem dX4_makeLeaving1_64 : decode cX4_makeLeaving1 64 = .ok (.iconst 1, 1) := by decide +kernel
theorem dX4_makeLeaving1_65 : decode cX4_makeLeaving1 65 = .ok (.iadd, 1) := by decide +kernel
theorem dX4_makeLeaving1_66 : decode cX4_makeLeaving1 66 = .ok (.iload_n 1, 1) := by decide +kernel
theorem dX4_makeLeaving1_67 : decode cX4_makeLeaving1 67 = .ok (.iconst 2, 1) := by decide +kernel
theorem dX4_makeLeaving1_68 : decode cX4_makeLeaving1 68 = .ok (.iadd, 1) := by decide +kernel
theorem dX4_makeLeaving1_69 : decode cX4_makeLeaving1 69 = .ok (.invokevirtual 51, 3) := by decide +kernel
theorem dX4_makeLeaving1_72 : decode cX4_makeLeaving1 72 = .ok (.aload_n 0, 1) := by decide +kernel
theorem dX4_makeLeaving1_73 : decode cX4_makeLeaving1 73 = .ok (.iload_n 1, 1) := by decide +kernel
theorem dX4_makeLeaving1_74 : decode cX4_makeLeaving1 74 = .ok (.iconst 2, 1) := by decide +kernel
theorem dX4_makeLeaving1_75 : decode cX4_makeLeaving1 75 = .ok (.iadd, 1) := by decide +kernel
theorem dX4_makeLeaving1_76 : decode cX4_makeLeaving1 76 = .ok (.iconst 3, 1) := by decide +kernel
theorem dX4_makeLeaving1_77 : decode cX4_makeLeaving1 77 = .ok (.iload_n 1, 1) := by decide +kernel
theorem dX4_makeLeaving1_78 : decode cX4_makeLeaving1 78 = .ok (.imul, 1) := by decide +kernel
theorem dX4_makeLeaving1_79 : decode cX4_makeLeaving1 79 = .ok (.iconst 1, 1) := by decide +kernel
theorem dX4_makeLeaving1_80 : decode cX4_makeLeaving1 80 = .ok (.iadd, 1) := by decide +kernel
theorem dX4_makeLeaving1_81 : decode cX4_makeLeaving1 81 = .ok (.iconst 1, 1) := by decide +kernel
theorem dX4_makeLeaving1_82 : decode cX4_makeLeaving1 82 = .ok (.iload_n 1, 1) := by decide +kernel
theorem dX4_makeLeaving1_83 : decode cX4_makeLeaving1 83 = .ok (.iconst 2, 1) := by decide +kernel
theorem dX4_makeLeaving1_84 : decode cX4_makeLeaving1 84 = .ok (.isub, 1) := by decide +kernel
theorem dX4_makeLeaving1_85 : decode cX4_makeLeaving1 85 = .ok (.invokevirtual 47, 3) := by decide +kernel
theorem dX4_makeLeaving1_88 : decode cX4_makeLeaving1 88 = .ok (.return_, 1) := by decide +kernel
set_option maxRecDepth 20000 in
theorem ggX4_makeLeaving2_X4_nest : GoodIn wsX4_makeLeaving2 wsX4_nest := goodIn_r _ [5, 6, 7, 8, 4, 9, 10, 11, 12, 13, 14, 15] (by decide +kernel) (by decide +kernel)
set_option maxRecDepth 20000 in
theorem gX4_makeLeaving2_X4_nest : GoodIn wsX4_makeLeaving2 (wsV RX4 47 RX4 yX4_nest wsX4_nest) := goodIn_app (goodIn_of _ (by decide +kernel)) ggX4_makeLeaving2_X4_nest
set_option maxRecDepth 20000 in
theorem ggX4_makeLeaving2_X4_twin : GoodIn wsX4_makeLeaving2 wsX4_twin := goodIn_r _ [9, 10, 11, 12, 13, 14, 15] (by decide +kernel) (by decide +kernel)
set_option maxRecDepth 20000 in
theorem gX4_makeLeaving2_X4_twin : GoodIn wsX4_makeLeaving2 (wsV RX4 51 RX4 yX4_twin wsX4_twin) := goodIn_app (goodIn_of _ (by decide +kernel)) ggX4_makeLeaving2_X4_twin
theorem dX4_makeLeaving2_0 : decode cX4_makeLeaving2 0 = .ok (.aload_n 0, 1) := by decide +kernel
theorem dX4_makeLeaving2_1 : decode cX4_makeLeaving2 1 = .ok (.iconst 0, 1) := by decide +kernel
theorem dX4_makeLeaving2_2 : decode cX4_makeLeaving2 2 = .ok (.iconst 4, 1) := by decide +kernel
theorem dX4_makeLeaving2_3 : decode cX4_makeLeaving2 3 = .ok (.iload_n 1, 1) := by decide +kernel
theorem dX4_makeLeaving2_4 : decode cX4_makeLeaving2 4 = .ok (.imul, 1) := by decide +kernel
theorem dX4_makeLeaving2_5 : decode cX4_makeLeaving2 5 = .ok (.iconst 2, 1) := by decide +kernel
theorem dX4_makeLeaving2_6 : decode cX4_makeLeaving2 6 = .ok (.iadd, 1) := by decide +kernel
theorem dX4_makeLeaving2_7 : decode cX4_makeLeaving2 7 = .ok (.iconst 1, 1) := by decide +kernel
theorem dX4_makeLeaving2_8 : decode cX4_makeLeaving2 8 = .ok (.iconst 2, 1) := by decide +kernel
theorem dX4_makeLeaving2_9 : decode cX4_makeLeaving2 9 = .ok (.iload_n 1, 1) := by decide +kernel
theorem dX4_makeLeaving2_10 : decode cX4_makeLeaving2 10 = .ok (.imul, 1) := by decide +kernel
theorem dX4_makeLeaving2_11 : decode cX4_makeLeaving2 11 = .ok (.invokevirtual 47, 3) := by decide +kernel
theorem dX4_makeLeaving2_14 : decode cX4_makeLeaving2 14 = .ok (.aload_n 0, 1) := by decide +kernel
theorem dX4_makeLeaving2_15 : decode cX4_makeLeaving2 15 = .ok (.iconst 2, 1) := by decide +kernel
theorem dX4_makeLeaving2_16 : decode cX4_makeLeaving2 16 = .ok (.iload_n 1, 1) := by decide +kernel
theorem dX4_makeLeaving2_17 : decode cX4_makeLeaving2 17 = .ok (.imul, 1) := by decide +kernel
theorem dX4_makeLeaving2_18 : decode cX4_makeLeaving2 18 = .ok (.iconst 1, 1) := by decide +kernel
theorem dX4_makeLeaving2_19 : decode cX4_makeLeaving2 19 = .ok (.iadd, 1) := by decide +kernel
theorem dX4_makeLeaving2_20 : decode cX4_makeLeaving2 20 = .ok (.bipush 6, 2) := by decide +kernel
theorem dX4_makeLeaving2_22 : decode cX4_makeLeaving2 22 = .ok (.iload_n 1, 1) := by decide +kernel
theorem dX4_makeLeaving2_23 : decode cX4_makeLeaving2 23 = .ok (.imul, 1) := by decide +kernel
theorem dX4_makeLeaving2_24 : decode cX4_makeLeaving2 24 = .ok (.iconst 2, 1) := by decide +kernel
theorem dX4_makeLeaving2_25 : decode cX4_makeLeaving2 25 = .ok (.iadd, 1) := by decide +kernel
theorem dX4_makeLeaving2_26 : decode cX4_makeLeaving2 26 = .ok (.invokevirtual 51, 3) := by decide +kernel
theorem dX4_makeLeaving2_29 : decode cX4_makeLeaving2 29 = .ok (.aload_n 0, 1) := by decide +kernel
theorem dX4_makeLeaving2_30 : decode cX4_makeLeaving2 30 = .ok (.iconst 4, 1) := by decide +kernel
theorem dX4_makeLeaving2_31 : decode cX4_makeLeaving2 31 = .ok (.iload_n 1, 1) := by decide +kernel
theorem dX4_makeLeaving2_32 : decode cX4_makeLeaving2 32 = .ok (.imul, 1) := by decide +kernel
theorem dX4_makeLeaving2_33 : decode cX4_makeLeaving2 33 = .ok (.iconst 2, 1) := by decide +kernel
theorem dX4_makeLeaving2_34 : decode cX4_makeLeaving2 34 = .ok (.iadd, 1) := by decide +kernel
theorem dX4_makeLeaving2_35 : decode cX4_makeLeaving2 35 = .ok (.bipush 6, 2) := by decide +kernel
theorem dX4_makeLeaving2_37 : decode cX4_makeLeaving2 37 = .ok (.iload_n 1, 1) := by decide +kernel
theorem dX4_makeLeaving2_38 : decode cX4_makeLeaving2 38 = .ok (.imul, 1) := by decide +kernel
theorem dX4_makeLeaving2_39 : decode cX4_makeLeaving2 39 = .ok (.iconst 3, 1) := by decide +kernel
theorem dX4_makeLeaving2_40 : decode cX4_makeLeaving2 40 = .ok (.iadd, 1) := by decide +kernel
theorem dX4_makeLeaving2_41 : decode cX4_makeLeaving2 41 = .ok (.invokevirtual 51, 3) := by decide +kernel
theorem dX4_makeLeaving2_44 : decode cX4_makeLeaving2 44 = .ok (.aload_n 0, 1) := by decide +kernel
theorem dX4_makeLeaving2_45 : decode cX4_makeLeaving2 45 = .ok (.iconst 4, 1) := by decide +kernel
theorem dX4_makeLeaving2_46 : decode cX4_makeLeaving2 46 = .ok (.iload_n 1, 1) := by decide +kernel
theorem dX4_makeLeaving2_47 : decode cX4_makeLeaving2 47 = .ok (.imul, 1) := by decide +kernel
theorem dX4_makeLeaving2_48 : decode cX4_makeLeaving2 48 = .ok (.iconst 3, 1) := by decide +kernel
theorem dX4_makeLeaving2_49 : decode cX4_makeLeaving2 49 = .ok (.iadd, 1) := by decide +kernel
theorem dX4_makeLeaving2_50 : decode cX4_makeLeaving2 50 = .ok (.bipush 8, 2) := by decide +kernel
theorem dX4_makeLeaving2_52 : decode cX4_makeLeaving2 52 = .ok (.iload_n 1, 1) := by decide +kernel
theorem dX4_makeLeaving2_53 : decode cX4_makeLeaving2 53 = .ok (.imul, 1) := by decide +kernel
theorem dX4_makeLeaving2_54 : decode cX4_makeLeaving2 54 = .ok (.iconst 5, 1) := by decide +kernel
theorem dX4_makeLeaving2_55 : decode cX4_makeLeaving2 55 = .ok (.iadd, 1) := by decide +kernel
theorem dX4_makeLeaving2_56 : decode cX4_makeLeaving2 56 = .ok (.invokevirtual 51, 3) := by decide +kernel
theorem dX4_makeLeaving2_59 : decode cX4_makeLeaving2 59 = .ok (.aload_n 0, 1) := by decide +kernel
theorem dX4_makeLeaving2_60 : decode cX4_makeLeaving2 60 = .ok (.iconst 4, 1) := by decide +kernel
theorem dX4_makeLeaving2_61 : decode cX4_makeLeaving2 61 = .ok (.iload_n 1, 1) := by decide +kernel
theorem dX4_makeLeaving2_62 : decode cX4_makeLeaving2 62 = .ok (.imul, 1) := by decide +kernel
theorem dX4_makeLeaving2_63 : decode cX4_makeLeaving2 63 = .ok (.iconst 3, 1) := by decide +kernel
theorem dX4_makeLeaving2_64 : decode cX4_makeLeaving2 64 = .ok (.iadd, 1) := by decide +kernel
theorem dX4_makeLeaving2_65 : decode cX4_makeLeaving2 65 = .ok (.bipush 8, 2) := by decide +kernel
theorem dX4_makeLeaving2_67 : decode cX4_makeLeaving2 67 = .ok (.iload_n 1, 1) := by decide +kernel
theorem dX4_makeLeaving2_68 : decode cX4_makeLeaving2 68 = .ok (.imul, 1) := by decide +kernel
theorem dX4_makeLeaving2_69 : decode cX4_makeLeaving2 69 = .ok (.iconst 4, 1) := by decide +kernel
theorem dX4_makeLeaving2_70 : decode cX4_makeLeaving2 70 = .ok (.iadd, 1) := by decide +kernel
theorem dX4_makeLeaving2_71 : decode cX4_makeLeaving2 71 = .ok (.iconst 1, 1) := by decide +kernel
theorem dX4_makeLeaving2_72 : decode cX4_makeLeaving2 72 = .ok (.iload_n 1, 1) := by decide +kernel
theorem dX4_makeLeaving2_73 : decode cX4_makeLeaving2 73 = .ok (.iconst 1, 1) := by decide +kernel
theorem dX4_makeLeaving2_74 : decode cX4_makeLeaving2 74 = .ok (.isub, 1) := by decide +kernel
theorem dX4_makeLeaving2_75 : decode cX4_makeLeaving2 75 = .ok (.invokevirtual 47, 3) := by decide +kernel
theorem dX4_makeLeaving2_78 : decode cX4_makeLeaving2 78 = .ok (.aload_n 0, 1) := by decide +kernel
theorem dX4_makeLeaving2_79 : decode cX4_makeLeaving2 79 = .ok (.iconst 5, 1) := by decide +kernel
theorem dX4_makeLeaving2_80 : decode cX4_makeLeaving2 80 = .ok (.iload_n 1, 1) := by decide +kernel
theorem dX4_makeLeaving2_81 : decode cX4_makeLeaving2 81 = .ok (.imul, 1) := by decide +kernel
theorem dX4_makeLeaving2_82 : decode cX4_makeLeaving2 82 = .ok (.iconst 2, 1) := by decide +kernel
theorem dX4_makeLeaving2_83 : decode cX4_makeLeaving2 83 = .ok (.iadd, 1) := by decide +kernel
theorem dX4_makeLeaving2_84 : decode cX4_makeLeaving2 84 = .ok (.bipush 7, 2) := by decide +kernel
theorem dX4_makeLeaving2_86 : decode cX4_makeLeaving2 86 = .ok (.iload_n 1, 1) := by decide +kernel
theorem dX4_makeLeaving2_87 : decode cX4_makeLeaving2 87 = .ok (.imul, 1) := by decide +kernel
theorem dX4_makeLeaving2_88 : decode cX4_makeLeaving2 88 = .ok (.iconst 3, 1) := by decide +kernel
theorem dX4_makeLeaving2_89 : decode cX4_makeLeaving2 89 = .ok (.iadd, 1) := by decide +kernel
theorem dX4_makeLeaving2_90 : decode cX4_makeLeaving2 90 = .ok (.iconst 1, 1) := by decide +kernel
theorem dX4_makeLeaving2_91 : decode cX4_makeLeaving2 91 = .ok (.iload_n 1, 1) := by decide +kernel
theorem dX4_makeLeaving2_92 : decode cX4_makeLeaving2 92 = .ok (.iconst 1, 1) := by decide +kernel
theorem dX4_makeLeaving2_93 : decode cX4_makeLeaving2 93 = .ok (.isub, 1) := by decide +kernel
theorem dX4_makeLeaving2_94 : decode cX4_makeLeaving2 94 = .ok (.invokevirtual 47, 3) := by decide +kernel
theorem dX4_makeLeaving2_97 : decode cX4_makeLeaving2 97 = .ok (.aload_n 0, 1) := by decide +kernel
theorem dX4_makeLeaving2_98 : decode cX4_makeLeaving2 98 = .ok (.bipush 7, 2) := by decide +kernel
theorem dX4_makeLeaving2_100 : decode cX4_makeLeaving2 100 = .ok (.iload_n 1, 1) := by decide +kernel
theorem dX4_makeLeaving2_101 : decode cX4_makeLeaving2 101 = .ok (.imul, 1) := by decide +kernel
theorem dX4_makeLeaving2_102 : decode cX4_makeLeaving2 102 = .ok (.iconst 3, 1) := by decide +kernel
theorem dX4_makeLeaving2_103 : decode cX4_makeLeaving2 103 = .ok (.iadd, 1) := by decide +kernel
theorem dX4_makeLeaving2_104 : decode cX4_makeLeaving2 104 = .ok (.bipush 7, 2) := by decide +kernel
theorem dX4_makeLeaving2_106 : decode cX4_makeLeaving2 106 = .ok (.iload_n 1, 1) := by decide +kernel
theorem dX4_makeLeaving2_107 : decode cX4_makeLeaving2 107 = .ok (.imul, 1) := by decide +kernel
theorem dX4_makeLeaving2_108 : decode cX4_makeLeaving2 108 = .ok (.iconst 4, 1) := by decide +kernel
theorem dX4_makeLeaving2_109 : decode cX4_makeLeaving2 109 = .ok (.iadd, 1) := by decide +kernel
theorem dX4_makeLeaving2_110 : decode cX4_makeLeaving2 110 = .ok (.invokevirtual 51, 3) := by decide +kernel
theorem dX4_makeLeaving2_113 : decode cX4_makeLeaving2 113 = .ok (.return_, 1) := by decide +kernel
set_option maxRecDepth 20000 in
theorem ggX4_nest_X4_twin : GoodIn wsX4_nest wsX4_twin := goodIn_r _ [5, 6, 7, 8, 9, 10, 11] (by decide +kernel) (by decide +kernel)
set_option maxRecDepth 20000 in
theorem gX4_nest_X4_twin : GoodIn wsX4_nest (wsV RX4 51 RX4 yX4_twin wsX4_twin) := goodIn_app (goodIn_of _ (by decide +kernel)) ggX4_nest_X4_twin
theorem dX4_nest_0 : decode cX4_nest 0 = .ok (.iload_n 3, 1) := by decide +kernel
theorem dX4_nest_1 : decode cX4_nest 1 = .ok (.istore 5, 2) := by decide +kernel
theorem dX4_nest_3 : decode cX4_nest 3 = .ok (.iload 5, 2) := by decide +kernel
theorem dX4_nest_5 : decode cX4_nest 5 = .ok (.iload 4, 2) := by decide +kernel
theorem dX4_nest_7 : decode cX4_nest 7 = .ok (.if_icmp .gt 21, 3) := by decide +kernel
theorem dX4_nest_10 : decode cX4_nest 10 = .ok (.aload_n 0, 1) := by decide +kernel
theorem dX4_nest_11 : decode cX4_nest 11 = .ok (.iload_n 1, 1) := by decide +kernel
theorem dX4_nest_12 : decode cX4_nest 12 = .ok (.iload 5, 2) := by decide +kernel
theorem dX4_nest_14 : decode cX4_nest 14 = .ok (.iadd, 1) := by decide +kernel
theorem dX4_nest_15 : decode cX4_nest 15 = .ok (.iload_n 2, 1) := by decide +kernel
theorem dX4_nest_16 : decode cX4_nest 16 = .ok (.iload 5, 2) := by decide +kernel
theorem dX4_nest_18 : decode cX4_nest 18 = .ok (.isub, 1) := by decide +kernel
theorem dX4_nest_19 : decode cX4_nest 19 = .ok (.invokevirtual 51, 3) := by decide +kernel
theorem dX4_nest_22 : decode cX4_nest 22 = .ok (.iinc 5 1, 3) := by decide +kernel
theorem dX4_nest_25 : decode cX4_nest 25 = .ok (.goto (-22), 3) := by decide +kernel
theorem dX4_nest_28 : decode cX4_nest 28 = .ok (.return_, 1) := by decide +kernel
theorem dX4_twin_0 : decode cX4_twin 0 = .ok (.iload_n 2, 1) := by decide +kernel
theorem dX4_twin_1 : decode cX4_twin 1 = .ok (.iload_n 1, 1) := by decide +kernel
theorem dX4_twin_2 : decode cX4_twin 2 = .ok (.isub, 1) := by decide +kernel
theorem dX4_twin_3 : decode cX4_twin 3 = .ok (.istore_n 3, 1) := by decide +kernel
theorem dX4_twin_4 : decode cX4_twin 4 = .ok (.iload_n 1, 1) := by decide +kernel
theorem dX4_twin_5 : decode cX4_twin 5 = .ok (.iconst 1, 1) := by decide +kernel
theorem dX4_twin_6 : decode cX4_twin 6 = .ok (.if_icmp .lt 22, 3) := by decide +kernel
theorem dX4_twin_9 : decode cX4_twin 9 = .ok (.iload_n 2, 1) := by decide +kernel
theorem dX4_twin_10 : decode cX4_twin 10 = .ok (.aload_n 0, 1) := by decide +kernel
theorem dX4_twin_11 : decode cX4_twin 11 = .ok (.getfield 18, 3) := by decide +kernel
theorem dX4_twin_14 : decode cX4_twin 14 = .ok (.if_icmp .gt 14, 3) := by decide +kernel
theorem dX4_twin_17 : decode cX4_twin 17 = .ok (.iload_n 3, 1) := by decide +kernel
theorem dX4_twin_18 : decode cX4_twin 18 = .ok (.iconst 1, 1) := by decide +kernel
theorem dX4_twin_19 : decode cX4_twin 19 = .ok (.if_icmp .lt 9, 3) := by decide +kernel
theorem dX4_twin_22 : decode cX4_twin 22 = .ok (.iload_n 3, 1) := by decide +kernel
theorem dX4_twin_23 : decode cX4_twin 23 = .ok (.bipush 60, 2) := by decide +kernel
theorem dX4_twin_25 : decode cX4_twin 25 = .ok (.if_icmp .le 4, 3) := by decide +kernel
theorem dX4_twin_28 : decode cX4_twin 28 = .ok (.return_, 1) := by decide +kernel
theorem dX4_twin_29 : decode cX4_twin 29 = .ok (.aload_n 0, 1) := by decide +kernel
theorem dX4_twin_30 : decode cX4_twin 30 = .ok (.getfield 9, 3) := by decide +kernel
theorem dX4_twin_33 : decode cX4_twin 33 = .ok (.iload_n 1, 1) := by decide +kernel
theorem dX4_twin_34 : decode cX4_twin 34 = .ok (.iload_n 3, 1) := by decide +kernel
theorem dX4_twin_35 : decode cX4_twin 35 = .ok (.iastore, 1) := by decide +kernel
theorem dX4_twin_36 : decode cX4_twin 36 = .ok (.aload_n 0, 1) := by decide +kernel
theorem dX4_twin_37 : decode cX4_twin 37 = .ok (.getfield 9, 3) := by decide +kernel
theorem dX4_twin_40 : decode cX4_twin 40 = .ok (.iload_n 2, 1) := by decide +kernel
theorem dX4_twin_41 : decode cX4_twin 41 = .ok (.iload_n 3, 1) := by decide +kernel
theorem dX4_twin_42 : decode cX4_twin 42 = .ok (.iastore, 1) := by decide +kernel
theorem dX4_twin_43 : decode cX4_twin 43 = .ok (.aload_n 0, 1) := by decide +kernel
theorem dX4_twin_44 : decode cX4_twin 44 = .ok (.getfield 15, 3) := by decide +kernel
theorem dX4_twin_47 : decode cX4_twin 47 = .ok (.iload_n 3, 1) := by decide +kernel
theorem dX4_twin_48 : decode cX4_twin 48 = .ok (.iload_n 1, 1) := by decide +kernel
theorem dX4_twin_49 : decode cX4_twin 49 = .ok (.iastore, 1) := by decide +kernel
theorem dX4_twin_50 : decode cX4_twin 50 = .ok (.return_, 1) := by decide +kernel
set_option maxRecDepth 20000 in
theorem ggX4_thirdOf_X4_ringOrder : GoodIn wsX4_thirdOf wsX4_ringOrder := goodIn_r _ [5, 6, 7, 8, 9, 10, 11, 21, 22, 23] (by decide +kernel) (by decide +kernel)
set_option maxRecDepth 20000 in
theorem gX4_thirdOf_X4_ringOrder : GoodIn wsX4_thirdOf (wsV RX4 55 RX4 yX4_ringOrder wsX4_ringOrder) := goodIn_app (goodIn_of _ (by decide +kernel)) ggX4_thirdOf_X4_ringOrder
set_option maxRecDepth 20000 in
theorem ggX4_thirdOf_X4_thirdAlong : GoodIn wsX4_thirdOf wsX4_thirdAlong := goodIn_r _ [15, 16, 17, 18, 19, 20, 21, 22, 23] (by decide +kernel) (by decide +kernel)
set_option maxRecDepth 20000 in
theorem gX4_thirdOf_X4_thirdAlong : GoodIn wsX4_thirdOf (wsV RX4 59 RX4 yX4_thirdAlong wsX4_thirdAlong) := goodIn_app (goodIn_of _ (by decide +kernel)) ggX4_thirdOf_X4_thirdAlong
theorem dX4_thirdOf_0 : decode cX4_thirdOf 0 = .ok (.aload_n 0, 1) := by decide +kernel
theorem dX4_thirdOf_1 : decode cX4_thirdOf 1 = .ok (.invokevirtual 55, 3) := by decide +kernel
theorem dX4_thirdOf_4 : decode cX4_thirdOf 4 = .ok (.istore_n 3, 1) := by decide +kernel
theorem dX4_thirdOf_5 : decode cX4_thirdOf 5 = .ok (.iload_n 3, 1) := by decide +kernel
theorem dX4_thirdOf_6 : decode cX4_thirdOf 6 = .ok (.iconst (-1), 1) := by decide +kernel
theorem dX4_thirdOf_7 : decode cX4_thirdOf 7 = .ok (.if_icmp .eq 32, 3) := by decide +kernel
theorem dX4_thirdOf_10 : decode cX4_thirdOf 10 = .ok (.iload_n 1, 1) := by decide +kernel
theorem dX4_thirdOf_11 : decode cX4_thirdOf 11 = .ok (.ifCond .lt 28, 3) := by decide +kernel
theorem dX4_thirdOf_14 : decode cX4_thirdOf 14 = .ok (.iload_n 1, 1) := by decide +kernel
theorem dX4_thirdOf_15 : decode cX4_thirdOf 15 = .ok (.bipush 6, 2) := by decide +kernel
theorem dX4_thirdOf_17 : decode cX4_thirdOf 17 = .ok (.iload_n 3, 1) := by decide +kernel
theorem dX4_thirdOf_18 : decode cX4_thirdOf 18 = .ok (.imul, 1) := by decide +kernel
theorem dX4_thirdOf_19 : decode cX4_thirdOf 19 = .ok (.if_icmp .gt 20, 3) := by decide +kernel
theorem dX4_thirdOf_22 : decode cX4_thirdOf 22 = .ok (.iload_n 2, 1) := by decide +kernel
theorem dX4_thirdOf_23 : decode cX4_thirdOf 23 = .ok (.ifCond .lt 16, 3) := by decide +kernel
theorem dX4_thirdOf_26 : decode cX4_thirdOf 26 = .ok (.iload_n 2, 1) := by decide +kernel
theorem dX4_thirdOf_27 : decode cX4_thirdOf 27 = .ok (.bipush 6, 2) := by decide +kernel
theorem dX4_thirdOf_29 : decode cX4_thirdOf 29 = .ok (.iload_n 3, 1) := by decide +kernel
theorem dX4_thirdOf_30 : decode cX4_thirdOf 30 = .ok (.imul, 1) := by decide +kernel
theorem dX4_thirdOf_31 : decode cX4_thirdOf 31 = .ok (.if_icmp .gt 8, 3) := by decide +kernel
theorem dX4_thirdOf_34 : decode cX4_thirdOf 34 = .ok (.iload_n 1, 1) := by decide +kernel
theorem dX4_thirdOf_35 : decode cX4_thirdOf 35 = .ok (.iload_n 2, 1) := by decide +kernel
theorem dX4_thirdOf_36 : decode cX4_thirdOf 36 = .ok (.if_icmp .ne 5, 3) := by decide +kernel
theorem dX4_thirdOf_39 : decode cX4_thirdOf 39 = .ok (.iconst (-1), 1) := by decide +kernel
theorem dX4_thirdOf_40 : decode cX4_thirdOf 40 = .ok (.ireturn, 1) := by decide +kernel
theorem dX4_thirdOf_41 : decode cX4_thirdOf 41 = .ok (.aload_n 0, 1) := by decide +kernel
theorem dX4_thirdOf_42 : decode cX4_thirdOf 42 = .ok (.iload_n 1, 1) := by decide +kernel
theorem dX4_thirdOf_43 : decode cX4_thirdOf 43 = .ok (.iload_n 2, 1) := by decide +kernel
theorem dX4_thirdOf_44 : decode cX4_thirdOf 44 = .ok (.iload_n 3, 1) := by decide +kernel
theorem dX4_thirdOf_45 : decode cX4_thirdOf 45 = .ok (.invokevirtual 59, 3) := by decide +kernel
theorem dX4_thirdOf_48 : decode cX4_thirdOf 48 = .ok (.istore 4, 2) := by decide +kernel
theorem dX4_thirdOf_50 : decode cX4_thirdOf 50 = .ok (.iload 4, 2) := by decide +kernel
theorem dX4_thirdOf_52 : decode cX4_thirdOf 52 = .ok (.iconst (-1), 1) := by decide +kernel
theorem dX4_thirdOf_53 : decode cX4_thirdOf 53 = .ok (.if_icmp .eq 8, 3) := by decide +kernel
theorem dX4_thirdOf_56 : decode cX4_thirdOf 56 = .ok (.iload 4, 2) := by decide +kernel
theorem dX4_thirdOf_58 : decode cX4_thirdOf 58 = .ok (.goto 10, 3) := by decide +kernel
theorem dX4_thirdOf_61 : decode cX4_thirdOf 61 = .ok (.aload_n 0, 1) := by decide +kernel
theorem dX4_thirdOf_62 : decode cX4_thirdOf 62 = .ok (.iload_n 2, 1) := by decide +kernel
theorem dX4_thirdOf_63 : decode cX4_thirdOf 63 = .ok (.iload_n 1, 1) := by decide +kernel
theorem dX4_thirdOf_64 : decode cX4_thirdOf 64 = .ok (.iload_n 3, 1) := by decide +kernel
theorem dX4_thirdOf_65 : decode cX4_thirdOf 65 = .ok (.invokevirtual 59, 3) := by decide +kernel
theorem dX4_thirdOf_68 : decode cX4_thirdOf 68 = .ok (.ireturn, 1) := by decide +kernel
theorem dX4_ringOrder_0 : decode cX4_ringOrder 0 = .ok (.iconst 0, 1) := by decide +kernel
theorem dX4_ringOrder_1 : decode cX4_ringOrder 1 = .ok (.istore_n 1, 1) := by decide +kernel
theorem dX4_ringOrder_2 : decode cX4_ringOrder 2 = .ok (.iconst 0, 1) := by decide +kernel
theorem dX4_ringOrder_3 : decode cX4_ringOrder 3 = .ok (.istore_n 2, 1) := by decide +kernel
theorem dX4_ringOrder_4 : decode cX4_ringOrder 4 = .ok (.iconst 0, 1) := by decide +kernel
theorem dX4_ringOrder_5 : decode cX4_ringOrder 5 = .ok (.istore_n 3, 1) := by decide +kernel
theorem dX4_ringOrder_6 : decode cX4_ringOrder 6 = .ok (.iconst 1, 1) := by decide +kernel
theorem dX4_ringOrder_7 : decode cX4_ringOrder 7 = .ok (.istore 4, 2) := by decide +kernel
theorem dX4_ringOrder_9 : decode cX4_ringOrder 9 = .ok (.iload 4, 2) := by decide +kernel
theorem dX4_ringOrder_11 : decode cX4_ringOrder 11 = .ok (.aload_n 0, 1) := by decide +kernel
theorem dX4_ringOrder_12 : decode cX4_ringOrder 12 = .ok (.getfield 18, 3) := by decide +kernel
theorem dX4_ringOrder_15 : decode cX4_ringOrder 15 = .ok (.if_icmp .gt 37, 3) := by decide +kernel
theorem dX4_ringOrder_18 : decode cX4_ringOrder 18 = .ok (.aload_n 0, 1) := by decide +kernel
theorem dX4_ringOrder_19 : decode cX4_ringOrder 19 = .ok (.getfield 9, 3) := by decide +kernel
theorem dX4_ringOrder_22 : decode cX4_ringOrder 22 = .ok (.iload 4, 2) := by decide +kernel
theorem dX4_ringOrder_24 : decode cX4_ringOrder 24 = .ok (.iaload, 1) := by decide +kernel
theorem dX4_ringOrder_25 : decode cX4_ringOrder 25 = .ok (.ifCond .eq 21, 3) := by decide +kernel
theorem dX4_ringOrder_28 : decode cX4_ringOrder 28 = .ok (.iinc 1 1, 3) := by decide +kernel
theorem dX4_ringOrder_31 : decode cX4_ringOrder 31 = .ok (.iload 4, 2) := by decide +kernel
theorem dX4_ringOrder_33 : decode cX4_ringOrder 33 = .ok (.istore_n 2, 1) := by decide +kernel
theorem dX4_ringOrder_34 : decode cX4_ringOrder 34 = .ok (.iload_n 3, 1) := by decide +kernel
theorem dX4_ringOrder_35 : decode cX4_ringOrder 35 = .ok (.aload_n 0, 1) := by decide +kernel
theorem dX4_ringOrder_36 : decode cX4_ringOrder 36 = .ok (.getfield 9, 3) := by decide +kernel
theorem dX4_ringOrder_39 : decode cX4_ringOrder 39 = .ok (.iload 4, 2) := by decide +kernel
theorem dX4_ringOrder_41 : decode cX4_ringOrder 41 = .ok (.iaload, 1) := by decide +kernel
theorem dX4_ringOrder_42 : decode cX4_ringOrder 42 = .ok (.invokestatic 63, 3) := by decide +kernel
theorem dX4_ringOrder_45 : decode cX4_ringOrder 45 = .ok (.istore_n 3, 1) := by decide +kernel
theorem dX4_ringOrder_46 : decode cX4_ringOrder 46 = .ok (.iinc 4 1, 3) := by decide +kernel
theorem dX4_ringOrder_49 : decode cX4_ringOrder 49 = .ok (.goto (-40), 3) := by decide +kernel
theorem dX4_ringOrder_52 : decode cX4_ringOrder 52 = .ok (.iload_n 3, 1) := by decide +kernel
theorem dX4_ringOrder_53 : decode cX4_ringOrder 53 = .ok (.ifCond .eq 16, 3) := by decide +kernel
theorem dX4_ringOrder_56 : decode cX4_ringOrder 56 = .ok (.iload_n 3, 1) := by decide +kernel
theorem dX4_ringOrder_57 : decode cX4_ringOrder 57 = .ok (.bipush 60, 2) := by decide +kernel
theorem dX4_ringOrder_59 : decode cX4_ringOrder 59 = .ok (.if_icmp .gt 10, 3) := by decide +kernel
theorem dX4_ringOrder_62 : decode cX4_ringOrder 62 = .ok (.iload_n 1, 1) := by decide +kernel
theorem dX4_ringOrder_63 : decode cX4_ringOrder 63 = .ok (.iconst 2, 1) := by decide +kernel
theorem dX4_ringOrder_64 : decode cX4_ringOrder 64 = .ok (.iload_n 3, 1) := by decide +kernel
theorem dX4_ringOrder_65 : decode cX4_ringOrder 65 = .ok (.imul, 1) := by decide +kernel
theorem dX4_ringOrder_66 : decode cX4_ringOrder 66 = .ok (.if_icmp .eq 5, 3) := by decide +kernel
theorem dX4_ringOrder_69 : decode cX4_ringOrder 69 = .ok (.iconst (-1), 1) := by decide +kernel
theorem dX4_ringOrder_70 : decode cX4_ringOrder 70 = .ok (.ireturn, 1) := by decide +kernel
theorem dX4_ringOrder_71 : decode cX4_ringOrder 71 = .ok (.iload_n 2, 1) := by decide +kernel
theorem dX4_ringOrder_72 : decode cX4_ringOrder 72 = .ok (.iload_n 1, 1) := by decide +kernel
theorem dX4_ringOrder_73 : decode cX4_ringOrder 73 = .ok (.if_icmp .ne 7, 3) := by decide +kernel
theorem dX4_ringOrder_76 : decode cX4_ringOrder 76 = .ok (.iconst 1, 1) := by decide +kernel
theorem dX4_ringOrder_77 : decode cX4_ringOrder 77 = .ok (.goto 4, 3) := by decide +kernel
theorem dX4_ringOrder_80 : decode cX4_ringOrder 80 = .ok (.iconst 0, 1) := by decide +kernel
theorem dX4_ringOrder_81 : decode cX4_ringOrder 81 = .ok (.istore 4, 2) := by decide +kernel
theorem dX4_ringOrder_83 : decode cX4_ringOrder 83 = .ok (.iload_n 2, 1) := by decide +kernel
theorem dX4_ringOrder_84 : decode cX4_ringOrder 84 = .ok (.iload_n 1, 1) := by decide +kernel
theorem dX4_ringOrder_85 : decode cX4_ringOrder 85 = .ok (.iconst 1, 1) := by decide +kernel
theorem dX4_ringOrder_86 : decode cX4_ringOrder 86 = .ok (.iadd, 1) := by decide +kernel
theorem dX4_ringOrder_87 : decode cX4_ringOrder 87 = .ok (.if_icmp .ne 16, 3) := by decide +kernel
theorem dX4_ringOrder_90 : decode cX4_ringOrder 90 = .ok (.aload_n 0, 1) := by decide +kernel
theorem dX4_ringOrder_91 : decode cX4_ringOrder 91 = .ok (.getfield 9, 3) := by decide +kernel
theorem dX4_ringOrder_94 : decode cX4_ringOrder 94 = .ok (.iload_n 1, 1) := by decide +kernel
theorem dX4_ringOrder_95 : decode cX4_ringOrder 95 = .ok (.iaload, 1) := by decide +kernel
theorem dX4_ringOrder_96 : decode cX4_ringOrder 96 = .ok (.ifCond .ne 7, 3) := by decide +kernel
theorem dX4_ringOrder_99 : decode cX4_ringOrder 99 = .ok (.iconst 1, 1) := by decide +kernel
theorem dX4_ringOrder_100 : decode cX4_ringOrder 100 = .ok (.goto 4, 3) := by decide +kernel
theorem dX4_ringOrder_103 : decode cX4_ringOrder 103 = .ok (.iconst 0, 1) := by decide +kernel
theorem dX4_ringOrder_104 : decode cX4_ringOrder 104 = .ok (.istore 5, 2) := by decide +kernel
theorem dX4_ringOrder_106 : decode cX4_ringOrder 106 = .ok (.iload 4, 2) := by decide +kernel
theorem dX4_ringOrder_108 : decode cX4_ringOrder 108 = .ok (.ifCond .ne 8, 3) := by decide +kernel
theorem dX4_ringOrder_111 : decode cX4_ringOrder 111 = .ok (.iload 5, 2) := by decide +kernel
theorem dX4_ringOrder_113 : decode cX4_ringOrder 113 = .ok (.ifCond .eq 7, 3) := by decide +kernel
theorem dX4_ringOrder_116 : decode cX4_ringOrder 116 = .ok (.iload_n 3, 1) := by decide +kernel
theorem dX4_ringOrder_117 : decode cX4_ringOrder 117 = .ok (.goto 4, 3) := by decide +kernel
theorem dX4_ringOrder_120 : decode cX4_ringOrder 120 = .ok (.iconst (-1), 1) := by decide +kernel
theorem dX4_ringOrder_121 : decode cX4_ringOrder 121 = .ok (.ireturn, 1) := by decide +kernel
set_option maxRecDepth 20000 in
theorem ggX4_thirdAlong_J9_floorMod_7cf53 : GoodIn wsX4_thirdAlong wsJ9_floorMod_7cf53 := goodIn_r _ [5] (by decide +kernel) (by decide +kernel)
set_option maxRecDepth 20000 in
theorem gX4_thirdAlong_J9_floorMod_7cf53 : GoodIn wsX4_thirdAlong (va_wsS RX4 66 yJ9_floorMod_7cf53 wsJ9_floorMod_7cf53) := goodIn_app (goodIn_of _ (by decide +kernel)) ggX4_thirdAlong_J9_floorMod_7cf53
theorem dX4_thirdAlong_0 : decode cX4_thirdAlong 0 = .ok (.bipush 6, 2) := by decide +kernel
theorem dX4_thirdAlong_2 : decode cX4_thirdAlong 2 = .ok (.iload_n 3, 1) := by decide +kernel
theorem dX4_thirdAlong_3 : decode cX4_thirdAlong 3 = .ok (.imul, 1) := by decide +kernel
theorem dX4_thirdAlong_4 : decode cX4_thirdAlong 4 = .ok (.iconst 1, 1) := by decide +kernel
theorem dX4_thirdAlong_5 : decode cX4_thirdAlong 5 = .ok (.iadd, 1) := by decide +kernel
theorem dX4_thirdAlong_6 : decode cX4_thirdAlong 6 = .ok (.istore 4, 2) := by decide +kernel
theorem dX4_thirdAlong_8 : decode cX4_thirdAlong 8 = .ok (.iload_n 2, 1) := by decide +kernel
theorem dX4_thirdAlong_9 : decode cX4_thirdAlong 9 = .ok (.iload_n 1, 1) := by decide +kernel
theorem dX4_thirdAlong_10 : decode cX4_thirdAlong 10 = .ok (.isub, 1) := by decide +kernel
theorem dX4_thirdAlong_11 : decode cX4_thirdAlong 11 = .ok (.iload 4, 2) := by decide +kernel
theorem dX4_thirdAlong_13 : decode cX4_thirdAlong 13 = .ok (.invokestatic 66, 3) := by decide +kernel
theorem dX4_thirdAlong_16 : decode cX4_thirdAlong 16 = .ok (.istore 5, 2) := by decide +kernel
theorem dX4_thirdAlong_18 : decode cX4_thirdAlong 18 = .ok (.iconst 1, 1) := by decide +kernel
theorem dX4_thirdAlong_19 : decode cX4_thirdAlong 19 = .ok (.istore 6, 2) := by decide +kernel
theorem dX4_thirdAlong_21 : decode cX4_thirdAlong 21 = .ok (.iload 6, 2) := by decide +kernel
theorem dX4_thirdAlong_23 : decode cX4_thirdAlong 23 = .ok (.iload_n 3, 1) := by decide +kernel
theorem dX4_thirdAlong_24 : decode cX4_thirdAlong 24 = .ok (.if_icmp .gt 80, 3) := by decide +kernel
theorem dX4_thirdAlong_27 : decode cX4_thirdAlong 27 = .ok (.iload 6, 2) := by decide +kernel
theorem dX4_thirdAlong_29 : decode cX4_thirdAlong 29 = .ok (.bipush 60, 2) := by decide +kernel
theorem dX4_thirdAlong_31 : decode cX4_thirdAlong 31 = .ok (.if_icmp .gt 73, 3) := by decide +kernel
theorem dX4_thirdAlong_34 : decode cX4_thirdAlong 34 = .ok (.iload_n 3, 1) := by decide +kernel
theorem dX4_thirdAlong_35 : decode cX4_thirdAlong 35 = .ok (.aload_n 0, 1) := by decide +kernel
theorem dX4_thirdAlong_36 : decode cX4_thirdAlong 36 = .ok (.getfield 15, 3) := by decide +kernel
theorem dX4_thirdAlong_39 : decode cX4_thirdAlong 39 = .ok (.iload 6, 2) := by decide +kernel
theorem dX4_thirdAlong_41 : decode cX4_thirdAlong 41 = .ok (.iaload, 1) := by decide +kernel
theorem dX4_thirdAlong_42 : decode cX4_thirdAlong 42 = .ok (.iadd, 1) := by decide +kernel
theorem dX4_thirdAlong_43 : decode cX4_thirdAlong 43 = .ok (.iload 6, 2) := by decide +kernel
theorem dX4_thirdAlong_45 : decode cX4_thirdAlong 45 = .ok (.iadd, 1) := by decide +kernel
theorem dX4_thirdAlong_46 : decode cX4_thirdAlong 46 = .ok (.istore 7, 2) := by decide +kernel
theorem dX4_thirdAlong_48 : decode cX4_thirdAlong 48 = .ok (.iload 5, 2) := by decide +kernel
theorem dX4_thirdAlong_50 : decode cX4_thirdAlong 50 = .ok (.iload 6, 2) := by decide +kernel
theorem dX4_thirdAlong_52 : decode cX4_thirdAlong 52 = .ok (.if_icmp .ne 11, 3) := by decide +kernel
theorem dX4_thirdAlong_55 : decode cX4_thirdAlong 55 = .ok (.iload_n 1, 1) := by decide +kernel
theorem dX4_thirdAlong_56 : decode cX4_thirdAlong 56 = .ok (.iload 7, 2) := by decide +kernel
theorem dX4_thirdAlong_58 : decode cX4_thirdAlong 58 = .ok (.iadd, 1) := by decide +kernel
theorem dX4_thirdAlong_59 : decode cX4_thirdAlong 59 = .ok (.iload 4, 2) := by decide +kernel
theorem dX4_thirdAlong_61 : decode cX4_thirdAlong 61 = .ok (.irem, 1) := by decide +kernel
theorem dX4_thirdAlong_62 : decode cX4_thirdAlong 62 = .ok (.ireturn, 1) := by decide +kernel
theorem dX4_thirdAlong_63 : decode cX4_thirdAlong 63 = .ok (.iload 5, 2) := by decide +kernel
theorem dX4_thirdAlong_65 : decode cX4_thirdAlong 65 = .ok (.iload 7, 2) := by decide +kernel
theorem dX4_thirdAlong_67 : decode cX4_thirdAlong 67 = .ok (.if_icmp .ne 11, 3) := by decide +kernel
theorem dX4_thirdAlong_70 : decode cX4_thirdAlong 70 = .ok (.iload_n 1, 1) := by decide +kernel
theorem dX4_thirdAlong_71 : decode cX4_thirdAlong 71 = .ok (.iload 6, 2) := by decide +kernel
theorem dX4_thirdAlong_73 : decode cX4_thirdAlong 73 = .ok (.iadd, 1) := by decide +kernel
theorem dX4_thirdAlong_74 : decode cX4_thirdAlong 74 = .ok (.iload 4, 2) := by decide +kernel
theorem dX4_thirdAlong_76 : decode cX4_thirdAlong 76 = .ok (.irem, 1) := by decide +kernel
theorem dX4_thirdAlong_77 : decode cX4_thirdAlong 77 = .ok (.ireturn, 1) := by decide +kernel
theorem dX4_thirdAlong_78 : decode cX4_thirdAlong 78 = .ok (.iload 5, 2) := by decide +kernel
theorem dX4_thirdAlong_80 : decode cX4_thirdAlong 80 = .ok (.iload 7, 2) := by decide +kernel
theorem dX4_thirdAlong_82 : decode cX4_thirdAlong 82 = .ok (.iload 6, 2) := by decide +kernel
theorem dX4_thirdAlong_84 : decode cX4_thirdAlong 84 = .ok (.isub, 1) := by decide +kernel
theorem dX4_thirdAlong_85 : decode cX4_thirdAlong 85 = .ok (.if_icmp .ne 13, 3) := by decide +kernel
theorem dX4_thirdAlong_88 : decode cX4_thirdAlong 88 = .ok (.iload_n 1, 1) := by decide +kernel
theorem dX4_thirdAlong_89 : decode cX4_thirdAlong 89 = .ok (.iload 6, 2) := by decide +kernel
theorem dX4_thirdAlong_91 : decode cX4_thirdAlong 91 = .ok (.isub, 1) := by decide +kernel
theorem dX4_thirdAlong_92 : decode cX4_thirdAlong 92 = .ok (.iload 4, 2) := by decide +kernel
theorem dX4_thirdAlong_94 : decode cX4_thirdAlong 94 = .ok (.invokestatic 66, 3) := by decide +kernel
theorem dX4_thirdAlong_97 : decode cX4_thirdAlong 97 = .ok (.ireturn, 1) := by decide +kernel
theorem dX4_thirdAlong_98 : decode cX4_thirdAlong 98 = .ok (.iinc 6 1, 3) := by decide +kernel
theorem dX4_thirdAlong_101 : decode cX4_thirdAlong 101 = .ok (.goto (-80), 3) := by decide +kernel
theorem dX4_thirdAlong_104 : decode cX4_thirdAlong 104 = .ok (.iconst (-1), 1) := by decide +kernel
theorem dX4_thirdAlong_105 : decode cX4_thirdAlong 105 = .ok (.ireturn, 1) := by decide +kernel
set_option maxRecDepth 20000 in
theorem ggX5_init_X2_init : GoodIn wsX5_init wsX2_init := goodIn_r _ [18, 19, 2, 3, 20, 21, 22, 23, 24, 25, 26, 27, 28] (by decide +kernel) (by decide +kernel)
set_option maxRecDepth 20000 in
theorem gX5_init_X2_init_n11 : GoodIn wsX5_init (wsX2_init) := ggX5_init_X2_init
theorem dX5_init_0 : decode cX5_init 0 = .ok (.aload_n 0, 1) := by decide +kernel
theorem dX5_init_1 : decode cX5_init 1 = .ok (.invokespecial 3, 3) := by decide +kernel
theorem dX5_init_4 : decode cX5_init 4 = .ok (.aload_n 0, 1) := by decide +kernel
theorem dX5_init_5 : decode cX5_init 5 = .ok (.new 9, 3) := by decide +kernel
theorem dX5_init_8 : decode cX5_init 8 = .ok (.dup, 1) := by decide +kernel
theorem dX5_init_9 : decode cX5_init 9 = .ok (.invokespecial 11, 3) := by decide +kernel
theorem dX5_init_12 : decode cX5_init 12 = .ok (.putfield 12, 3) := by decide +kernel
theorem dX5_init_15 : decode cX5_init 15 = .ok (.aload_n 0, 1) := by decide +kernel
theorem dX5_init_16 : decode cX5_init 16 = .ok (.sipush 340, 3) := by decide +kernel
theorem dX5_init_19 : decode cX5_init 19 = .ok (.newarray .byte, 2) := by decide +kernel
theorem dX5_init_21 : decode cX5_init 21 = .ok (.putfield 18, 3) := by decide +kernel
theorem dX5_init_24 : decode cX5_init 24 = .ok (.aload_n 0, 1) := by decide +kernel
theorem dX5_init_25 : decode cX5_init 25 = .ok (.iconst 0, 1) := by decide +kernel
theorem dX5_init_26 : decode cX5_init 26 = .ok (.putfield 22, 3) := by decide +kernel
theorem dX5_init_29 : decode cX5_init 29 = .ok (.aload_n 0, 1) := by decide +kernel
theorem dX5_init_30 : decode cX5_init 30 = .ok (.iconst 0, 1) := by decide +kernel
theorem dX5_init_31 : decode cX5_init 31 = .ok (.putfield 26, 3) := by decide +kernel
theorem dX5_init_34 : decode cX5_init 34 = .ok (.aload_n 0, 1) := by decide +kernel
theorem dX5_init_35 : decode cX5_init 35 = .ok (.iconst 0, 1) := by decide +kernel
theorem dX5_init_36 : decode cX5_init 36 = .ok (.putfield 29, 3) := by decide +kernel
theorem dX5_init_39 : decode cX5_init 39 = .ok (.aload_n 0, 1) := by decide +kernel
theorem dX5_init_40 : decode cX5_init 40 = .ok (.iconst 0, 1) := by decide +kernel
theorem dX5_init_41 : decode cX5_init 41 = .ok (.putfield 32, 3) := by decide +kernel
theorem dX5_init_44 : decode cX5_init 44 = .ok (.aload_n 0, 1) := by decide +kernel
theorem dX5_init_45 : decode cX5_init 45 = .ok (.iconst 0, 1) := by decide +kernel
theorem dX5_init_46 : decode cX5_init 46 = .ok (.putfield 35, 3) := by decide +kernel
theorem dX5_init_49 : decode cX5_init 49 = .ok (.aload_n 0, 1) := by decide +kernel
theorem dX5_init_50 : decode cX5_init 50 = .ok (.iconst 0, 1) := by decide +kernel
theorem dX5_init_51 : decode cX5_init 51 = .ok (.putfield 38, 3) := by decide +kernel
theorem dX5_init_54 : decode cX5_init 54 = .ok (.aload_n 0, 1) := by decide +kernel
theorem dX5_init_55 : decode cX5_init 55 = .ok (.iconst 0, 1) := by decide +kernel
theorem dX5_init_56 : decode cX5_init 56 = .ok (.putfield 41, 3) := by decide +kernel
theorem dX5_init_59 : decode cX5_init 59 = .ok (.return_, 1) := by decide +kernel
set_option maxRecDepth 20000 in
theorem ggX5_read_X2_begin : GoodIn wsX5_read wsX2_begin := goodIn_r _ [20, 21, 22, 23, 24, 25, 26, 27, 28, 173, 174, 175, 176] (by decide +kernel) (by decide +kernel)
set_option maxRecDepth 20000 in
theorem gX5_read_X2_begin : GoodIn wsX5_read (wsV RX5 56 RX2 yX2_begin wsX2_begin) := goodIn_app (goodIn_of _ (by decide +kernel)) ggX5_read_X2_begin
set_option maxRecDepth 20000 in
theorem ggX5_read_X5_advance : GoodIn wsX5_read wsX5_advance := goodIn_r _ [33, 11, 5, 6, 15, 14, 34, 35, 36, 32, 37, 38, 164, 165, 166, 167, 168, 169, 170, 171, 172] (by decide +kernel) (by decide +kernel)
set_option maxRecDepth 20000 in
theorem gX5_read_X5_advance : GoodIn wsX5_read (wsV RX5 59 RX5 yX5_advance wsX5_advance) := goodIn_app (goodIn_of _ (by decide +kernel)) ggX5_read_X5_advance
set_option maxRecDepth 20000 in
theorem ggX5_read_X5_readRow : GoodIn wsX5_read wsX5_readRow := goodIn_r _ [42, 43, 44, 45, 32, 46, 14, 11, 15, 6, 47, 48, 49, 50, 51, 52, 53, 54, 55, 56, 57, 58, 59, 60, 61, 62, 63, 64, 65, 66, 67, 68, 69, 70, 71, 72, 73, 74, 75, 76, 77, 78, 79, 80, 81, 82, 83, 84, 85, 86, 87, 88, 89, 90, 91, 92, 93, 94, 95, 96, 97, 98, 99, 13, 38, 100, 101, 102, 103, 29, 30, 31, 33, 5, 34, 35, 36, 37, 104, 105, 106, 107, 12, 16, 17, 18, 19, 20, 21, 22, 23, 24, 25, 26, 27, 28, 108, 109, 110, 111, 112, 113, 114, 115, 116, 117, 118, 119, 120, 121, 122, 123, 124, 125, 126, 127, 128, 129, 130, 131, 132, 133, 134, 135, 136, 137, 138, 139, 140, 141, 142, 143, 144, 145, 146, 147, 148, 149, 150, 151, 152, 153, 154, 155, 156, 157, 158, 159, 164, 165, 166, 167, 168, 169, 170, 171, 172, 173, 174, 175, 176] (by decide +kernel) (by decide +kernel)
set_option maxRecDepth 20000 in
theorem gX5_read_X5_readRow : GoodIn wsX5_read (wsV RX5 62 RX5 yX5_readRow wsX5_readRow) := goodIn_app (goodIn_of _ (by decide +kernel)) ggX5_read_X5_readRow
set_option maxRecDepth 20000 in
theorem ggX5_read_X5_endsRow : GoodIn wsX5_read wsX5_endsRow := goodIn_r _ [163, 14, 104, 105, 106, 32, 107, 12, 164, 165, 166, 167, 168, 169, 170, 171, 172] (by decide +kernel) (by decide +kernel)
set_option maxRecDepth 20000 in
theorem gX5_read_X5_endsRow : GoodIn wsX5_read (wsV RX5 66 RX5 yX5_endsRow wsX5_endsRow) := goodIn_app (goodIn_of _ (by decide +kernel)) ggX5_read_X5_endsRow
theorem dX5_read_0 : decode cX5_read 0 = .ok (.aload_n 0, 1) := by decide +kernel
theorem dX5_read_1 : decode cX5_read 1 = .ok (.iload_n 2, 1) := by decide +kernel
theorem dX5_read_2 : decode cX5_read 2 = .ok (.aload_n 1, 1) := by decide +kernel
theorem dX5_read_3 : decode cX5_read 3 = .ok (.arraylength, 1) := by decide +kernel
theorem dX5_read_4 : decode cX5_read 4 = .ok (.sipush 340, 3) := by decide +kernel
theorem dX5_read_7 : decode cX5_read 7 = .ok (.invokestatic 44, 3) := by decide +kernel
theorem dX5_read_10 : decode cX5_read 10 = .ok (.invokestatic 44, 3) := by decide +kernel
theorem dX5_read_13 : decode cX5_read 13 = .ok (.putfield 22, 3) := by decide +kernel
theorem dX5_read_16 : decode cX5_read 16 = .ok (.aload_n 1, 1) := by decide +kernel
theorem dX5_read_17 : decode cX5_read 17 = .ok (.iconst 0, 1) := by decide +kernel
theorem dX5_read_18 : decode cX5_read 18 = .ok (.aload_n 0, 1) := by decide +kernel
theorem dX5_read_19 : decode cX5_read 19 = .ok (.getfield 18, 3) := by decide +kernel
theorem dX5_read_22 : decode cX5_read 22 = .ok (.iconst 0, 1) := by decide +kernel
theorem dX5_read_23 : decode cX5_read 23 = .ok (.aload_n 0, 1) := by decide +kernel
theorem dX5_read_24 : decode cX5_read 24 = .ok (.getfield 22, 3) := by decide +kernel
theorem dX5_read_27 : decode cX5_read 27 = .ok (.invokestatic 50, 3) := by decide +kernel
theorem dX5_read_30 : decode cX5_read 30 = .ok (.aload_n 0, 1) := by decide +kernel
theorem dX5_read_31 : decode cX5_read 31 = .ok (.iconst 0, 1) := by decide +kernel
theorem dX5_read_32 : decode cX5_read 32 = .ok (.putfield 32, 3) := by decide +kernel
theorem dX5_read_35 : decode cX5_read 35 = .ok (.aload_n 0, 1) := by decide +kernel
theorem dX5_read_36 : decode cX5_read 36 = .ok (.iconst 0, 1) := by decide +kernel
theorem dX5_read_37 : decode cX5_read 37 = .ok (.putfield 41, 3) := by decide +kernel
theorem dX5_read_40 : decode cX5_read 40 = .ok (.aload_n 0, 1) := by decide +kernel
theorem dX5_read_41 : decode cX5_read 41 = .ok (.getfield 12, 3) := by decide +kernel
theorem dX5_read_44 : decode cX5_read 44 = .ok (.iconst 0, 1) := by decide +kernel
theorem dX5_read_45 : decode cX5_read 45 = .ok (.iconst 0, 1) := by decide +kernel
theorem dX5_read_46 : decode cX5_read 46 = .ok (.iconst 0, 1) := by decide +kernel
theorem dX5_read_47 : decode cX5_read 47 = .ok (.invokevirtual 56, 3) := by decide +kernel
theorem dX5_read_50 : decode cX5_read 50 = .ok (.aload_n 0, 1) := by decide +kernel
theorem dX5_read_51 : decode cX5_read 51 = .ok (.invokevirtual 59, 3) := by decide +kernel
theorem dX5_read_54 : decode cX5_read 54 = .ok (.iconst 0, 1) := by decide +kernel
theorem dX5_read_55 : decode cX5_read 55 = .ok (.istore_n 3, 1) := by decide +kernel
theorem dX5_read_56 : decode cX5_read 56 = .ok (.aload_n 0, 1) := by decide +kernel
theorem dX5_read_57 : decode cX5_read 57 = .ok (.getfield 26, 3) := by decide +kernel
theorem dX5_read_60 : decode cX5_read 60 = .ok (.ifCond .eq 50, 3) := by decide +kernel
theorem dX5_read_63 : decode cX5_read 63 = .ok (.iload_n 3, 1) := by decide +kernel
theorem dX5_read_64 : decode cX5_read 64 = .ok (.sipush 340, 3) := by decide +kernel
theorem dX5_read_67 : decode cX5_read 67 = .ok (.if_icmp .ge 43, 3) := by decide +kernel
theorem dX5_read_70 : decode cX5_read 70 = .ok (.aload_n 0, 1) := by decide +kernel
theorem dX5_read_71 : decode cX5_read 71 = .ok (.iload_n 3, 1) := by decide +kernel
theorem dX5_read_72 : decode cX5_read 72 = .ok (.ifCond .ne 7, 3) := by decide +kernel
theorem dX5_read_75 : decode cX5_read 75 = .ok (.iconst 1, 1) := by decide +kernel
theorem dX5_read_76 : decode cX5_read 76 = .ok (.goto 4, 3) := by decide +kernel
theorem dX5_read_79 : decode cX5_read 79 = .ok (.iconst 0, 1) := by decide +kernel
theorem dX5_read_80 : decode cX5_read 80 = .ok (.invokevirtual 62, 3) := by decide +kernel
theorem dX5_read_83 : decode cX5_read 83 = .ok (.ifCond .eq 10, 3) := by decide +kernel
theorem dX5_read_86 : decode cX5_read 86 = .ok (.aload_n 0, 1) := by decide +kernel
theorem dX5_read_87 : decode cX5_read 87 = .ok (.invokevirtual 66, 3) := by decide +kernel
theorem dX5_read_90 : decode cX5_read 90 = .ok (.ifCond .ne 10, 3) := by decide +kernel
theorem dX5_read_93 : decode cX5_read 93 = .ok (.iconst (-1), 1) := by decide +kernel
theorem dX5_read_94 : decode cX5_read 94 = .ok (.aload_n 0, 1) := by decide +kernel
theorem dX5_read_95 : decode cX5_read 95 = .ok (.getfield 29, 3) := by decide +kernel
theorem dX5_read_98 : decode cX5_read 98 = .ok (.isub, 1) := by decide +kernel
theorem dX5_read_99 : decode cX5_read 99 = .ok (.ireturn, 1) := by decide +kernel
theorem dX5_read_100 : decode cX5_read 100 = .ok (.iinc 3 1, 3) := by decide +kernel
theorem dX5_read_103 : decode cX5_read 103 = .ok (.aload_n 0, 1) := by decide +kernel
theorem dX5_read_104 : decode cX5_read 104 = .ok (.invokevirtual 59, 3) := by decide +kernel
theorem dX5_read_107 : decode cX5_read 107 = .ok (.goto (-51), 3) := by decide +kernel
theorem dX5_read_110 : decode cX5_read 110 = .ok (.iload_n 3, 1) := by decide +kernel
theorem dX5_read_111 : decode cX5_read 111 = .ok (.ireturn, 1) := by decide +kernel
set_option maxRecDepth 20000 in
theorem ggX5_readRow_X5_isWord : GoodIn wsX5_readRow wsX5_isWord := goodIn_r _ [5, 6, 7, 8, 9, 10, 11, 12, 13, 14, 15, 16, 17, 18, 19, 20, 21, 22, 23, 24, 25, 26, 27, 28, 29, 30, 31, 32, 33, 34, 35, 36, 37, 38, 39, 40, 41, 42, 43, 44, 45, 46, 47, 48, 49, 50, 51, 52, 53, 54, 55, 56, 57, 58, 148, 149, 150, 151, 152, 153, 154, 155, 156] (by decide +kernel) (by decide +kernel)
set_option maxRecDepth 20000 in
theorem gX5_readRow_X5_isWord : GoodIn wsX5_readRow (wsV RX5 72 RX5 yX5_isWord wsX5_isWord) := goodIn_app (goodIn_of _ (by decide +kernel)) ggX5_readRow_X5_isWord
set_option maxRecDepth 20000 in
theorem ggX5_readRow_X5_readCells : GoodIn wsX5_readRow wsX5_readCells := goodIn_r _ [62, 63, 64, 65, 66, 67, 4, 68, 6, 69, 70, 71, 72, 7, 73, 9, 8, 74, 75, 76, 77, 78, 79, 80, 81, 82, 83, 84, 85, 86, 87, 88, 89, 90, 91, 92, 93, 94, 95, 148, 149, 150, 151, 152, 153, 154, 155, 156, 157, 158, 159, 160] (by decide +kernel) (by decide +kernel)
set_option maxRecDepth 20000 in
theorem gX5_readRow_X5_readCells : GoodIn wsX5_readRow (wsV RX5 76 RX5 yX5_readCells wsX5_readCells) := goodIn_app (goodIn_of _ (by decide +kernel)) ggX5_readRow_X5_readCells
set_option maxRecDepth 20000 in
theorem ggX5_readRow_X5_fails : GoodIn wsX5_readRow wsX5_fails := goodIn_r _ [81, 82, 148, 149, 150, 151, 152, 153, 154, 155, 156] (by decide +kernel) (by decide +kernel)
set_option maxRecDepth 20000 in
theorem gX5_readRow_X5_fails : GoodIn wsX5_readRow (wsV RX5 79 RX5 yX5_fails wsX5_fails) := goodIn_app (goodIn_of _ (by decide +kernel)) ggX5_readRow_X5_fails
set_option maxRecDepth 20000 in
theorem ggX5_readRow_X5_readHole : GoodIn wsX5_readRow wsX5_readHole := goodIn_r _ [99, 63, 64, 65, 66, 67, 4, 68, 6, 69, 70, 71, 72, 7, 73, 9, 8, 74, 75, 76, 77, 78, 79, 80, 81, 82, 100, 101, 102, 86, 103, 89, 104, 105, 106, 107, 88, 108, 109, 110, 111, 112, 113, 114, 115, 116, 117, 118, 91, 119, 120, 121, 122, 123, 124, 125, 148, 149, 150, 151, 152, 153, 154, 155, 156, 157, 158, 159, 160] (by decide +kernel) (by decide +kernel)
set_option maxRecDepth 20000 in
theorem gX5_readRow_X5_readHole : GoodIn wsX5_readRow (wsV RX5 85 RX5 yX5_readHole wsX5_readHole) := goodIn_app (goodIn_of _ (by decide +kernel)) ggX5_readRow_X5_readHole
set_option maxRecDepth 20000 in
theorem ggX5_readRow_X5_readPair : GoodIn wsX5_readRow wsX5_readPair := goodIn_r _ [129, 63, 64, 130, 131, 120, 121, 122, 123, 124, 125, 78, 79, 80, 4, 81, 82, 65, 66, 67, 68, 6, 69, 70, 71, 72, 7, 73, 9, 8, 74, 75, 76, 77, 132, 133, 134, 86, 135, 90, 91, 136, 137, 138, 139, 112, 113, 114, 119, 148, 149, 150, 151, 152, 153, 154, 155, 156, 157, 158, 159, 160] (by decide +kernel) (by decide +kernel)
set_option maxRecDepth 20000 in
theorem gX5_readRow_X5_readPair : GoodIn wsX5_readRow (wsV RX5 90 RX5 yX5_readPair wsX5_readPair) := goodIn_app (goodIn_of _ (by decide +kernel)) ggX5_readRow_X5_readPair
set_option maxRecDepth 20000 in
theorem ggX5_readRow_X5_readPin : GoodIn wsX5_readRow wsX5_readPin := goodIn_r _ [143, 63, 130, 64, 65, 66, 67, 4, 68, 6, 69, 70, 71, 72, 7, 73, 9, 8, 74, 75, 76, 77, 78, 79, 80, 81, 82, 144, 145, 146, 86, 147, 91, 89, 136, 137, 138, 139, 90, 112, 113, 114, 104, 105, 106, 107, 88, 115, 116, 117, 118, 148, 149, 150, 151, 152, 153, 154, 155, 156, 157, 158, 159, 160] (by decide +kernel) (by decide +kernel)
set_option maxRecDepth 20000 in
theorem gX5_readRow_X5_readPin : GoodIn wsX5_readRow (wsV RX5 95 RX5 yX5_readPin wsX5_readPin) := goodIn_app (goodIn_of _ (by decide +kernel)) ggX5_readRow_X5_readPin
theorem dX5_readRow_0 : decode cX5_readRow 0 = .ok (.iload_n 1, 1) := by decide +kernel
theorem dX5_readRow_1 : decode cX5_readRow 1 = .ok (.ifCond .eq 25, 3) := by decide +kernel
theorem dX5_readRow_4 : decode cX5_readRow 4 = .ok (.aload_n 0, 1) := by decide +kernel
theorem dX5_readRow_5 : decode cX5_readRow 5 = .ok (.ldc 70, 2) := by decide +kernel
theorem dX5_readRow_7 : decode cX5_readRow 7 = .ok (.invokevirtual 72, 3) := by decide +kernel
theorem dX5_readRow_10 : decode cX5_readRow 10 = .ok (.ifCond .eq 10, 3) := by decide +kernel
theorem dX5_readRow_13 : decode cX5_readRow 13 = .ok (.aload_n 0, 1) := by decide +kernel
theorem dX5_readRow_14 : decode cX5_readRow 14 = .ok (.invokevirtual 76, 3) := by decide +kernel
theorem dX5_readRow_17 : decode cX5_readRow 17 = .ok (.goto 8, 3) := by decide +kernel
theorem dX5_readRow_20 : decode cX5_readRow 20 = .ok (.aload_n 0, 1) := by decide +kernel
theorem dX5_readRow_21 : decode cX5_readRow 21 = .ok (.iconst 1, 1) := by decide +kernel
theorem dX5_readRow_22 : decode cX5_readRow 22 = .ok (.invokevirtual 79, 3) := by decide +kernel
theorem dX5_readRow_25 : decode cX5_readRow 25 = .ok (.ireturn, 1) := by decide +kernel
theorem dX5_readRow_26 : decode cX5_readRow 26 = .ok (.aload_n 0, 1) := by decide +kernel
theorem dX5_readRow_27 : decode cX5_readRow 27 = .ok (.ldc 83, 2) := by decide +kernel
theorem dX5_readRow_29 : decode cX5_readRow 29 = .ok (.invokevirtual 72, 3) := by decide +kernel
theorem dX5_readRow_32 : decode cX5_readRow 32 = .ok (.ifCond .eq 8, 3) := by decide +kernel
theorem dX5_readRow_35 : decode cX5_readRow 35 = .ok (.aload_n 0, 1) := by decide +kernel
theorem dX5_readRow_36 : decode cX5_readRow 36 = .ok (.invokevirtual 85, 3) := by decide +kernel
theorem dX5_readRow_39 : decode cX5_readRow 39 = .ok (.ireturn, 1) := by decide +kernel
theorem dX5_readRow_40 : decode cX5_readRow 40 = .ok (.aload_n 0, 1) := by decide +kernel
theorem dX5_readRow_41 : decode cX5_readRow 41 = .ok (.ldc 88, 2) := by decide +kernel
theorem dX5_readRow_43 : decode cX5_readRow 43 = .ok (.invokevirtual 72, 3) := by decide +kernel
theorem dX5_readRow_46 : decode cX5_readRow 46 = .ok (.ifCond .ne 9, 3) := by decide +kernel
theorem dX5_readRow_49 : decode cX5_readRow 49 = .ok (.aload_n 0, 1) := by decide +kernel
theorem dX5_readRow_50 : decode cX5_readRow 50 = .ok (.iconst 1, 1) := by decide +kernel
theorem dX5_readRow_51 : decode cX5_readRow 51 = .ok (.invokevirtual 79, 3) := by decide +kernel
theorem dX5_readRow_54 : decode cX5_readRow 54 = .ok (.ireturn, 1) := by decide +kernel
theorem dX5_readRow_55 : decode cX5_readRow 55 = .ok (.aload_n 0, 1) := by decide +kernel
theorem dX5_readRow_56 : decode cX5_readRow 56 = .ok (.invokevirtual 90, 3) := by decide +kernel
theorem dX5_readRow_59 : decode cX5_readRow 59 = .ok (.ifCond .eq 23, 3) := by decide +kernel
theorem dX5_readRow_62 : decode cX5_readRow 62 = .ok (.aload_n 0, 1) := by decide +kernel
theorem dX5_readRow_63 : decode cX5_readRow 63 = .ok (.ldc 93, 2) := by decide +kernel
theorem dX5_readRow_65 : decode cX5_readRow 65 = .ok (.invokevirtual 72, 3) := by decide +kernel
theorem dX5_readRow_68 : decode cX5_readRow 68 = .ok (.ifCond .eq 10, 3) := by decide +kernel
theorem dX5_readRow_71 : decode cX5_readRow 71 = .ok (.aload_n 0, 1) := by decide +kernel
theorem dX5_readRow_72 : decode cX5_readRow 72 = .ok (.invokevirtual 95, 3) := by decide +kernel
theorem dX5_readRow_75 : decode cX5_readRow 75 = .ok (.ifCond .eq 7, 3) := by decide +kernel
theorem dX5_readRow_78 : decode cX5_readRow 78 = .ok (.iconst 1, 1) := by decide +kernel
theorem dX5_readRow_79 : decode cX5_readRow 79 = .ok (.goto 4, 3) := by decide +kernel
theorem dX5_readRow_82 : decode cX5_readRow 82 = .ok (.iconst 0, 1) := by decide +kernel
theorem dX5_readRow_83 : decode cX5_readRow 83 = .ok (.ireturn, 1) := by decide +kernel
set_option maxRecDepth 20000 in
theorem ggX5_readCells_X5_readNumber : GoodIn wsX5_readCells wsX5_readNumber := goodIn_r _ [7, 8, 2, 9, 10, 11, 6, 12, 13, 14, 15, 16, 17, 18, 19, 20, 21, 22, 23, 24, 25, 39, 40, 41, 42, 43, 44, 45, 46, 47] (by decide +kernel) (by decide +kernel)
set_option maxRecDepth 20000 in
theorem gX5_readCells_X5_readNumber : GoodIn wsX5_readCells (wsV RX5 98 RX5 yX5_readNumber wsX5_readNumber) := goodIn_app (goodIn_of _ (by decide +kernel)) ggX5_readCells_X5_readNumber
set_option maxRecDepth 20000 in
theorem ggX5_readCells_X2_begin : GoodIn wsX5_readCells wsX2_begin := goodIn_r _ [30, 31, 32, 33, 34, 35, 36, 37, 38, 48, 49, 50, 51] (by decide +kernel) (by decide +kernel)
set_option maxRecDepth 20000 in
theorem gX5_readCells_X2_begin : GoodIn wsX5_readCells (wsV RX5 56 RX2 yX2_begin wsX2_begin) := goodIn_app (goodIn_of _ (by decide +kernel)) ggX5_readCells_X2_begin
set_option maxRecDepth 20000 in
theorem ggX5_readCells_X5_advance : GoodIn wsX5_readCells wsX5_advance := goodIn_r _ [12, 13, 14, 15, 16, 8, 17, 18, 19, 6, 20, 2, 39, 40, 41, 42, 43, 44, 45, 46, 47] (by decide +kernel) (by decide +kernel)
set_option maxRecDepth 20000 in
theorem gX5_readCells_X5_advance : GoodIn wsX5_readCells (wsV RX5 59 RX5 yX5_advance wsX5_advance) := goodIn_app (goodIn_of _ (by decide +kernel)) ggX5_readCells_X5_advance
theorem dX5_readCells_0 : decode cX5_readCells 0 = .ok (.aload_n 0, 1) := by decide +kernel
theorem dX5_readCells_1 : decode cX5_readCells 1 = .ok (.bipush 18, 2) := by decide +kernel
theorem dX5_readCells_3 : decode cX5_readCells 3 = .ok (.invokevirtual 98, 3) := by decide +kernel
theorem dX5_readCells_6 : decode cX5_readCells 6 = .ok (.ifCond .ne 5, 3) := by decide +kernel
theorem dX5_readCells_9 : decode cX5_readCells 9 = .ok (.iconst 0, 1) := by decide +kernel
theorem dX5_readCells_10 : decode cX5_readCells 10 = .ok (.ireturn, 1) := by decide +kernel
theorem dX5_readCells_11 : decode cX5_readCells 11 = .ok (.aload_n 0, 1) := by decide +kernel
theorem dX5_readCells_12 : decode cX5_readCells 12 = .ok (.getfield 12, 3) := by decide +kernel
theorem dX5_readCells_15 : decode cX5_readCells 15 = .ok (.aload_n 0, 1) := by decide +kernel
theorem dX5_readCells_16 : decode cX5_readCells 16 = .ok (.getfield 35, 3) := by decide +kernel
theorem dX5_readCells_19 : decode cX5_readCells 19 = .ok (.iconst 0, 1) := by decide +kernel
theorem dX5_readCells_20 : decode cX5_readCells 20 = .ok (.iconst 0, 1) := by decide +kernel
theorem dX5_readCells_21 : decode cX5_readCells 21 = .ok (.invokevirtual 56, 3) := by decide +kernel
theorem dX5_readCells_24 : decode cX5_readCells 24 = .ok (.aload_n 0, 1) := by decide +kernel
theorem dX5_readCells_25 : decode cX5_readCells 25 = .ok (.invokevirtual 59, 3) := by decide +kernel
theorem dX5_readCells_28 : decode cX5_readCells 28 = .ok (.iconst 1, 1) := by decide +kernel
theorem dX5_readCells_29 : decode cX5_readCells 29 = .ok (.ireturn, 1) := by decide +kernel
set_option maxRecDepth 20000 in
theorem ggX5_readHole_X5_readNumber : GoodIn wsX5_readHole wsX5_readNumber := goodIn_r _ [7, 8, 2, 9, 10, 11, 6, 12, 13, 14, 15, 16, 17, 18, 19, 20, 21, 22, 23, 24, 25, 56, 57, 58, 59, 60, 61, 62, 63, 64] (by decide +kernel) (by decide +kernel)
set_option maxRecDepth 20000 in
theorem gX5_readHole_X5_readNumber : GoodIn wsX5_readHole (wsV RX5 98 RX5 yX5_readNumber wsX5_readNumber) := goodIn_app (goodIn_of _ (by decide +kernel)) ggX5_readHole_X5_readNumber
set_option maxRecDepth 20000 in
theorem ggX5_readHole_X2_setHole : GoodIn wsX5_readHole wsX2_setHole := goodIn_r _ [30, 31, 32, 33, 34, 29, 35, 36, 37, 38, 39, 40, 41, 42, 43, 44, 45, 46, 47, 48, 49, 50, 51, 52, 53, 54, 55, 65, 66, 67, 68] (by decide +kernel) (by decide +kernel)
set_option maxRecDepth 20000 in
theorem gX5_readHole_X2_setHole : GoodIn wsX5_readHole (wsV RX5 103 RX2 yX2_setHole wsX2_setHole) := goodIn_app (goodIn_of _ (by decide +kernel)) ggX5_readHole_X2_setHole
set_option maxRecDepth 20000 in
theorem ggX5_readHole_X5_fails : GoodIn wsX5_readHole wsX5_fails := goodIn_r _ [24, 25, 56, 57, 58, 59, 60, 61, 62, 63, 64] (by decide +kernel) (by decide +kernel)
set_option maxRecDepth 20000 in
theorem gX5_readHole_X5_fails : GoodIn wsX5_readHole (wsV RX5 79 RX5 yX5_fails wsX5_fails) := goodIn_app (goodIn_of _ (by decide +kernel)) ggX5_readHole_X5_fails
set_option maxRecDepth 20000 in
theorem ggX5_readHole_X5_advance : GoodIn wsX5_readHole wsX5_advance := goodIn_r _ [12, 13, 14, 15, 16, 8, 17, 18, 19, 6, 20, 2, 56, 57, 58, 59, 60, 61, 62, 63, 64] (by decide +kernel) (by decide +kernel)
set_option maxRecDepth 20000 in
theorem gX5_readHole_X5_advance : GoodIn wsX5_readHole (wsV RX5 59 RX5 yX5_advance wsX5_advance) := goodIn_app (goodIn_of _ (by decide +kernel)) ggX5_readHole_X5_advance
theorem dX5_readHole_0 : decode cX5_readHole 0 = .ok (.aload_n 0, 1) := by decide +kernel
theorem dX5_readHole_1 : decode cX5_readHole 1 = .ok (.aload_n 0, 1) := by decide +kernel
theorem dX5_readHole_2 : decode cX5_readHole 2 = .ok (.getfield 12, 3) := by decide +kernel
theorem dX5_readHole_5 : decode cX5_readHole 5 = .ok (.getfield 101, 3) := by decide +kernel
theorem dX5_readHole_8 : decode cX5_readHole 8 = .ok (.invokevirtual 98, 3) := by decide +kernel
theorem dX5_readHole_11 : decode cX5_readHole 11 = .ok (.ifCond .ne 5, 3) := by decide +kernel
theorem dX5_readHole_14 : decode cX5_readHole 14 = .ok (.iconst 0, 1) := by decide +kernel
theorem dX5_readHole_15 : decode cX5_readHole 15 = .ok (.ireturn, 1) := by decide +kernel
theorem dX5_readHole_16 : decode cX5_readHole 16 = .ok (.aload_n 0, 1) := by decide +kernel
theorem dX5_readHole_17 : decode cX5_readHole 17 = .ok (.getfield 12, 3) := by decide +kernel
theorem dX5_readHole_20 : decode cX5_readHole 20 = .ok (.aload_n 0, 1) := by decide +kernel
theorem dX5_readHole_21 : decode cX5_readHole 21 = .ok (.getfield 35, 3) := by decide +kernel
theorem dX5_readHole_24 : decode cX5_readHole 24 = .ok (.iconst 1, 1) := by decide +kernel
theorem dX5_readHole_25 : decode cX5_readHole 25 = .ok (.invokevirtual 103, 3) := by decide +kernel
theorem dX5_readHole_28 : decode cX5_readHole 28 = .ok (.iconst (-1), 1) := by decide +kernel
theorem dX5_readHole_29 : decode cX5_readHole 29 = .ok (.if_icmp .ne 9, 3) := by decide +kernel
theorem dX5_readHole_32 : decode cX5_readHole 32 = .ok (.aload_n 0, 1) := by decide +kernel
theorem dX5_readHole_33 : decode cX5_readHole 33 = .ok (.iconst 3, 1) := by decide +kernel
theorem dX5_readHole_34 : decode cX5_readHole 34 = .ok (.invokevirtual 79, 3) := by decide +kernel
theorem dX5_readHole_37 : decode cX5_readHole 37 = .ok (.ireturn, 1) := by decide +kernel
theorem dX5_readHole_38 : decode cX5_readHole 38 = .ok (.aload_n 0, 1) := by decide +kernel
theorem dX5_readHole_39 : decode cX5_readHole 39 = .ok (.invokevirtual 59, 3) := by decide +kernel
theorem dX5_readHole_42 : decode cX5_readHole 42 = .ok (.iconst 1, 1) := by decide +kernel
theorem dX5_readHole_43 : decode cX5_readHole 43 = .ok (.ireturn, 1) := by decide +kernel
set_option maxRecDepth 20000 in
theorem ggX5_readPair_J6_bitCount_0f7a4 : GoodIn wsX5_readPair wsJ6_bitCount_0f7a4 := goodIn_r _ [7, 8, 9, 10] (by decide +kernel) (by decide +kernel)
set_option maxRecDepth 20000 in
theorem gX5_readPair_J6_bitCount_0f7a4 : GoodIn wsX5_readPair (va_wsS RX5 110 yJ6_bitCount_0f7a4 wsJ6_bitCount_0f7a4) := goodIn_app (goodIn_of _ (by decide +kernel)) ggX5_readPair_J6_bitCount_0f7a4
set_option maxRecDepth 20000 in
theorem ggX5_readPair_X5_fails : GoodIn wsX5_readPair wsX5_fails := goodIn_r _ [15, 16, 49, 50, 51, 52, 53, 54, 55, 56, 57] (by decide +kernel) (by decide +kernel)
set_option maxRecDepth 20000 in
theorem gX5_readPair_X5_fails : GoodIn wsX5_readPair (wsV RX5 79 RX5 yX5_fails wsX5_fails) := goodIn_app (goodIn_of _ (by decide +kernel)) ggX5_readPair_X5_fails
set_option maxRecDepth 20000 in
theorem ggX5_readPair_X5_readNumber : GoodIn wsX5_readPair wsX5_readNumber := goodIn_r _ [20, 21, 2, 22, 23, 24, 14, 25, 26, 27, 28, 29, 30, 31, 32, 33, 11, 12, 13, 15, 16, 49, 50, 51, 52, 53, 54, 55, 56, 57] (by decide +kernel) (by decide +kernel)
set_option maxRecDepth 20000 in
theorem gX5_readPair_X5_readNumber : GoodIn wsX5_readPair (wsV RX5 98 RX5 yX5_readNumber wsX5_readNumber) := goodIn_app (goodIn_of _ (by decide +kernel)) ggX5_readPair_X5_readNumber
set_option maxRecDepth 20000 in
theorem ggX5_readPair_X2_setPair : GoodIn wsX5_readPair wsX2_setPair := goodIn_r _ [38, 39, 40, 41, 42, 43, 37, 44, 45, 46, 47, 48, 5, 6, 7, 8, 9, 10, 58, 59, 60, 61] (by decide +kernel) (by decide +kernel)
set_option maxRecDepth 20000 in
theorem gX5_readPair_X2_setPair : GoodIn wsX5_readPair (wsV RX5 116 RX2 yX2_setPair wsX2_setPair) := goodIn_app (goodIn_of _ (by decide +kernel)) ggX5_readPair_X2_setPair
set_option maxRecDepth 20000 in
theorem ggX5_readPair_X5_advance : GoodIn wsX5_readPair wsX5_advance := goodIn_r _ [25, 26, 27, 28, 29, 21, 30, 31, 32, 14, 33, 2, 49, 50, 51, 52, 53, 54, 55, 56, 57] (by decide +kernel) (by decide +kernel)
set_option maxRecDepth 20000 in
theorem gX5_readPair_X5_advance : GoodIn wsX5_readPair (wsV RX5 59 RX5 yX5_advance wsX5_advance) := goodIn_app (goodIn_of _ (by decide +kernel)) ggX5_readPair_X5_advance
theorem dX5_readPair_0 : decode cX5_readPair 0 = .ok (.aload_n 0, 1) := by decide +kernel
theorem dX5_readPair_1 : decode cX5_readPair 1 = .ok (.getfield 12, 3) := by decide +kernel
theorem dX5_readPair_4 : decode cX5_readPair 4 = .ok (.getfield 107, 3) := by decide +kernel
theorem dX5_readPair_7 : decode cX5_readPair 7 = .ok (.invokestatic 110, 3) := by decide +kernel
theorem dX5_readPair_10 : decode cX5_readPair 10 = .ok (.bipush 9, 2) := by decide +kernel
theorem dX5_readPair_12 : decode cX5_readPair 12 = .ok (.if_icmp .lt 9, 3) := by decide +kernel
theorem dX5_readPair_15 : decode cX5_readPair 15 = .ok (.aload_n 0, 1) := by decide +kernel
theorem dX5_readPair_16 : decode cX5_readPair 16 = .ok (.iconst 4, 1) := by decide +kernel
theorem dX5_readPair_17 : decode cX5_readPair 17 = .ok (.invokevirtual 79, 3) := by decide +kernel
theorem dX5_readPair_20 : decode cX5_readPair 20 = .ok (.ireturn, 1) := by decide +kernel
theorem dX5_readPair_21 : decode cX5_readPair 21 = .ok (.aload_n 0, 1) := by decide +kernel
theorem dX5_readPair_22 : decode cX5_readPair 22 = .ok (.bipush 15, 2) := by decide +kernel
theorem dX5_readPair_24 : decode cX5_readPair 24 = .ok (.invokevirtual 98, 3) := by decide +kernel
theorem dX5_readPair_27 : decode cX5_readPair 27 = .ok (.ifCond .ne 5, 3) := by decide +kernel
theorem dX5_readPair_30 : decode cX5_readPair 30 = .ok (.iconst 0, 1) := by decide +kernel
theorem dX5_readPair_31 : decode cX5_readPair 31 = .ok (.ireturn, 1) := by decide +kernel
theorem dX5_readPair_32 : decode cX5_readPair 32 = .ok (.aload_n 0, 1) := by decide +kernel
theorem dX5_readPair_33 : decode cX5_readPair 33 = .ok (.aload_n 0, 1) := by decide +kernel
theorem dX5_readPair_34 : decode cX5_readPair 34 = .ok (.getfield 35, 3) := by decide +kernel
theorem dX5_readPair_37 : decode cX5_readPair 37 = .ok (.putfield 38, 3) := by decide +kernel
theorem dX5_readPair_40 : decode cX5_readPair 40 = .ok (.aload_n 0, 1) := by decide +kernel
theorem dX5_readPair_41 : decode cX5_readPair 41 = .ok (.getfield 12, 3) := by decide +kernel
theorem dX5_readPair_44 : decode cX5_readPair 44 = .ok (.aload_n 0, 1) := by decide +kernel
theorem dX5_readPair_45 : decode cX5_readPair 45 = .ok (.getfield 38, 3) := by decide +kernel
theorem dX5_readPair_48 : decode cX5_readPair 48 = .ok (.iconst 1, 1) := by decide +kernel
theorem dX5_readPair_49 : decode cX5_readPair 49 = .ok (.invokevirtual 116, 3) := by decide +kernel
theorem dX5_readPair_52 : decode cX5_readPair 52 = .ok (.iconst (-1), 1) := by decide +kernel
theorem dX5_readPair_53 : decode cX5_readPair 53 = .ok (.if_icmp .ne 9, 3) := by decide +kernel
theorem dX5_readPair_56 : decode cX5_readPair 56 = .ok (.aload_n 0, 1) := by decide +kernel
theorem dX5_readPair_57 : decode cX5_readPair 57 = .ok (.iconst 3, 1) := by decide +kernel
theorem dX5_readPair_58 : decode cX5_readPair 58 = .ok (.invokevirtual 79, 3) := by decide +kernel
theorem dX5_readPair_61 : decode cX5_readPair 61 = .ok (.ireturn, 1) := by decide +kernel
theorem dX5_readPair_62 : decode cX5_readPair 62 = .ok (.aload_n 0, 1) := by decide +kernel
theorem dX5_readPair_63 : decode cX5_readPair 63 = .ok (.invokevirtual 59, 3) := by decide +kernel
theorem dX5_readPair_66 : decode cX5_readPair 66 = .ok (.iconst 1, 1) := by decide +kernel
theorem dX5_readPair_67 : decode cX5_readPair 67 = .ok (.ireturn, 1) := by decide +kernel
set_option maxRecDepth 20000 in
theorem ggX5_readPin_X5_readNumber : GoodIn wsX5_readPin wsX5_readNumber := goodIn_r _ [8, 9, 3, 10, 11, 12, 7, 13, 14, 15, 16, 17, 18, 19, 20, 21, 22, 23, 24, 25, 26, 51, 52, 53, 54, 55, 56, 57, 58, 59] (by decide +kernel) (by decide +kernel)
set_option maxRecDepth 20000 in
theorem gX5_readPin_X5_readNumber : GoodIn wsX5_readPin (wsV RX5 98 RX5 yX5_readNumber wsX5_readNumber) := goodIn_app (goodIn_of _ (by decide +kernel)) ggX5_readPin_X5_readNumber
set_option maxRecDepth 20000 in
theorem ggX5_readPin_X2_setPin : GoodIn wsX5_readPin wsX2_setPin := goodIn_r _ [31, 32, 33, 34, 35, 36, 30, 37, 38, 39, 40, 41, 42, 43, 44, 45, 46, 47, 48, 49, 50, 60, 61, 62, 63] (by decide +kernel) (by decide +kernel)
set_option maxRecDepth 20000 in
theorem gX5_readPin_X2_setPin : GoodIn wsX5_readPin (wsV RX5 119 RX2 yX2_setPin wsX2_setPin) := goodIn_app (goodIn_of _ (by decide +kernel)) ggX5_readPin_X2_setPin
set_option maxRecDepth 20000 in
theorem ggX5_readPin_X5_fails : GoodIn wsX5_readPin wsX5_fails := goodIn_r _ [25, 26, 51, 52, 53, 54, 55, 56, 57, 58, 59] (by decide +kernel) (by decide +kernel)
set_option maxRecDepth 20000 in
theorem gX5_readPin_X5_fails : GoodIn wsX5_readPin (wsV RX5 79 RX5 yX5_fails wsX5_fails) := goodIn_app (goodIn_of _ (by decide +kernel)) ggX5_readPin_X5_fails
set_option maxRecDepth 20000 in
theorem ggX5_readPin_X5_advance : GoodIn wsX5_readPin wsX5_advance := goodIn_r _ [13, 14, 15, 16, 17, 9, 18, 19, 20, 7, 21, 3, 51, 52, 53, 54, 55, 56, 57, 58, 59] (by decide +kernel) (by decide +kernel)
set_option maxRecDepth 20000 in
theorem gX5_readPin_X5_advance : GoodIn wsX5_readPin (wsV RX5 59 RX5 yX5_advance wsX5_advance) := goodIn_app (goodIn_of _ (by decide +kernel)) ggX5_readPin_X5_advance
theorem dX5_readPin_0 : decode cX5_readPin 0 = .ok (.aload_n 0, 1) := by decide +kernel
theorem dX5_readPin_1 : decode cX5_readPin 1 = .ok (.aload_n 0, 1) := by decide +kernel
theorem dX5_readPin_2 : decode cX5_readPin 2 = .ok (.getfield 12, 3) := by decide +kernel
theorem dX5_readPin_5 : decode cX5_readPin 5 = .ok (.getfield 101, 3) := by decide +kernel
theorem dX5_readPin_8 : decode cX5_readPin 8 = .ok (.aload_n 0, 1) := by decide +kernel
theorem dX5_readPin_9 : decode cX5_readPin 9 = .ok (.getfield 38, 3) := by decide +kernel
theorem dX5_readPin_12 : decode cX5_readPin 12 = .ok (.isub, 1) := by decide +kernel
theorem dX5_readPin_13 : decode cX5_readPin 13 = .ok (.invokevirtual 98, 3) := by decide +kernel
theorem dX5_readPin_16 : decode cX5_readPin 16 = .ok (.ifCond .ne 5, 3) := by decide +kernel
theorem dX5_readPin_19 : decode cX5_readPin 19 = .ok (.iconst 0, 1) := by decide +kernel
theorem dX5_readPin_20 : decode cX5_readPin 20 = .ok (.ireturn, 1) := by decide +kernel
theorem dX5_readPin_21 : decode cX5_readPin 21 = .ok (.aload_n 0, 1) := by decide +kernel
theorem dX5_readPin_22 : decode cX5_readPin 22 = .ok (.getfield 12, 3) := by decide +kernel
theorem dX5_readPin_25 : decode cX5_readPin 25 = .ok (.aload_n 0, 1) := by decide +kernel
theorem dX5_readPin_26 : decode cX5_readPin 26 = .ok (.getfield 38, 3) := by decide +kernel
theorem dX5_readPin_29 : decode cX5_readPin 29 = .ok (.aload_n 0, 1) := by decide +kernel
theorem dX5_readPin_30 : decode cX5_readPin 30 = .ok (.getfield 35, 3) := by decide +kernel
theorem dX5_readPin_33 : decode cX5_readPin 33 = .ok (.invokevirtual 119, 3) := by decide +kernel
theorem dX5_readPin_36 : decode cX5_readPin 36 = .ok (.ifCond .eq 9, 3) := by decide +kernel
theorem dX5_readPin_39 : decode cX5_readPin 39 = .ok (.aload_n 0, 1) := by decide +kernel
theorem dX5_readPin_40 : decode cX5_readPin 40 = .ok (.iconst 3, 1) := by decide +kernel
theorem dX5_readPin_41 : decode cX5_readPin 41 = .ok (.invokevirtual 79, 3) := by decide +kernel
theorem dX5_readPin_44 : decode cX5_readPin 44 = .ok (.ireturn, 1) := by decide +kernel
theorem dX5_readPin_45 : decode cX5_readPin 45 = .ok (.aload_n 0, 1) := by decide +kernel
theorem dX5_readPin_46 : decode cX5_readPin 46 = .ok (.invokevirtual 59, 3) := by decide +kernel
theorem dX5_readPin_49 : decode cX5_readPin 49 = .ok (.iconst 1, 1) := by decide +kernel
theorem dX5_readPin_50 : decode cX5_readPin 50 = .ok (.ireturn, 1) := by decide +kernel
set_option maxRecDepth 20000 in
theorem ggX5_readNumber_X5_advance : GoodIn wsX5_readNumber wsX5_advance := goodIn_r _ [7, 8, 9, 10, 11, 1, 12, 13, 14, 6, 15, 2, 21, 22, 23, 24, 25, 26, 27, 28, 29] (by decide +kernel) (by decide +kernel)
set_option maxRecDepth 20000 in
theorem gX5_readNumber_X5_advance : GoodIn wsX5_readNumber (wsV RX5 59 RX5 yX5_advance wsX5_advance) := goodIn_app (goodIn_of _ (by decide +kernel)) ggX5_readNumber_X5_advance
set_option maxRecDepth 20000 in
theorem ggX5_readNumber_X5_fails : GoodIn wsX5_readNumber wsX5_fails := goodIn_r _ [19, 20, 21, 22, 23, 24, 25, 26, 27, 28, 29] (by decide +kernel) (by decide +kernel)
set_option maxRecDepth 20000 in
theorem gX5_readNumber_X5_fails : GoodIn wsX5_readNumber (wsV RX5 79 RX5 yX5_fails wsX5_fails) := goodIn_app (goodIn_of _ (by decide +kernel)) ggX5_readNumber_X5_fails
theorem dX5_readNumber_0 : decode cX5_readNumber 0 = .ok (.aload_n 0, 1) := by decide +kernel
theorem dX5_readNumber_1 : decode cX5_readNumber 1 = .ok (.invokevirtual 59, 3) := by decide +kernel
theorem dX5_readNumber_4 : decode cX5_readNumber 4 = .ok (.aload_n 0, 1) := by decide +kernel
theorem dX5_readNumber_5 : decode cX5_readNumber 5 = .ok (.getfield 26, 3) := by decide +kernel
theorem dX5_readNumber_8 : decode cX5_readNumber 8 = .ok (.iconst 2, 1) := by decide +kernel
theorem dX5_readNumber_9 : decode cX5_readNumber 9 = .ok (.if_icmp .eq 9, 3) := by decide +kernel
theorem dX5_readNumber_12 : decode cX5_readNumber 12 = .ok (.aload_n 0, 1) := by decide +kernel
theorem dX5_readNumber_13 : decode cX5_readNumber 13 = .ok (.iconst 1, 1) := by decide +kernel
theorem dX5_readNumber_14 : decode cX5_readNumber 14 = .ok (.invokevirtual 79, 3) := by decide +kernel
theorem dX5_readNumber_17 : decode cX5_readNumber 17 = .ok (.ireturn, 1) := by decide +kernel
theorem dX5_readNumber_18 : decode cX5_readNumber 18 = .ok (.aload_n 0, 1) := by decide +kernel
theorem dX5_readNumber_19 : decode cX5_readNumber 19 = .ok (.getfield 35, 3) := by decide +kernel
theorem dX5_readNumber_22 : decode cX5_readNumber 22 = .ok (.iconst 1, 1) := by decide +kernel
theorem dX5_readNumber_23 : decode cX5_readNumber 23 = .ok (.if_icmp .lt 11, 3) := by decide +kernel
theorem dX5_readNumber_26 : decode cX5_readNumber 26 = .ok (.aload_n 0, 1) := by decide +kernel
theorem dX5_readNumber_27 : decode cX5_readNumber 27 = .ok (.getfield 35, 3) := by decide +kernel
theorem dX5_readNumber_30 : decode cX5_readNumber 30 = .ok (.iload_n 1, 1) := by decide +kernel
theorem dX5_readNumber_31 : decode cX5_readNumber 31 = .ok (.if_icmp .le 11, 3) := by decide +kernel
theorem dX5_readNumber_34 : decode cX5_readNumber 34 = .ok (.aload_n 0, 1) := by decide +kernel
theorem dX5_readNumber_35 : decode cX5_readNumber 35 = .ok (.iconst 2, 1) := by decide +kernel
theorem dX5_readNumber_36 : decode cX5_readNumber 36 = .ok (.invokevirtual 79, 3) := by decide +kernel
theorem dX5_readNumber_39 : decode cX5_readNumber 39 = .ok (.ifCond .eq 7, 3) := by decide +kernel
theorem dX5_readNumber_42 : decode cX5_readNumber 42 = .ok (.iconst 1, 1) := by decide +kernel
theorem dX5_readNumber_43 : decode cX5_readNumber 43 = .ok (.goto 4, 3) := by decide +kernel
theorem dX5_readNumber_46 : decode cX5_readNumber 46 = .ok (.iconst 0, 1) := by decide +kernel
theorem dX5_readNumber_47 : decode cX5_readNumber 47 = .ok (.ireturn, 1) := by decide +kernel
set_option maxRecDepth 20000 in
theorem ggX5_endsRow_X5_fails : GoodIn wsX5_endsRow wsX5_fails := goodIn_r _ [6, 7, 8, 9, 10, 11, 12, 13, 14, 15, 16] (by decide +kernel) (by decide +kernel)
set_option maxRecDepth 20000 in
theorem gX5_endsRow_X5_fails : GoodIn wsX5_endsRow (wsV RX5 79 RX5 yX5_fails wsX5_fails) := goodIn_app (goodIn_of _ (by decide +kernel)) ggX5_endsRow_X5_fails
theorem dX5_endsRow_0 : decode cX5_endsRow 0 = .ok (.aload_n 0, 1) := by decide +kernel
theorem dX5_endsRow_1 : decode cX5_endsRow 1 = .ok (.getfield 26, 3) := by decide +kernel
theorem dX5_endsRow_4 : decode cX5_endsRow 4 = .ok (.iconst 3, 1) := by decide +kernel
theorem dX5_endsRow_5 : decode cX5_endsRow 5 = .ok (.if_icmp .eq 11, 3) := by decide +kernel
theorem dX5_endsRow_8 : decode cX5_endsRow 8 = .ok (.aload_n 0, 1) := by decide +kernel
theorem dX5_endsRow_9 : decode cX5_endsRow 9 = .ok (.iconst 1, 1) := by decide +kernel
theorem dX5_endsRow_10 : decode cX5_endsRow 10 = .ok (.invokevirtual 79, 3) := by decide +kernel
theorem dX5_endsRow_13 : decode cX5_endsRow 13 = .ok (.ifCond .eq 7, 3) := by decide +kernel
theorem dX5_endsRow_16 : decode cX5_endsRow 16 = .ok (.iconst 1, 1) := by decide +kernel
theorem dX5_endsRow_17 : decode cX5_endsRow 17 = .ok (.goto 4, 3) := by decide +kernel
theorem dX5_endsRow_20 : decode cX5_endsRow 20 = .ok (.iconst 0, 1) := by decide +kernel
theorem dX5_endsRow_21 : decode cX5_endsRow 21 = .ok (.ireturn, 1) := by decide +kernel
theorem dX5_fails_0 : decode cX5_fails 0 = .ok (.aload_n 0, 1) := by decide +kernel
theorem dX5_fails_1 : decode cX5_fails 1 = .ok (.iload_n 1, 1) := by decide +kernel
theorem dX5_fails_2 : decode cX5_fails 2 = .ok (.putfield 41, 3) := by decide +kernel
theorem dX5_fails_5 : decode cX5_fails 5 = .ok (.iconst 0, 1) := by decide +kernel
theorem dX5_fails_6 : decode cX5_fails 6 = .ok (.ireturn, 1) := by decide +kernel
set_option maxRecDepth 20000 in
theorem ggX5_isWord_J0_length_8abf5 : GoodIn wsX5_isWord wsJ0_length_8abf5 := goodIn_r _ [9, 10, 11, 12, 13, 8, 14, 15, 16] (by decide +kernel) (by decide +kernel)
set_option maxRecDepth 20000 in
theorem gX5_isWord_J0_length_8abf5 : GoodIn wsX5_isWord (wsV RX5 122 RJ0 yJ0_length_8abf5 wsJ0_length_8abf5) := goodIn_app (goodIn_of _ (by decide +kernel)) ggX5_isWord_J0_length_8abf5
set_option maxRecDepth 20000 in
theorem ggX5_isWord_J0_charAt_5068e : GoodIn wsX5_isWord wsJ0_charAt_5068e := goodIn_r _ [20, 10, 21, 22, 23, 8, 24, 15, 16, 25, 26, 27, 28, 29, 30, 31, 32, 33, 34, 35, 36, 37, 38, 39, 40, 41, 42, 43, 44, 45, 46, 47, 48, 49, 50, 51, 52, 53] (by decide +kernel) (by decide +kernel)
set_option maxRecDepth 20000 in
theorem gX5_isWord_J0_charAt_5068e : GoodIn wsX5_isWord (wsV RX5 127 RJ0 yJ0_charAt_5068e wsJ0_charAt_5068e) := goodIn_app (goodIn_of _ (by decide +kernel)) ggX5_isWord_J0_charAt_5068e
theorem dX5_isWord_0 : decode cX5_isWord 0 = .ok (.aload_n 0, 1) := by decide +kernel
theorem dX5_isWord_1 : decode cX5_isWord 1 = .ok (.getfield 26, 3) := by decide +kernel
theorem dX5_isWord_4 : decode cX5_isWord 4 = .ok (.iconst 1, 1) := by decide +kernel
theorem dX5_isWord_5 : decode cX5_isWord 5 = .ok (.if_icmp .ne 19, 3) := by decide +kernel
theorem dX5_isWord_8 : decode cX5_isWord 8 = .ok (.aload_n 0, 1) := by decide +kernel
theorem dX5_isWord_9 : decode cX5_isWord 9 = .ok (.getfield 32, 3) := by decide +kernel
theorem dX5_isWord_12 : decode cX5_isWord 12 = .ok (.aload_n 0, 1) := by decide +kernel
theorem dX5_isWord_13 : decode cX5_isWord 13 = .ok (.getfield 29, 3) := by decide +kernel
theorem dX5_isWord_16 : decode cX5_isWord 16 = .ok (.isub, 1) := by decide +kernel
theorem dX5_isWord_17 : decode cX5_isWord 17 = .ok (.aload_n 1, 1) := by decide +kernel
theorem dX5_isWord_18 : decode cX5_isWord 18 = .ok (.invokevirtual 122, 3) := by decide +kernel
theorem dX5_isWord_21 : decode cX5_isWord 21 = .ok (.if_icmp .eq 5, 3) := by decide +kernel
theorem dX5_isWord_24 : decode cX5_isWord 24 = .ok (.iconst 0, 1) := by decide +kernel
theorem dX5_isWord_25 : decode cX5_isWord 25 = .ok (.ireturn, 1) := by decide +kernel
theorem dX5_isWord_26 : decode cX5_isWord 26 = .ok (.iconst 0, 1) := by decide +kernel
theorem dX5_isWord_27 : decode cX5_isWord 27 = .ok (.istore_n 2, 1) := by decide +kernel
theorem dX5_isWord_28 : decode cX5_isWord 28 = .ok (.iload_n 2, 1) := by decide +kernel
theorem dX5_isWord_29 : decode cX5_isWord 29 = .ok (.aload_n 1, 1) := by decide +kernel
theorem dX5_isWord_30 : decode cX5_isWord 30 = .ok (.invokevirtual 122, 3) := by decide +kernel
theorem dX5_isWord_33 : decode cX5_isWord 33 = .ok (.if_icmp .ge 30, 3) := by decide +kernel
theorem dX5_isWord_36 : decode cX5_isWord 36 = .ok (.aload_n 0, 1) := by decide +kernel
theorem dX5_isWord_37 : decode cX5_isWord 37 = .ok (.getfield 18, 3) := by decide +kernel
theorem dX5_isWord_40 : decode cX5_isWord 40 = .ok (.aload_n 0, 1) := by decide +kernel
theorem dX5_isWord_41 : decode cX5_isWord 41 = .ok (.getfield 29, 3) := by decide +kernel
theorem dX5_isWord_44 : decode cX5_isWord 44 = .ok (.iload_n 2, 1) := by decide +kernel
theorem dX5_isWord_45 : decode cX5_isWord 45 = .ok (.iadd, 1) := by decide +kernel
theorem dX5_isWord_46 : decode cX5_isWord 46 = .ok (.baload, 1) := by decide +kernel
theorem dX5_isWord_47 : decode cX5_isWord 47 = .ok (.aload_n 1, 1) := by decide +kernel
theorem dX5_isWord_48 : decode cX5_isWord 48 = .ok (.iload_n 2, 1) := by decide +kernel
theorem dX5_isWord_49 : decode cX5_isWord 49 = .ok (.invokevirtual 127, 3) := by decide +kernel
theorem dX5_isWord_52 : decode cX5_isWord 52 = .ok (.if_icmp .eq 5, 3) := by decide +kernel
theorem dX5_isWord_55 : decode cX5_isWord 55 = .ok (.iconst 0, 1) := by decide +kernel
theorem dX5_isWord_56 : decode cX5_isWord 56 = .ok (.ireturn, 1) := by decide +kernel
theorem dX5_isWord_57 : decode cX5_isWord 57 = .ok (.iinc 2 1, 3) := by decide +kernel
theorem dX5_isWord_60 : decode cX5_isWord 60 = .ok (.goto (-32), 3) := by decide +kernel
theorem dX5_isWord_63 : decode cX5_isWord 63 = .ok (.iconst 1, 1) := by decide +kernel
theorem dX5_isWord_64 : decode cX5_isWord 64 = .ok (.ireturn, 1) := by decide +kernel
set_option maxRecDepth 20000 in
theorem ggX5_advance_X5_advanceRun : GoodIn wsX5_advance wsX5_advanceRun := goodIn_r _ [10, 11, 1, 2, 3, 5, 12, 13, 14, 15, 16, 17, 18, 19, 20] (by decide +kernel) (by decide +kernel)
set_option maxRecDepth 20000 in
theorem gX5_advance_X5_advanceRun : GoodIn wsX5_advance (wsV RX5 131 RX5 yX5_advanceRun wsX5_advanceRun) := goodIn_app (goodIn_of _ (by decide +kernel)) ggX5_advance_X5_advanceRun
theorem dX5_advance_0 : decode cX5_advance 0 = .ok (.aload_n 0, 1) := by decide +kernel
theorem dX5_advance_1 : decode cX5_advance 1 = .ok (.getfield 32, 3) := by decide +kernel
theorem dX5_advance_4 : decode cX5_advance 4 = .ok (.aload_n 0, 1) := by decide +kernel
theorem dX5_advance_5 : decode cX5_advance 5 = .ok (.getfield 22, 3) := by decide +kernel
theorem dX5_advance_8 : decode cX5_advance 8 = .ok (.if_icmp .ge 44, 3) := by decide +kernel
theorem dX5_advance_11 : decode cX5_advance 11 = .ok (.aload_n 0, 1) := by decide +kernel
theorem dX5_advance_12 : decode cX5_advance 12 = .ok (.getfield 18, 3) := by decide +kernel
theorem dX5_advance_15 : decode cX5_advance 15 = .ok (.aload_n 0, 1) := by decide +kernel
theorem dX5_advance_16 : decode cX5_advance 16 = .ok (.getfield 32, 3) := by decide +kernel
theorem dX5_advance_19 : decode cX5_advance 19 = .ok (.baload, 1) := by decide +kernel
theorem dX5_advance_20 : decode cX5_advance 20 = .ok (.bipush 32, 2) := by decide +kernel
theorem dX5_advance_22 : decode cX5_advance 22 = .ok (.if_icmp .eq 17, 3) := by decide +kernel
theorem dX5_advance_25 : decode cX5_advance 25 = .ok (.aload_n 0, 1) := by decide +kernel
theorem dX5_advance_26 : decode cX5_advance 26 = .ok (.getfield 18, 3) := by decide +kernel
theorem dX5_advance_29 : decode cX5_advance 29 = .ok (.aload_n 0, 1) := by decide +kernel
theorem dX5_advance_30 : decode cX5_advance 30 = .ok (.getfield 32, 3) := by decide +kernel
theorem dX5_advance_33 : decode cX5_advance 33 = .ok (.baload, 1) := by decide +kernel
theorem dX5_advance_34 : decode cX5_advance 34 = .ok (.bipush 10, 2) := by decide +kernel
theorem dX5_advance_36 : decode cX5_advance 36 = .ok (.if_icmp .ne 16, 3) := by decide +kernel
theorem dX5_advance_39 : decode cX5_advance 39 = .ok (.aload_n 0, 1) := by decide +kernel
theorem dX5_advance_40 : decode cX5_advance 40 = .ok (.dup, 1) := by decide +kernel
theorem dX5_advance_41 : decode cX5_advance 41 = .ok (.getfield 32, 3) := by decide +kernel
theorem dX5_advance_44 : decode cX5_advance 44 = .ok (.iconst 1, 1) := by decide +kernel
theorem dX5_advance_45 : decode cX5_advance 45 = .ok (.iadd, 1) := by decide +kernel
theorem dX5_advance_46 : decode cX5_advance 46 = .ok (.putfield 32, 3) := by decide +kernel
theorem dX5_advance_49 : decode cX5_advance 49 = .ok (.goto (-49), 3) := by decide +kernel
theorem dX5_advance_52 : decode cX5_advance 52 = .ok (.aload_n 0, 1) := by decide +kernel
theorem dX5_advance_53 : decode cX5_advance 53 = .ok (.aload_n 0, 1) := by decide +kernel
theorem dX5_advance_54 : decode cX5_advance 54 = .ok (.getfield 32, 3) := by decide +kernel
theorem dX5_advance_57 : decode cX5_advance 57 = .ok (.putfield 29, 3) := by decide +kernel
theorem dX5_advance_60 : decode cX5_advance 60 = .ok (.aload_n 0, 1) := by decide +kernel
theorem dX5_advance_61 : decode cX5_advance 61 = .ok (.getfield 22, 3) := by decide +kernel
theorem dX5_advance_64 : decode cX5_advance 64 = .ok (.sipush 300, 3) := by decide +kernel
theorem dX5_advance_67 : decode cX5_advance 67 = .ok (.if_icmp .le 28, 3) := by decide +kernel
theorem dX5_advance_70 : decode cX5_advance 70 = .ok (.aload_n 0, 1) := by decide +kernel
theorem dX5_advance_71 : decode cX5_advance 71 = .ok (.getfield 29, 3) := by decide +kernel
theorem dX5_advance_74 : decode cX5_advance 74 = .ok (.sipush 300, 3) := by decide +kernel
theorem dX5_advance_77 : decode cX5_advance 77 = .ok (.if_icmp .lt 18, 3) := by decide +kernel
theorem dX5_advance_80 : decode cX5_advance 80 = .ok (.aload_n 0, 1) := by decide +kernel
theorem dX5_advance_81 : decode cX5_advance 81 = .ok (.sipush 300, 3) := by decide +kernel
theorem dX5_advance_84 : decode cX5_advance 84 = .ok (.putfield 29, 3) := by decide +kernel
theorem dX5_advance_87 : decode cX5_advance 87 = .ok (.aload_n 0, 1) := by decide +kernel
theorem dX5_advance_88 : decode cX5_advance 88 = .ok (.iconst 4, 1) := by decide +kernel
theorem dX5_advance_89 : decode cX5_advance 89 = .ok (.putfield 26, 3) := by decide +kernel
theorem dX5_advance_92 : decode cX5_advance 92 = .ok (.goto 58, 3) := by decide +kernel
theorem dX5_advance_95 : decode cX5_advance 95 = .ok (.aload_n 0, 1) := by decide +kernel
theorem dX5_advance_96 : decode cX5_advance 96 = .ok (.getfield 29, 3) := by decide +kernel
theorem dX5_advance_99 : decode cX5_advance 99 = .ok (.aload_n 0, 1) := by decide +kernel
theorem dX5_advance_100 : decode cX5_advance 100 = .ok (.getfield 22, 3) := by decide +kernel
theorem dX5_advance_103 : decode cX5_advance 103 = .ok (.if_icmp .lt 11, 3) := by decide +kernel
theorem dX5_advance_106 : decode cX5_advance 106 = .ok (.aload_n 0, 1) := by decide +kernel
theorem dX5_advance_107 : decode cX5_advance 107 = .ok (.iconst 0, 1) := by decide +kernel
theorem dX5_advance_108 : decode cX5_advance 108 = .ok (.putfield 26, 3) := by decide +kernel
theorem dX5_advance_111 : decode cX5_advance 111 = .ok (.goto 39, 3) := by decide +kernel
theorem dX5_advance_114 : decode cX5_advance 114 = .ok (.aload_n 0, 1) := by decide +kernel
theorem dX5_advance_115 : decode cX5_advance 115 = .ok (.getfield 18, 3) := by decide +kernel
theorem dX5_advance_118 : decode cX5_advance 118 = .ok (.aload_n 0, 1) := by decide +kernel
theorem dX5_advance_119 : decode cX5_advance 119 = .ok (.getfield 29, 3) := by decide +kernel
theorem dX5_advance_122 : decode cX5_advance 122 = .ok (.baload, 1) := by decide +kernel
theorem dX5_advance_123 : decode cX5_advance 123 = .ok (.bipush 59, 2) := by decide +kernel
theorem dX5_advance_125 : decode cX5_advance 125 = .ok (.if_icmp .ne 21, 3) := by decide +kernel
theorem dX5_advance_128 : decode cX5_advance 128 = .ok (.aload_n 0, 1) := by decide +kernel
theorem dX5_advance_129 : decode cX5_advance 129 = .ok (.iconst 3, 1) := by decide +kernel
theorem dX5_advance_130 : decode cX5_advance 130 = .ok (.putfield 26, 3) := by decide +kernel
theorem dX5_advance_133 : decode cX5_advance 133 = .ok (.aload_n 0, 1) := by decide +kernel
theorem dX5_advance_134 : decode cX5_advance 134 = .ok (.dup, 1) := by decide +kernel
theorem dX5_advance_135 : decode cX5_advance 135 = .ok (.getfield 32, 3) := by decide +kernel
theorem dX5_advance_138 : decode cX5_advance 138 = .ok (.iconst 1, 1) := by decide +kernel
theorem dX5_advance_139 : decode cX5_advance 139 = .ok (.iadd, 1) := by decide +kernel
theorem dX5_advance_140 : decode cX5_advance 140 = .ok (.putfield 32, 3) := by decide +kernel
theorem dX5_advance_143 : decode cX5_advance 143 = .ok (.goto 7, 3) := by decide +kernel
theorem dX5_advance_146 : decode cX5_advance 146 = .ok (.aload_n 0, 1) := by decide +kernel
theorem dX5_advance_147 : decode cX5_advance 147 = .ok (.invokevirtual 131, 3) := by decide +kernel
theorem dX5_advance_150 : decode cX5_advance 150 = .ok (.return_, 1) := by decide +kernel
theorem dX5_advanceRun_0 : decode cX5_advanceRun 0 = .ok (.iconst 0, 1) := by decide +kernel
theorem dX5_advanceRun_1 : decode cX5_advanceRun 1 = .ok (.istore_n 1, 1) := by decide +kernel
theorem dX5_advanceRun_2 : decode cX5_advanceRun 2 = .ok (.iconst 0, 1) := by decide +kernel
theorem dX5_advanceRun_3 : decode cX5_advanceRun 3 = .ok (.istore_n 2, 1) := by decide +kernel
theorem dX5_advanceRun_4 : decode cX5_advanceRun 4 = .ok (.aload_n 0, 1) := by decide +kernel
theorem dX5_advanceRun_5 : decode cX5_advanceRun 5 = .ok (.iconst 0, 1) := by decide +kernel
theorem dX5_advanceRun_6 : decode cX5_advanceRun 6 = .ok (.putfield 35, 3) := by decide +kernel
theorem dX5_advanceRun_9 : decode cX5_advanceRun 9 = .ok (.aload_n 0, 1) := by decide +kernel
theorem dX5_advanceRun_10 : decode cX5_advanceRun 10 = .ok (.getfield 32, 3) := by decide +kernel
theorem dX5_advanceRun_13 : decode cX5_advanceRun 13 = .ok (.aload_n 0, 1) := by decide +kernel
theorem dX5_advanceRun_14 : decode cX5_advanceRun 14 = .ok (.getfield 22, 3) := by decide +kernel
theorem dX5_advanceRun_17 : decode cX5_advanceRun 17 = .ok (.if_icmp .ge 75, 3) := by decide +kernel
theorem dX5_advanceRun_20 : decode cX5_advanceRun 20 = .ok (.aload_n 0, 1) := by decide +kernel
theorem dX5_advanceRun_21 : decode cX5_advanceRun 21 = .ok (.getfield 18, 3) := by decide +kernel
theorem dX5_advanceRun_24 : decode cX5_advanceRun 24 = .ok (.aload_n 0, 1) := by decide +kernel
theorem dX5_advanceRun_25 : decode cX5_advanceRun 25 = .ok (.getfield 32, 3) := by decide +kernel
theorem dX5_advanceRun_28 : decode cX5_advanceRun 28 = .ok (.baload, 1) := by decide +kernel
theorem dX5_advanceRun_29 : decode cX5_advanceRun 29 = .ok (.istore_n 3, 1) := by decide +kernel
theorem dX5_advanceRun_30 : decode cX5_advanceRun 30 = .ok (.iload_n 3, 1) := by decide +kernel
theorem dX5_advanceRun_31 : decode cX5_advanceRun 31 = .ok (.bipush 48, 2) := by decide +kernel
theorem dX5_advanceRun_33 : decode cX5_advanceRun 33 = .ok (.if_icmp .lt 31, 3) := by decide +kernel
theorem dX5_advanceRun_36 : decode cX5_advanceRun 36 = .ok (.iload_n 3, 1) := by decide +kernel
theorem dX5_advanceRun_37 : decode cX5_advanceRun 37 = .ok (.bipush 57, 2) := by decide +kernel
theorem dX5_advanceRun_39 : decode cX5_advanceRun 39 = .ok (.if_icmp .gt 25, 3) := by decide +kernel
theorem dX5_advanceRun_42 : decode cX5_advanceRun 42 = .ok (.iinc 2 1, 3) := by decide +kernel
theorem dX5_advanceRun_45 : decode cX5_advanceRun 45 = .ok (.aload_n 0, 1) := by decide +kernel
theorem dX5_advanceRun_46 : decode cX5_advanceRun 46 = .ok (.aload_n 0, 1) := by decide +kernel
theorem dX5_advanceRun_47 : decode cX5_advanceRun 47 = .ok (.getfield 35, 3) := by decide +kernel
theorem dX5_advanceRun_50 : decode cX5_advanceRun 50 = .ok (.bipush 10, 2) := by decide +kernel
theorem dX5_advanceRun_52 : decode cX5_advanceRun 52 = .ok (.imul, 1) := by decide +kernel
theorem dX5_advanceRun_53 : decode cX5_advanceRun 53 = .ok (.iload_n 3, 1) := by decide +kernel
theorem dX5_advanceRun_54 : decode cX5_advanceRun 54 = .ok (.iadd, 1) := by decide +kernel
theorem dX5_advanceRun_55 : decode cX5_advanceRun 55 = .ok (.bipush 48, 2) := by decide +kernel
theorem dX5_advanceRun_57 : decode cX5_advanceRun 57 = .ok (.isub, 1) := by decide +kernel
theorem dX5_advanceRun_58 : decode cX5_advanceRun 58 = .ok (.putfield 35, 3) := by decide +kernel
theorem dX5_advanceRun_61 : decode cX5_advanceRun 61 = .ok (.goto 18, 3) := by decide +kernel
theorem dX5_advanceRun_64 : decode cX5_advanceRun 64 = .ok (.iload_n 3, 1) := by decide +kernel
theorem dX5_advanceRun_65 : decode cX5_advanceRun 65 = .ok (.bipush 97, 2) := by decide +kernel
theorem dX5_advanceRun_67 : decode cX5_advanceRun 67 = .ok (.if_icmp .lt 25, 3) := by decide +kernel
theorem dX5_advanceRun_70 : decode cX5_advanceRun 70 = .ok (.iload_n 3, 1) := by decide +kernel
theorem dX5_advanceRun_71 : decode cX5_advanceRun 71 = .ok (.bipush 122, 2) := by decide +kernel
theorem dX5_advanceRun_73 : decode cX5_advanceRun 73 = .ok (.if_icmp .gt 19, 3) := by decide +kernel
theorem dX5_advanceRun_76 : decode cX5_advanceRun 76 = .ok (.iinc 1 1, 3) := by decide +kernel
theorem dX5_advanceRun_79 : decode cX5_advanceRun 79 = .ok (.aload_n 0, 1) := by decide +kernel
theorem dX5_advanceRun_80 : decode cX5_advanceRun 80 = .ok (.dup, 1) := by decide +kernel
theorem dX5_advanceRun_81 : decode cX5_advanceRun 81 = .ok (.getfield 32, 3) := by decide +kernel
theorem dX5_advanceRun_84 : decode cX5_advanceRun 84 = .ok (.iconst 1, 1) := by decide +kernel
theorem dX5_advanceRun_85 : decode cX5_advanceRun 85 = .ok (.iadd, 1) := by decide +kernel
theorem dX5_advanceRun_86 : decode cX5_advanceRun 86 = .ok (.putfield 32, 3) := by decide +kernel
theorem dX5_advanceRun_89 : decode cX5_advanceRun 89 = .ok (.goto (-80), 3) := by decide +kernel
theorem dX5_advanceRun_92 : decode cX5_advanceRun 92 = .ok (.iload_n 1, 1) := by decide +kernel
theorem dX5_advanceRun_93 : decode cX5_advanceRun 93 = .ok (.ifCond .le 15, 3) := by decide +kernel
theorem dX5_advanceRun_96 : decode cX5_advanceRun 96 = .ok (.iload_n 2, 1) := by decide +kernel
theorem dX5_advanceRun_97 : decode cX5_advanceRun 97 = .ok (.ifCond .ne 11, 3) := by decide +kernel
theorem dX5_advanceRun_100 : decode cX5_advanceRun 100 = .ok (.aload_n 0, 1) := by decide +kernel
theorem dX5_advanceRun_101 : decode cX5_advanceRun 101 = .ok (.iconst 1, 1) := by decide +kernel
theorem dX5_advanceRun_102 : decode cX5_advanceRun 102 = .ok (.putfield 26, 3) := by decide +kernel
theorem dX5_advanceRun_105 : decode cX5_advanceRun 105 = .ok (.goto 30, 3) := by decide +kernel
theorem dX5_advanceRun_108 : decode cX5_advanceRun 108 = .ok (.iload_n 1, 1) := by decide +kernel
theorem dX5_advanceRun_109 : decode cX5_advanceRun 109 = .ok (.ifCond .ne 21, 3) := by decide +kernel
theorem dX5_advanceRun_112 : decode cX5_advanceRun 112 = .ok (.iload_n 2, 1) := by decide +kernel
theorem dX5_advanceRun_113 : decode cX5_advanceRun 113 = .ok (.iconst 1, 1) := by decide +kernel
theorem dX5_advanceRun_114 : decode cX5_advanceRun 114 = .ok (.if_icmp .eq 8, 3) := by decide +kernel
theorem dX5_advanceRun_117 : decode cX5_advanceRun 117 = .ok (.iload_n 2, 1) := by decide +kernel
theorem dX5_advanceRun_118 : decode cX5_advanceRun 118 = .ok (.iconst 2, 1) := by decide +kernel
theorem dX5_advanceRun_119 : decode cX5_advanceRun 119 = .ok (.if_icmp .ne 11, 3) := by decide +kernel
theorem dX5_advanceRun_122 : decode cX5_advanceRun 122 = .ok (.aload_n 0, 1) := by decide +kernel
theorem dX5_advanceRun_123 : decode cX5_advanceRun 123 = .ok (.iconst 2, 1) := by decide +kernel
theorem dX5_advanceRun_124 : decode cX5_advanceRun 124 = .ok (.putfield 26, 3) := by decide +kernel
theorem dX5_advanceRun_127 : decode cX5_advanceRun 127 = .ok (.goto 8, 3) := by decide +kernel
theorem dX5_advanceRun_130 : decode cX5_advanceRun 130 = .ok (.aload_n 0, 1) := by decide +kernel
theorem dX5_advanceRun_131 : decode cX5_advanceRun 131 = .ok (.iconst 4, 1) := by decide +kernel
theorem dX5_advanceRun_132 : decode cX5_advanceRun 132 = .ok (.putfield 26, 3) := by decide +kernel
theorem dX5_advanceRun_135 : decode cX5_advanceRun 135 = .ok (.return_, 1) := by decide +kernel
set_option maxRecDepth 20000 in
theorem ggX6_init_X5_init : GoodIn wsX6_init wsX5_init := goodIn_r _ [39, 40, 2, 3, 41, 13, 14, 42, 4, 43, 44, 45, 46, 47, 48, 49, 50, 51, 52, 53, 54, 55, 56, 36, 57, 116, 117, 118, 119, 107, 108, 109, 110, 111, 112, 113, 114, 115] (by decide +kernel) (by decide +kernel)
set_option maxRecDepth 20000 in
theorem gX6_init_X5_init_n19 : GoodIn wsX6_init (wsX5_init) := ggX6_init_X5_init
set_option maxRecDepth 20000 in
theorem ggX6_init_X2_init : GoodIn wsX6_init wsX2_init := goodIn_r _ [52, 53, 2, 3, 54, 55, 56, 36, 57, 116, 117, 118, 119] (by decide +kernel) (by decide +kernel)
set_option maxRecDepth 20000 in
theorem gX6_init_X2_init_n29 : GoodIn wsX6_init (wsX2_init) := ggX6_init_X2_init
set_option maxRecDepth 20000 in
theorem ggX6_init_X3_init : GoodIn wsX6_init wsX3_init := goodIn_r _ [59, 60, 2, 3, 61, 62, 63, 64, 120, 121, 122] (by decide +kernel) (by decide +kernel)
set_option maxRecDepth 20000 in
theorem gX6_init_X3_init_n39 : GoodIn wsX6_init (wsX3_init) := ggX6_init_X3_init
set_option maxRecDepth 20000 in
theorem ggX6_init_X0_init : GoodIn wsX6_init wsX0_init := goodIn_r _ [66, 67, 2, 3, 68, 123] (by decide +kernel) (by decide +kernel)
set_option maxRecDepth 20000 in
theorem gX6_init_X0_init_n50 : GoodIn wsX6_init (wsX0_init) := ggX6_init_X0_init
set_option maxRecDepth 20000 in
theorem ggX6_init_X1_init : GoodIn wsX6_init wsX1_init := goodIn_r _ [71, 72, 2, 3, 73, 74, 36, 75, 76, 77, 78, 79, 80, 81, 82, 83, 84, 85, 86, 124, 125, 126, 127, 128, 129, 130, 131] (by decide +kernel) (by decide +kernel)
set_option maxRecDepth 20000 in
theorem gX6_init_X1_init : GoodIn wsX6_init (wsX1_init) := ggX6_init_X1_init
set_option maxRecDepth 20000 in
theorem ggX6_init_X4_init : GoodIn wsX6_init wsX4_init := goodIn_r _ [88, 89, 2, 3, 36, 90, 91, 92, 132, 133, 134] (by decide +kernel) (by decide +kernel)
set_option maxRecDepth 20000 in
theorem gX6_init_X4_init_n72 : GoodIn wsX6_init (wsX4_init) := ggX6_init_X4_init
