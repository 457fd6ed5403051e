theorem dX3_split_50 : decode cX3_split 50 = .ok (.lload 7, 2) := by decide +kernel
theorem dX3_split_52 : decode cX3_split 52 = .ok (.ldiv, 1) := by decide +kernel
theorem dX3_split_53 : decode cX3_split 53 = .ok (.goto 8, 3) := by decide +kernel
theorem dX3_split_56 : decode cX3_split 56 = .ok (.lload 5, 2) := by decide +kernel
theorem dX3_split_58 : decode cX3_split 58 = .ok (.lload 7, 2) := by decide +kernel
theorem dX3_split_60 : decode cX3_split 60 = .ok (.ldiv, 1) := by decide +kernel
theorem dX3_split_61 : decode cX3_split 61 = .ok (.lreturn, 1) := by decide +kernel
set_option maxRecDepth 20000 in
theorem ggX3_aheadOf_X3_places : GoodIn wsX3_aheadOf wsX3_places := goodIn_r _ [5, 6, 12, 13, 14, 15, 16, 17, 18] (by decide +kernel) (by decide +kernel)
set_option maxRecDepth 20000 in
theorem gX3_aheadOf_X3_places : GoodIn wsX3_aheadOf (wsV RX3 29 RX3 yX3_places wsX3_places) := goodIn_app (goodIn_of _ (by decide +kernel)) ggX3_aheadOf_X3_places
set_option maxRecDepth 20000 in
theorem ggX3_aheadOf_X3_upOf : GoodIn wsX3_aheadOf wsX3_upOf := goodIn_r _ [10, 6, 11, 12, 13, 14, 15, 16, 17, 18] (by decide +kernel) (by decide +kernel)
set_option maxRecDepth 20000 in
theorem gX3_aheadOf_X3_upOf : GoodIn wsX3_aheadOf (wsV RX3 47 RX3 yX3_upOf wsX3_upOf) := goodIn_app (goodIn_of _ (by decide +kernel)) ggX3_aheadOf_X3_upOf
theorem dX3_aheadOf_0 : decode cX3_aheadOf 0 = .ok (.iconst 0, 1) := by decide +kernel
theorem dX3_aheadOf_1 : decode cX3_aheadOf 1 = .ok (.istore_n 2, 1) := by decide +kernel
theorem dX3_aheadOf_2 : decode cX3_aheadOf 2 = .ok (.iconst 0, 1) := by decide +kernel
theorem dX3_aheadOf_3 : decode cX3_aheadOf 3 = .ok (.istore_n 3, 1) := by decide +kernel
theorem dX3_aheadOf_4 : decode cX3_aheadOf 4 = .ok (.iload_n 3, 1) := by decide +kernel
theorem dX3_aheadOf_5 : decode cX3_aheadOf 5 = .ok (.aload_n 0, 1) := by decide +kernel
theorem dX3_aheadOf_6 : decode cX3_aheadOf 6 = .ok (.invokevirtual 29, 3) := by decide +kernel
theorem dX3_aheadOf_9 : decode cX3_aheadOf 9 = .ok (.if_icmp .ge 50, 3) := by decide +kernel
theorem dX3_aheadOf_12 : decode cX3_aheadOf 12 = .ok (.iload_n 2, 1) := by decide +kernel
theorem dX3_aheadOf_13 : decode cX3_aheadOf 13 = .ok (.aload_n 0, 1) := by decide +kernel
theorem dX3_aheadOf_14 : decode cX3_aheadOf 14 = .ok (.iload_n 3, 1) := by decide +kernel
theorem dX3_aheadOf_15 : decode cX3_aheadOf 15 = .ok (.invokevirtual 47, 3) := by decide +kernel
theorem dX3_aheadOf_18 : decode cX3_aheadOf 18 = .ok (.aload_n 0, 1) := by decide +kernel
theorem dX3_aheadOf_19 : decode cX3_aheadOf 19 = .ok (.iload_n 1, 1) := by decide +kernel
theorem dX3_aheadOf_20 : decode cX3_aheadOf 20 = .ok (.invokevirtual 47, 3) := by decide +kernel
theorem dX3_aheadOf_23 : decode cX3_aheadOf 23 = .ok (.lcmp, 1) := by decide +kernel
theorem dX3_aheadOf_24 : decode cX3_aheadOf 24 = .ok (.ifCond .lt 22, 3) := by decide +kernel
theorem dX3_aheadOf_27 : decode cX3_aheadOf 27 = .ok (.aload_n 0, 1) := by decide +kernel
theorem dX3_aheadOf_28 : decode cX3_aheadOf 28 = .ok (.iload_n 3, 1) := by decide +kernel
theorem dX3_aheadOf_29 : decode cX3_aheadOf 29 = .ok (.invokevirtual 47, 3) := by decide +kernel
theorem dX3_aheadOf_32 : decode cX3_aheadOf 32 = .ok (.aload_n 0, 1) := by decide +kernel
theorem dX3_aheadOf_33 : decode cX3_aheadOf 33 = .ok (.iload_n 1, 1) := by decide +kernel
theorem dX3_aheadOf_34 : decode cX3_aheadOf 34 = .ok (.invokevirtual 47, 3) := by decide +kernel
theorem dX3_aheadOf_37 : decode cX3_aheadOf 37 = .ok (.lcmp, 1) := by decide +kernel
theorem dX3_aheadOf_38 : decode cX3_aheadOf 38 = .ok (.ifCond .ne 12, 3) := by decide +kernel
theorem dX3_aheadOf_41 : decode cX3_aheadOf 41 = .ok (.iload_n 3, 1) := by decide +kernel
theorem dX3_aheadOf_42 : decode cX3_aheadOf 42 = .ok (.iload_n 1, 1) := by decide +kernel
theorem dX3_aheadOf_43 : decode cX3_aheadOf 43 = .ok (.if_icmp .le 7, 3) := by decide +kernel
theorem dX3_aheadOf_46 : decode cX3_aheadOf 46 = .ok (.iconst 1, 1) := by decide +kernel
theorem dX3_aheadOf_47 : decode cX3_aheadOf 47 = .ok (.goto 4, 3) := by decide +kernel
theorem dX3_aheadOf_50 : decode cX3_aheadOf 50 = .ok (.iconst 0, 1) := by decide +kernel
theorem dX3_aheadOf_51 : decode cX3_aheadOf 51 = .ok (.iadd, 1) := by decide +kernel
theorem dX3_aheadOf_52 : decode cX3_aheadOf 52 = .ok (.istore_n 2, 1) := by decide +kernel
theorem dX3_aheadOf_53 : decode cX3_aheadOf 53 = .ok (.iinc 3 1, 3) := by decide +kernel
theorem dX3_aheadOf_56 : decode cX3_aheadOf 56 = .ok (.goto (-52), 3) := by decide +kernel
theorem dX3_aheadOf_59 : decode cX3_aheadOf 59 = .ok (.iload_n 2, 1) := by decide +kernel
theorem dX3_aheadOf_60 : decode cX3_aheadOf 60 = .ok (.ireturn, 1) := by decide +kernel
set_option maxRecDepth 20000 in
theorem ggX3_bestAt_X3_aheadOf : GoodIn wsX3_bestAt wsX3_aheadOf := goodIn_r _ [5, 6, 7, 8, 4, 9, 10, 11, 12, 13, 14, 15, 16, 17, 18, 19, 20, 21, 22] (by decide +kernel) (by decide +kernel)
set_option maxRecDepth 20000 in
theorem gX3_bestAt_X3_aheadOf : GoodIn wsX3_bestAt (wsV RX3 59 RX3 yX3_aheadOf wsX3_aheadOf) := goodIn_app (goodIn_of _ (by decide +kernel)) ggX3_bestAt_X3_aheadOf
theorem dX3_bestAt_0 : decode cX3_bestAt 0 = .ok (.iconst 0, 1) := by decide +kernel
theorem dX3_bestAt_1 : decode cX3_bestAt 1 = .ok (.istore_n 2, 1) := by decide +kernel
theorem dX3_bestAt_2 : decode cX3_bestAt 2 = .ok (.aload_n 0, 1) := by decide +kernel
theorem dX3_bestAt_3 : decode cX3_bestAt 3 = .ok (.iload_n 2, 1) := by decide +kernel
theorem dX3_bestAt_4 : decode cX3_bestAt 4 = .ok (.invokevirtual 59, 3) := by decide +kernel
theorem dX3_bestAt_7 : decode cX3_bestAt 7 = .ok (.iload_n 1, 1) := by decide +kernel
theorem dX3_bestAt_8 : decode cX3_bestAt 8 = .ok (.if_icmp .eq 9, 3) := by decide +kernel
theorem dX3_bestAt_11 : decode cX3_bestAt 11 = .ok (.iinc 2 1, 3) := by decide +kernel
theorem dX3_bestAt_14 : decode cX3_bestAt 14 = .ok (.goto (-12), 3) := by decide +kernel
theorem dX3_bestAt_17 : decode cX3_bestAt 17 = .ok (.iload_n 2, 1) := by decide +kernel
theorem dX3_bestAt_18 : decode cX3_bestAt 18 = .ok (.ireturn, 1) := by decide +kernel
set_option maxRecDepth 20000 in
theorem ggX3_rank_X3_isPlace : GoodIn wsX3_rank wsX3_isPlace := goodIn_r _ [5, 6, 7, 8, 4, 9, 10, 11, 12, 13, 27, 28, 29, 30, 31, 32, 33] (by decide +kernel) (by decide +kernel)
set_option maxRecDepth 20000 in
theorem gX3_rank_X3_isPlace : GoodIn wsX3_rank (wsV RX3 39 RX3 yX3_isPlace wsX3_isPlace) := goodIn_app (goodIn_of _ (by decide +kernel)) ggX3_rank_X3_isPlace
set_option maxRecDepth 20000 in
theorem ggX3_rank_X3_bestAt : GoodIn wsX3_rank wsX3_bestAt := goodIn_r _ [17, 18, 19, 20, 4, 21, 6, 7, 8, 9, 10, 22, 23, 24, 25, 26, 27, 28, 29, 30, 31, 32, 33] (by decide +kernel) (by decide +kernel)
set_option maxRecDepth 20000 in
theorem gX3_rank_X3_bestAt : GoodIn wsX3_rank (wsV RX3 63 RX3 yX3_bestAt wsX3_bestAt) := goodIn_app (goodIn_of _ (by decide +kernel)) ggX3_rank_X3_bestAt
set_option maxRecDepth 20000 in
theorem ggX3_rank_X3_aheadOf : GoodIn wsX3_rank wsX3_aheadOf := goodIn_r _ [21, 6, 7, 8, 4, 9, 10, 22, 23, 24, 25, 26, 27, 28, 29, 30, 31, 32, 33] (by decide +kernel) (by decide +kernel)
set_option maxRecDepth 20000 in
theorem gX3_rank_X3_aheadOf : GoodIn wsX3_rank (wsV RX3 59 RX3 yX3_aheadOf wsX3_aheadOf) := goodIn_app (goodIn_of _ (by decide +kernel)) ggX3_rank_X3_aheadOf
theorem dX3_rank_0 : decode cX3_rank 0 = .ok (.aload_n 0, 1) := by decide +kernel
theorem dX3_rank_1 : decode cX3_rank 1 = .ok (.iload_n 1, 1) := by decide +kernel
theorem dX3_rank_2 : decode cX3_rank 2 = .ok (.invokevirtual 39, 3) := by decide +kernel
theorem dX3_rank_5 : decode cX3_rank 5 = .ok (.ifCond .ne 5, 3) := by decide +kernel
theorem dX3_rank_8 : decode cX3_rank 8 = .ok (.iconst (-1), 1) := by decide +kernel
theorem dX3_rank_9 : decode cX3_rank 9 = .ok (.ireturn, 1) := by decide +kernel
theorem dX3_rank_10 : decode cX3_rank 10 = .ok (.iload_n 2, 1) := by decide +kernel
theorem dX3_rank_11 : decode cX3_rank 11 = .ok (.ifCond .ne 11, 3) := by decide +kernel
theorem dX3_rank_14 : decode cX3_rank 14 = .ok (.aload_n 0, 1) := by decide +kernel
theorem dX3_rank_15 : decode cX3_rank 15 = .ok (.iload_n 1, 1) := by decide +kernel
theorem dX3_rank_16 : decode cX3_rank 16 = .ok (.invokevirtual 63, 3) := by decide +kernel
theorem dX3_rank_19 : decode cX3_rank 19 = .ok (.goto 18, 3) := by decide +kernel
theorem dX3_rank_22 : decode cX3_rank 22 = .ok (.iload_n 2, 1) := by decide +kernel
theorem dX3_rank_23 : decode cX3_rank 23 = .ok (.iconst 1, 1) := by decide +kernel
theorem dX3_rank_24 : decode cX3_rank 24 = .ok (.if_icmp .ne 11, 3) := by decide +kernel
theorem dX3_rank_27 : decode cX3_rank 27 = .ok (.aload_n 0, 1) := by decide +kernel
theorem dX3_rank_28 : decode cX3_rank 28 = .ok (.iload_n 1, 1) := by decide +kernel
theorem dX3_rank_29 : decode cX3_rank 29 = .ok (.invokevirtual 59, 3) := by decide +kernel
theorem dX3_rank_32 : decode cX3_rank 32 = .ok (.goto 5, 3) := by decide +kernel
theorem dX3_rank_35 : decode cX3_rank 35 = .ok (.bipush (-2), 2) := by decide +kernel
theorem dX3_rank_37 : decode cX3_rank 37 = .ok (.ireturn, 1) := by decide +kernel
set_option maxRecDepth 20000 in
theorem ggX3_freeze_X3_isRow : GoodIn wsX3_freeze wsX3_isRow := goodIn_r _ [6, 7, 8, 9, 5, 10, 1, 11, 12, 13, 21, 22, 23, 24, 25, 26, 27] (by decide +kernel) (by decide +kernel)
set_option maxRecDepth 20000 in
theorem gX3_freeze_X3_isRow : GoodIn wsX3_freeze (wsV RX3 66 RX3 yX3_isRow wsX3_isRow) := goodIn_app (goodIn_of _ (by decide +kernel)) ggX3_freeze_X3_isRow
set_option maxRecDepth 20000 in
theorem ggX3_freeze_X3_free : GoodIn wsX3_freeze wsX3_free := goodIn_r _ [17, 1, 7, 8, 9, 5, 10, 21, 22, 23, 24, 25, 26, 27] (by decide +kernel) (by decide +kernel)
set_option maxRecDepth 20000 in
theorem gX3_freeze_X3_free : GoodIn wsX3_freeze (wsV RX3 69 RX3 yX3_free wsX3_free) := goodIn_app (goodIn_of _ (by decide +kernel)) ggX3_freeze_X3_free
set_option maxRecDepth 20000 in
theorem ggX3_freeze_X3_size : GoodIn wsX3_freeze wsX3_size := goodIn_r _ [20] (by decide +kernel) (by decide +kernel)
set_option maxRecDepth 20000 in
theorem gX3_freeze_X3_size : GoodIn wsX3_freeze (va_wsS RX3 72 yX3_size wsX3_size) := goodIn_app (goodIn_of _ (by decide +kernel)) ggX3_freeze_X3_size
theorem dX3_freeze_0 : decode cX3_freeze 0 = .ok (.aload_n 0, 1) := by decide +kernel
theorem dX3_freeze_1 : decode cX3_freeze 1 = .ok (.iload_n 1, 1) := by decide +kernel
theorem dX3_freeze_2 : decode cX3_freeze 2 = .ok (.invokevirtual 66, 3) := by decide +kernel
theorem dX3_freeze_5 : decode cX3_freeze 5 = .ok (.ifCond .ne 6, 3) := by decide +kernel
theorem dX3_freeze_8 : decode cX3_freeze 8 = .ok (.bipush (-2), 2) := by decide +kernel
theorem dX3_freeze_10 : decode cX3_freeze 10 = .ok (.ireturn, 1) := by decide +kernel
theorem dX3_freeze_11 : decode cX3_freeze 11 = .ok (.aload_n 0, 1) := by decide +kernel
theorem dX3_freeze_12 : decode cX3_freeze 12 = .ok (.getfield 7, 3) := by decide +kernel
theorem dX3_freeze_15 : decode cX3_freeze 15 = .ok (.iconst 3, 1) := by decide +kernel
theorem dX3_freeze_16 : decode cX3_freeze 16 = .ok (.iload_n 1, 1) := by decide +kernel
theorem dX3_freeze_17 : decode cX3_freeze 17 = .ok (.iastore, 1) := by decide +kernel
theorem dX3_freeze_18 : decode cX3_freeze 18 = .ok (.aload_n 0, 1) := by decide +kernel
theorem dX3_freeze_19 : decode cX3_freeze 19 = .ok (.invokevirtual 69, 3) := by decide +kernel
theorem dX3_freeze_22 : decode cX3_freeze 22 = .ok (.invokestatic 72, 3) := by decide +kernel
theorem dX3_freeze_25 : decode cX3_freeze 25 = .ok (.ireturn, 1) := by decide +kernel
set_option maxRecDepth 20000 in
theorem ggX3_best_X3_places : GoodIn wsX3_best wsX3_places := goodIn_r _ [6, 1, 23, 24, 25, 26, 27, 28, 29] (by decide +kernel) (by decide +kernel)
set_option maxRecDepth 20000 in
theorem gX3_best_X3_places : GoodIn wsX3_best (wsV RX3 29 RX3 yX3_places wsX3_places) := goodIn_app (goodIn_of _ (by decide +kernel)) ggX3_best_X3_places
set_option maxRecDepth 20000 in
theorem ggX3_best_X3_in : GoodIn wsX3_best wsX3_in := goodIn_r _ [9] (by decide +kernel) (by decide +kernel)
set_option maxRecDepth 20000 in
theorem gX3_best_X3_in : GoodIn wsX3_best (va_wsS RX3 33 yX3_in wsX3_in) := goodIn_app (goodIn_of _ (by decide +kernel)) ggX3_best_X3_in
set_option maxRecDepth 20000 in
theorem ggX3_best_X3_bestAt : GoodIn wsX3_best wsX3_bestAt := goodIn_r _ [13, 14, 15, 16, 5, 17, 2, 3, 4, 6, 1, 18, 19, 20, 21, 22, 23, 24, 25, 26, 27, 28, 29] (by decide +kernel) (by decide +kernel)
set_option maxRecDepth 20000 in
theorem gX3_best_X3_bestAt : GoodIn wsX3_best (wsV RX3 63 RX3 yX3_bestAt wsX3_bestAt) := goodIn_app (goodIn_of _ (by decide +kernel)) ggX3_best_X3_bestAt
theorem dX3_best_0 : decode cX3_best 0 = .ok (.iload_n 1, 1) := by decide +kernel
theorem dX3_best_1 : decode cX3_best 1 = .ok (.iconst 0, 1) := by decide +kernel
theorem dX3_best_2 : decode cX3_best 2 = .ok (.aload_n 0, 1) := by decide +kernel
theorem dX3_best_3 : decode cX3_best 3 = .ok (.invokevirtual 29, 3) := by decide +kernel
theorem dX3_best_6 : decode cX3_best 6 = .ok (.invokestatic 33, 3) := by decide +kernel
theorem dX3_best_9 : decode cX3_best 9 = .ok (.ifCond .ne 6, 3) := by decide +kernel
theorem dX3_best_12 : decode cX3_best 12 = .ok (.bipush (-2), 2) := by decide +kernel
theorem dX3_best_14 : decode cX3_best 14 = .ok (.ireturn, 1) := by decide +kernel
theorem dX3_best_15 : decode cX3_best 15 = .ok (.iconst 1, 1) := by decide +kernel
theorem dX3_best_16 : decode cX3_best 16 = .ok (.aload_n 0, 1) := by decide +kernel
theorem dX3_best_17 : decode cX3_best 17 = .ok (.invokevirtual 29, 3) := by decide +kernel
theorem dX3_best_20 : decode cX3_best 20 = .ok (.ishl, 1) := by decide +kernel
theorem dX3_best_21 : decode cX3_best 21 = .ok (.iconst 1, 1) := by decide +kernel
theorem dX3_best_22 : decode cX3_best 22 = .ok (.isub, 1) := by decide +kernel
theorem dX3_best_23 : decode cX3_best 23 = .ok (.istore_n 2, 1) := by decide +kernel
theorem dX3_best_24 : decode cX3_best 24 = .ok (.iconst 0, 1) := by decide +kernel
theorem dX3_best_25 : decode cX3_best 25 = .ok (.istore_n 3, 1) := by decide +kernel
theorem dX3_best_26 : decode cX3_best 26 = .ok (.iload_n 3, 1) := by decide +kernel
theorem dX3_best_27 : decode cX3_best 27 = .ok (.iload_n 1, 1) := by decide +kernel
theorem dX3_best_28 : decode cX3_best 28 = .ok (.if_icmp .ge 21, 3) := by decide +kernel
theorem dX3_best_31 : decode cX3_best 31 = .ok (.iload_n 2, 1) := by decide +kernel
theorem dX3_best_32 : decode cX3_best 32 = .ok (.iconst 1, 1) := by decide +kernel
theorem dX3_best_33 : decode cX3_best 33 = .ok (.aload_n 0, 1) := by decide +kernel
theorem dX3_best_34 : decode cX3_best 34 = .ok (.iload_n 3, 1) := by decide +kernel
theorem dX3_best_35 : decode cX3_best 35 = .ok (.invokevirtual 63, 3) := by decide +kernel
theorem dX3_best_38 : decode cX3_best 38 = .ok (.ishl, 1) := by decide +kernel
theorem dX3_best_39 : decode cX3_best 39 = .ok (.iconst (-1), 1) := by decide +kernel
theorem dX3_best_40 : decode cX3_best 40 = .ok (.ixor, 1) := by decide +kernel
theorem dX3_best_41 : decode cX3_best 41 = .ok (.iand, 1) := by decide +kernel
theorem dX3_best_42 : decode cX3_best 42 = .ok (.istore_n 2, 1) := by decide +kernel
theorem dX3_best_43 : decode cX3_best 43 = .ok (.iinc 3 1, 3) := by decide +kernel
theorem dX3_best_46 : decode cX3_best 46 = .ok (.goto (-20), 3) := by decide +kernel
theorem dX3_best_49 : decode cX3_best 49 = .ok (.aload_n 0, 1) := by decide +kernel
theorem dX3_best_50 : decode cX3_best 50 = .ok (.getfield 7, 3) := by decide +kernel
theorem dX3_best_53 : decode cX3_best 53 = .ok (.iconst 3, 1) := by decide +kernel
theorem dX3_best_54 : decode cX3_best 54 = .ok (.iload_n 2, 1) := by decide +kernel
theorem dX3_best_55 : decode cX3_best 55 = .ok (.iastore, 1) := by decide +kernel
theorem dX3_best_56 : decode cX3_best 56 = .ok (.iload_n 2, 1) := by decide +kernel
theorem dX3_best_57 : decode cX3_best 57 = .ok (.ireturn, 1) := by decide +kernel
theorem dX3_codedOf_0 : decode cX3_codedOf 0 = .ok (.iload_n 0, 1) := by decide +kernel
theorem dX3_codedOf_1 : decode cX3_codedOf 1 = .ok (.iload_n 1, 1) := by decide +kernel
theorem dX3_codedOf_2 : decode cX3_codedOf 2 = .ok (.ishr, 1) := by decide +kernel
theorem dX3_codedOf_3 : decode cX3_codedOf 3 = .ok (.iconst 1, 1) := by decide +kernel
theorem dX3_codedOf_4 : decode cX3_codedOf 4 = .ok (.iload_n 2, 1) := by decide +kernel
theorem dX3_codedOf_5 : decode cX3_codedOf 5 = .ok (.ishl, 1) := by decide +kernel
theorem dX3_codedOf_6 : decode cX3_codedOf 6 = .ok (.iconst 1, 1) := by decide +kernel
theorem dX3_codedOf_7 : decode cX3_codedOf 7 = .ok (.isub, 1) := by decide +kernel
theorem dX3_codedOf_8 : decode cX3_codedOf 8 = .ok (.iand, 1) := by decide +kernel
theorem dX3_codedOf_9 : decode cX3_codedOf 9 = .ok (.istore_n 3, 1) := by decide +kernel
theorem dX3_codedOf_10 : decode cX3_codedOf 10 = .ok (.iconst 1, 1) := by decide +kernel
theorem dX3_codedOf_11 : decode cX3_codedOf 11 = .ok (.istore 4, 2) := by decide +kernel
theorem dX3_codedOf_13 : decode cX3_codedOf 13 = .ok (.iload 4, 2) := by decide +kernel
theorem dX3_codedOf_15 : decode cX3_codedOf 15 = .ok (.iload_n 2, 1) := by decide +kernel
theorem dX3_codedOf_16 : decode cX3_codedOf 16 = .ok (.if_icmp .ge 76, 3) := by decide +kernel
theorem dX3_codedOf_19 : decode cX3_codedOf 19 = .ok (.iconst 0, 1) := by decide +kernel
theorem dX3_codedOf_20 : decode cX3_codedOf 20 = .ok (.istore 5, 2) := by decide +kernel
theorem dX3_codedOf_22 : decode cX3_codedOf 22 = .ok (.iconst 0, 1) := by decide +kernel
theorem dX3_codedOf_23 : decode cX3_codedOf 23 = .ok (.istore 6, 2) := by decide +kernel
theorem dX3_codedOf_25 : decode cX3_codedOf 25 = .ok (.iload 6, 2) := by decide +kernel
theorem dX3_codedOf_27 : decode cX3_codedOf 27 = .ok (.iload_n 2, 1) := by decide +kernel
theorem dX3_codedOf_28 : decode cX3_codedOf 28 = .ok (.if_icmp .ge 52, 3) := by decide +kernel
theorem dX3_codedOf_31 : decode cX3_codedOf 31 = .ok (.iload_n 3, 1) := by decide +kernel
theorem dX3_codedOf_32 : decode cX3_codedOf 32 = .ok (.iload 6, 2) := by decide +kernel
theorem dX3_codedOf_34 : decode cX3_codedOf 34 = .ok (.ishr, 1) := by decide +kernel
theorem dX3_codedOf_35 : decode cX3_codedOf 35 = .ok (.iconst 1, 1) := by decide +kernel
theorem dX3_codedOf_36 : decode cX3_codedOf 36 = .ok (.iand, 1) := by decide +kernel
theorem dX3_codedOf_37 : decode cX3_codedOf 37 = .ok (.istore 7, 2) := by decide +kernel
theorem dX3_codedOf_39 : decode cX3_codedOf 39 = .ok (.iload 5, 2) := by decide +kernel
theorem dX3_codedOf_41 : decode cX3_codedOf 41 = .ok (.iload 6, 2) := by decide +kernel
theorem dX3_codedOf_43 : decode cX3_codedOf 43 = .ok (.iload 4, 2) := by decide +kernel
theorem dX3_codedOf_45 : decode cX3_codedOf 45 = .ok (.idiv, 1) := by decide +kernel
theorem dX3_codedOf_46 : decode cX3_codedOf 46 = .ok (.iconst 2, 1) := by decide +kernel
theorem dX3_codedOf_47 : decode cX3_codedOf 47 = .ok (.irem, 1) := by decide +kernel
theorem dX3_codedOf_48 : decode cX3_codedOf 48 = .ok (.ifCond .ne 18, 3) := by decide +kernel
theorem dX3_codedOf_51 : decode cX3_codedOf 51 = .ok (.iload 7, 2) := by decide +kernel
theorem dX3_codedOf_53 : decode cX3_codedOf 53 = .ok (.iload_n 3, 1) := by decide +kernel
theorem dX3_codedOf_54 : decode cX3_codedOf 54 = .ok (.iload 6, 2) := by decide +kernel
theorem dX3_codedOf_56 : decode cX3_codedOf 56 = .ok (.iload 4, 2) := by decide +kernel
theorem dX3_codedOf_58 : decode cX3_codedOf 58 = .ok (.iadd, 1) := by decide +kernel
theorem dX3_codedOf_59 : decode cX3_codedOf 59 = .ok (.ishr, 1) := by decide +kernel
theorem dX3_codedOf_60 : decode cX3_codedOf 60 = .ok (.iconst 1, 1) := by decide +kernel
theorem dX3_codedOf_61 : decode cX3_codedOf 61 = .ok (.iand, 1) := by decide +kernel
theorem dX3_codedOf_62 : decode cX3_codedOf 62 = .ok (.ixor, 1) := by decide +kernel
theorem dX3_codedOf_63 : decode cX3_codedOf 63 = .ok (.goto 5, 3) := by decide +kernel
theorem dX3_codedOf_66 : decode cX3_codedOf 66 = .ok (.iload 7, 2) := by decide +kernel
theorem dX3_codedOf_68 : decode cX3_codedOf 68 = .ok (.iload 6, 2) := by decide +kernel
theorem dX3_codedOf_70 : decode cX3_codedOf 70 = .ok (.ishl, 1) := by decide +kernel
theorem dX3_codedOf_71 : decode cX3_codedOf 71 = .ok (.ior, 1) := by decide +kernel
theorem dX3_codedOf_72 : decode cX3_codedOf 72 = .ok (.istore 5, 2) := by decide +kernel
theorem dX3_codedOf_74 : decode cX3_codedOf 74 = .ok (.iinc 6 1, 3) := by decide +kernel
theorem dX3_codedOf_77 : decode cX3_codedOf 77 = .ok (.goto (-52), 3) := by decide +kernel
theorem dX3_codedOf_80 : decode cX3_codedOf 80 = .ok (.iload 5, 2) := by decide +kernel
theorem dX3_codedOf_82 : decode cX3_codedOf 82 = .ok (.istore_n 3, 1) := by decide +kernel
theorem dX3_codedOf_83 : decode cX3_codedOf 83 = .ok (.iload 4, 2) := by decide +kernel
theorem dX3_codedOf_85 : decode cX3_codedOf 85 = .ok (.iconst 2, 1) := by decide +kernel
theorem dX3_codedOf_86 : decode cX3_codedOf 86 = .ok (.imul, 1) := by decide +kernel
theorem dX3_codedOf_87 : decode cX3_codedOf 87 = .ok (.istore 4, 2) := by decide +kernel
theorem dX3_codedOf_89 : decode cX3_codedOf 89 = .ok (.goto (-76), 3) := by decide +kernel
theorem dX3_codedOf_92 : decode cX3_codedOf 92 = .ok (.iload_n 3, 1) := by decide +kernel
theorem dX3_codedOf_93 : decode cX3_codedOf 93 = .ok (.ireturn, 1) := by decide +kernel
set_option maxRecDepth 20000 in
theorem ggX3_codedAll_X3_places : GoodIn wsX3_codedAll wsX3_places := goodIn_r _ [5, 6, 10, 11, 12, 13, 14, 15, 16] (by decide +kernel) (by decide +kernel)
set_option maxRecDepth 20000 in
theorem gX3_codedAll_X3_places : GoodIn wsX3_codedAll (wsV RX3 29 RX3 yX3_places wsX3_places) := goodIn_app (goodIn_of _ (by decide +kernel)) ggX3_codedAll_X3_places
set_option maxRecDepth 20000 in
theorem ggX3_codedAll_X3_codedOf : GoodIn wsX3_codedAll wsX3_codedOf := goodIn_r _ [9] (by decide +kernel) (by decide +kernel)
set_option maxRecDepth 20000 in
theorem gX3_codedAll_X3_codedOf : GoodIn wsX3_codedAll (va_wsS RX3 75 yX3_codedOf wsX3_codedOf) := goodIn_app (goodIn_of _ (by decide +kernel)) ggX3_codedAll_X3_codedOf
theorem dX3_codedAll_0 : decode cX3_codedAll 0 = .ok (.iload_n 1, 1) := by decide +kernel
theorem dX3_codedAll_1 : decode cX3_codedAll 1 = .ok (.iconst 0, 1) := by decide +kernel
theorem dX3_codedAll_2 : decode cX3_codedAll 2 = .ok (.aload_n 0, 1) := by decide +kernel
theorem dX3_codedAll_3 : decode cX3_codedAll 3 = .ok (.invokevirtual 29, 3) := by decide +kernel
theorem dX3_codedAll_6 : decode cX3_codedAll 6 = .ok (.invokestatic 75, 3) := by decide +kernel
theorem dX3_codedAll_9 : decode cX3_codedAll 9 = .ok (.ireturn, 1) := by decide +kernel
set_option maxRecDepth 20000 in
theorem ggX3_coded_X3_isRow : GoodIn wsX3_coded wsX3_isRow := goodIn_r _ [5, 6, 7, 8, 4, 9, 10, 11, 12, 13, 21, 22, 23, 24, 25, 26, 27] (by decide +kernel) (by decide +kernel)
set_option maxRecDepth 20000 in
theorem gX3_coded_X3_isRow : GoodIn wsX3_coded (wsV RX3 66 RX3 yX3_isRow wsX3_isRow) := goodIn_app (goodIn_of _ (by decide +kernel)) ggX3_coded_X3_isRow
set_option maxRecDepth 20000 in
theorem ggX3_coded_X3_codedAll : GoodIn wsX3_coded wsX3_codedAll := goodIn_r _ [17, 6, 7, 8, 4, 9, 10, 18, 19, 20, 21, 22, 23, 24, 25, 26, 27] (by decide +kernel) (by decide +kernel)
set_option maxRecDepth 20000 in
theorem gX3_coded_X3_codedAll : GoodIn wsX3_coded (wsV RX3 79 RX3 yX3_codedAll wsX3_codedAll) := goodIn_app (goodIn_of _ (by decide +kernel)) ggX3_coded_X3_codedAll
theorem dX3_coded_0 : decode cX3_coded 0 = .ok (.aload_n 0, 1) := by decide +kernel
theorem dX3_coded_1 : decode cX3_coded 1 = .ok (.iload_n 1, 1) := by decide +kernel
theorem dX3_coded_2 : decode cX3_coded 2 = .ok (.invokevirtual 66, 3) := by decide +kernel
theorem dX3_coded_5 : decode cX3_coded 5 = .ok (.ifCond .eq 11, 3) := by decide +kernel
theorem dX3_coded_8 : decode cX3_coded 8 = .ok (.aload_n 0, 1) := by decide +kernel
theorem dX3_coded_9 : decode cX3_coded 9 = .ok (.iload_n 1, 1) := by decide +kernel
theorem dX3_coded_10 : decode cX3_coded 10 = .ok (.invokevirtual 79, 3) := by decide +kernel
theorem dX3_coded_13 : decode cX3_coded 13 = .ok (.goto 5, 3) := by decide +kernel
theorem dX3_coded_16 : decode cX3_coded 16 = .ok (.bipush (-2), 2) := by decide +kernel
theorem dX3_coded_18 : decode cX3_coded 18 = .ok (.ireturn, 1) := by decide +kernel
set_option maxRecDepth 20000 in
theorem ggX3_wordOf_X3_places : GoodIn wsX3_wordOf wsX3_places := goodIn_r _ [5, 6, 11, 12, 13, 14, 15, 16, 17] (by decide +kernel) (by decide +kernel)
set_option maxRecDepth 20000 in
theorem gX3_wordOf_X3_places : GoodIn wsX3_wordOf (wsV RX3 29 RX3 yX3_places wsX3_places) := goodIn_app (goodIn_of _ (by decide +kernel)) ggX3_wordOf_X3_places
set_option maxRecDepth 20000 in
theorem ggX3_wordOf_X3_free : GoodIn wsX3_wordOf wsX3_free := goodIn_r _ [10, 6, 1, 2, 3, 4, 5, 11, 12, 13, 14, 15, 16, 17] (by decide +kernel) (by decide +kernel)
set_option maxRecDepth 20000 in
theorem gX3_wordOf_X3_free : GoodIn wsX3_wordOf (wsV RX3 69 RX3 yX3_free wsX3_free) := goodIn_app (goodIn_of _ (by decide +kernel)) ggX3_wordOf_X3_free
theorem dX3_wordOf_0 : decode cX3_wordOf 0 = .ok (.iconst 0, 1) := by decide +kernel
theorem dX3_wordOf_1 : decode cX3_wordOf 1 = .ok (.istore_n 2, 1) := by decide +kernel
theorem dX3_wordOf_2 : decode cX3_wordOf 2 = .ok (.iload_n 1, 1) := by decide +kernel
theorem dX3_wordOf_3 : decode cX3_wordOf 3 = .ok (.istore_n 3, 1) := by decide +kernel
theorem dX3_wordOf_4 : decode cX3_wordOf 4 = .ok (.iconst 0, 1) := by decide +kernel
theorem dX3_wordOf_5 : decode cX3_wordOf 5 = .ok (.istore 4, 2) := by decide +kernel
theorem dX3_wordOf_7 : decode cX3_wordOf 7 = .ok (.iload 4, 2) := by decide +kernel
theorem dX3_wordOf_9 : decode cX3_wordOf 9 = .ok (.aload_n 0, 1) := by decide +kernel
theorem dX3_wordOf_10 : decode cX3_wordOf 10 = .ok (.invokevirtual 29, 3) := by decide +kernel
theorem dX3_wordOf_13 : decode cX3_wordOf 13 = .ok (.if_icmp .ge 35, 3) := by decide +kernel
theorem dX3_wordOf_16 : decode cX3_wordOf 16 = .ok (.aload_n 0, 1) := by decide +kernel
theorem dX3_wordOf_17 : decode cX3_wordOf 17 = .ok (.invokevirtual 69, 3) := by decide +kernel
theorem dX3_wordOf_20 : decode cX3_wordOf 20 = .ok (.iload 4, 2) := by decide +kernel
theorem dX3_wordOf_22 : decode cX3_wordOf 22 = .ok (.ishr, 1) := by decide +kernel
theorem dX3_wordOf_23 : decode cX3_wordOf 23 = .ok (.iconst 1, 1) := by decide +kernel
theorem dX3_wordOf_24 : decode cX3_wordOf 24 = .ok (.iand, 1) := by decide +kernel
theorem dX3_wordOf_25 : decode cX3_wordOf 25 = .ok (.iconst 1, 1) := by decide +kernel
theorem dX3_wordOf_26 : decode cX3_wordOf 26 = .ok (.if_icmp .ne 16, 3) := by decide +kernel
theorem dX3_wordOf_29 : decode cX3_wordOf 29 = .ok (.iload_n 2, 1) := by decide +kernel
theorem dX3_wordOf_30 : decode cX3_wordOf 30 = .ok (.iload_n 3, 1) := by decide +kernel
theorem dX3_wordOf_31 : decode cX3_wordOf 31 = .ok (.iconst 1, 1) := by decide +kernel
theorem dX3_wordOf_32 : decode cX3_wordOf 32 = .ok (.iand, 1) := by decide +kernel
theorem dX3_wordOf_33 : decode cX3_wordOf 33 = .ok (.iload 4, 2) := by decide +kernel
theorem dX3_wordOf_35 : decode cX3_wordOf 35 = .ok (.ishl, 1) := by decide +kernel
theorem dX3_wordOf_36 : decode cX3_wordOf 36 = .ok (.ior, 1) := by decide +kernel
theorem dX3_wordOf_37 : decode cX3_wordOf 37 = .ok (.istore_n 2, 1) := by decide +kernel
theorem dX3_wordOf_38 : decode cX3_wordOf 38 = .ok (.iload_n 3, 1) := by decide +kernel
theorem dX3_wordOf_39 : decode cX3_wordOf 39 = .ok (.iconst 1, 1) := by decide +kernel
theorem dX3_wordOf_40 : decode cX3_wordOf 40 = .ok (.ishr, 1) := by decide +kernel
theorem dX3_wordOf_41 : decode cX3_wordOf 41 = .ok (.istore_n 3, 1) := by decide +kernel
theorem dX3_wordOf_42 : decode cX3_wordOf 42 = .ok (.iinc 4 1, 3) := by decide +kernel
theorem dX3_wordOf_45 : decode cX3_wordOf 45 = .ok (.goto (-38), 3) := by decide +kernel
theorem dX3_wordOf_48 : decode cX3_wordOf 48 = .ok (.iload_n 2, 1) := by decide +kernel
theorem dX3_wordOf_49 : decode cX3_wordOf 49 = .ok (.ireturn, 1) := by decide +kernel
set_option maxRecDepth 20000 in
theorem ggX3_word_X3_free : GoodIn wsX3_word wsX3_free := goodIn_r _ [5, 6, 7, 8, 9, 4, 10, 21, 22, 23, 24, 25, 26, 27] (by decide +kernel) (by decide +kernel)
set_option maxRecDepth 20000 in
theorem gX3_word_X3_free : GoodIn wsX3_word (wsV RX3 69 RX3 yX3_free wsX3_free) := goodIn_app (goodIn_of _ (by decide +kernel)) ggX3_word_X3_free
set_option maxRecDepth 20000 in
theorem ggX3_word_X3_size : GoodIn wsX3_word wsX3_size := goodIn_r _ [13] (by decide +kernel) (by decide +kernel)
set_option maxRecDepth 20000 in
theorem gX3_word_X3_size : GoodIn wsX3_word (va_wsS RX3 72 yX3_size wsX3_size) := goodIn_app (goodIn_of _ (by decide +kernel)) ggX3_word_X3_size
set_option maxRecDepth 20000 in
theorem ggX3_word_X3_in : GoodIn wsX3_word wsX3_in := goodIn_r _ [16] (by decide +kernel) (by decide +kernel)
set_option maxRecDepth 20000 in
theorem gX3_word_X3_in : GoodIn wsX3_word (va_wsS RX3 33 yX3_in wsX3_in) := goodIn_app (goodIn_of _ (by decide +kernel)) ggX3_word_X3_in
set_option maxRecDepth 20000 in
theorem ggX3_word_X3_wordOf : GoodIn wsX3_word wsX3_wordOf := goodIn_r _ [20, 7, 8, 9, 4, 10, 6, 1, 2, 3, 5, 21, 22, 23, 24, 25, 26, 27] (by decide +kernel) (by decide +kernel)
set_option maxRecDepth 20000 in
theorem gX3_word_X3_wordOf : GoodIn wsX3_word (wsV RX3 82 RX3 yX3_wordOf wsX3_wordOf) := goodIn_app (goodIn_of _ (by decide +kernel)) ggX3_word_X3_wordOf
theorem dX3_word_0 : decode cX3_word 0 = .ok (.iload_n 1, 1) := by decide +kernel
theorem dX3_word_1 : decode cX3_word 1 = .ok (.iconst 0, 1) := by decide +kernel
theorem dX3_word_2 : decode cX3_word 2 = .ok (.iconst 1, 1) := by decide +kernel
theorem dX3_word_3 : decode cX3_word 3 = .ok (.aload_n 0, 1) := by decide +kernel
theorem dX3_word_4 : decode cX3_word 4 = .ok (.invokevirtual 69, 3) := by decide +kernel
theorem dX3_word_7 : decode cX3_word 7 = .ok (.invokestatic 72, 3) := by decide +kernel
theorem dX3_word_10 : decode cX3_word 10 = .ok (.ishl, 1) := by decide +kernel
theorem dX3_word_11 : decode cX3_word 11 = .ok (.iconst 1, 1) := by decide +kernel
theorem dX3_word_12 : decode cX3_word 12 = .ok (.isub, 1) := by decide +kernel
theorem dX3_word_13 : decode cX3_word 13 = .ok (.invokestatic 33, 3) := by decide +kernel
theorem dX3_word_16 : decode cX3_word 16 = .ok (.ifCond .eq 11, 3) := by decide +kernel
theorem dX3_word_19 : decode cX3_word 19 = .ok (.aload_n 0, 1) := by decide +kernel
theorem dX3_word_20 : decode cX3_word 20 = .ok (.iload_n 1, 1) := by decide +kernel
theorem dX3_word_21 : decode cX3_word 21 = .ok (.invokevirtual 82, 3) := by decide +kernel
theorem dX3_word_24 : decode cX3_word 24 = .ok (.goto 5, 3) := by decide +kernel
theorem dX3_word_27 : decode cX3_word 27 = .ok (.bipush (-2), 2) := by decide +kernel
theorem dX3_word_29 : decode cX3_word 29 = .ok (.ireturn, 1) := by decide +kernel
set_option maxRecDepth 20000 in
theorem ggX3_light_X3_in : GoodIn wsX3_light wsX3_in := goodIn_r _ [4] (by decide +kernel) (by decide +kernel)
set_option maxRecDepth 20000 in
theorem gX3_light_X3_in : GoodIn wsX3_light (va_wsS RX3 33 yX3_in wsX3_in) := goodIn_app (goodIn_of _ (by decide +kernel)) ggX3_light_X3_in
set_option maxRecDepth 20000 in
theorem ggX3_light_X3_free : GoodIn wsX3_light wsX3_free := goodIn_r _ [8, 9, 10, 11, 12, 3, 13, 28, 29, 30, 31, 32, 33, 34] (by decide +kernel) (by decide +kernel)
set_option maxRecDepth 20000 in
theorem gX3_light_X3_free : GoodIn wsX3_light (wsV RX3 69 RX3 yX3_free wsX3_free) := goodIn_app (goodIn_of _ (by decide +kernel)) ggX3_light_X3_free
set_option maxRecDepth 20000 in
theorem ggX3_light_X3_size : GoodIn wsX3_light wsX3_size := goodIn_r _ [16] (by decide +kernel) (by decide +kernel)
set_option maxRecDepth 20000 in
theorem gX3_light_X3_size : GoodIn wsX3_light (va_wsS RX3 72 yX3_size wsX3_size) := goodIn_app (goodIn_of _ (by decide +kernel)) ggX3_light_X3_size
set_option maxRecDepth 20000 in
theorem ggX3_light_X3_wordOf : GoodIn wsX3_light wsX3_wordOf := goodIn_r _ [20, 10, 11, 12, 3, 13, 9, 5, 6, 7, 8, 28, 29, 30, 31, 32, 33, 34] (by decide +kernel) (by decide +kernel)
set_option maxRecDepth 20000 in
theorem gX3_light_X3_wordOf : GoodIn wsX3_light (wsV RX3 82 RX3 yX3_wordOf wsX3_wordOf) := goodIn_app (goodIn_of _ (by decide +kernel)) ggX3_light_X3_wordOf
set_option maxRecDepth 20000 in
theorem ggX3_light_X3_codedAll : GoodIn wsX3_light wsX3_codedAll := goodIn_r _ [24, 10, 11, 12, 3, 13, 9, 25, 26, 27, 28, 29, 30, 31, 32, 33, 34] (by decide +kernel) (by decide +kernel)
set_option maxRecDepth 20000 in
theorem gX3_light_X3_codedAll : GoodIn wsX3_light (wsV RX3 79 RX3 yX3_codedAll wsX3_codedAll) := goodIn_app (goodIn_of _ (by decide +kernel)) ggX3_light_X3_codedAll
theorem dX3_light_0 : decode cX3_light 0 = .ok (.iload_n 1, 1) := by decide +kernel
theorem dX3_light_1 : decode cX3_light 1 = .ok (.iconst 0, 1) := by decide +kernel
theorem dX3_light_2 : decode cX3_light 2 = .ok (.iconst 1, 1) := by decide +kernel
theorem dX3_light_3 : decode cX3_light 3 = .ok (.invokestatic 33, 3) := by decide +kernel
theorem dX3_light_6 : decode cX3_light 6 = .ok (.ifCond .ne 6, 3) := by decide +kernel
theorem dX3_light_9 : decode cX3_light 9 = .ok (.bipush (-2), 2) := by decide +kernel
theorem dX3_light_11 : decode cX3_light 11 = .ok (.ireturn, 1) := by decide +kernel
theorem dX3_light_12 : decode cX3_light 12 = .ok (.bipush (-6), 2) := by decide +kernel
theorem dX3_light_14 : decode cX3_light 14 = .ok (.istore_n 2, 1) := by decide +kernel
theorem dX3_light_15 : decode cX3_light 15 = .ok (.iconst 0, 1) := by decide +kernel
theorem dX3_light_16 : decode cX3_light 16 = .ok (.istore_n 3, 1) := by decide +kernel
theorem dX3_light_17 : decode cX3_light 17 = .ok (.iconst 1, 1) := by decide +kernel
theorem dX3_light_18 : decode cX3_light 18 = .ok (.istore 4, 2) := by decide +kernel
theorem dX3_light_20 : decode cX3_light 20 = .ok (.iload 4, 2) := by decide +kernel
theorem dX3_light_22 : decode cX3_light 22 = .ok (.iconst 1, 1) := by decide +kernel
theorem dX3_light_23 : decode cX3_light 23 = .ok (.aload_n 0, 1) := by decide +kernel
theorem dX3_light_24 : decode cX3_light 24 = .ok (.invokevirtual 69, 3) := by decide +kernel
theorem dX3_light_27 : decode cX3_light 27 = .ok (.invokestatic 72, 3) := by decide +kernel
theorem dX3_light_30 : decode cX3_light 30 = .ok (.ishl, 1) := by decide +kernel
theorem dX3_light_31 : decode cX3_light 31 = .ok (.if_icmp .ge 71, 3) := by decide +kernel
theorem dX3_light_34 : decode cX3_light 34 = .ok (.aload_n 0, 1) := by decide +kernel
theorem dX3_light_35 : decode cX3_light 35 = .ok (.aload_n 0, 1) := by decide +kernel
theorem dX3_light_36 : decode cX3_light 36 = .ok (.iload 4, 2) := by decide +kernel
theorem dX3_light_38 : decode cX3_light 38 = .ok (.invokevirtual 82, 3) := by decide +kernel
theorem dX3_light_41 : decode cX3_light 41 = .ok (.invokevirtual 79, 3) := by decide +kernel
theorem dX3_light_44 : decode cX3_light 44 = .ok (.invokestatic 72, 3) := by decide +kernel
theorem dX3_light_47 : decode cX3_light 47 = .ok (.istore 5, 2) := by decide +kernel
theorem dX3_light_49 : decode cX3_light 49 = .ok (.iload_n 2, 1) := by decide +kernel
theorem dX3_light_50 : decode cX3_light 50 = .ok (.ifCond .lt 9, 3) := by decide +kernel
theorem dX3_light_53 : decode cX3_light 53 = .ok (.iload 5, 2) := by decide +kernel
theorem dX3_light_55 : decode cX3_light 55 = .ok (.iload_n 2, 1) := by decide +kernel
theorem dX3_light_56 : decode cX3_light 56 = .ok (.if_icmp .ge 7, 3) := by decide +kernel
theorem dX3_light_59 : decode cX3_light 59 = .ok (.iconst 0, 1) := by decide +kernel
theorem dX3_light_60 : decode cX3_light 60 = .ok (.goto 4, 3) := by decide +kernel
theorem dX3_light_63 : decode cX3_light 63 = .ok (.iload_n 3, 1) := by decide +kernel
theorem dX3_light_64 : decode cX3_light 64 = .ok (.istore_n 3, 1) := by decide +kernel
theorem dX3_light_65 : decode cX3_light 65 = .ok (.iload_n 2, 1) := by decide +kernel
theorem dX3_light_66 : decode cX3_light 66 = .ok (.ifCond .lt 9, 3) := by decide +kernel
theorem dX3_light_69 : decode cX3_light 69 = .ok (.iload 5, 2) := by decide +kernel
theorem dX3_light_71 : decode cX3_light 71 = .ok (.iload_n 2, 1) := by decide +kernel
theorem dX3_light_72 : decode cX3_light 72 = .ok (.if_icmp .ge 8, 3) := by decide +kernel
theorem dX3_light_75 : decode cX3_light 75 = .ok (.iload 5, 2) := by decide +kernel
theorem dX3_light_77 : decode cX3_light 77 = .ok (.goto 4, 3) := by decide +kernel
theorem dX3_light_80 : decode cX3_light 80 = .ok (.iload_n 2, 1) := by decide +kernel
theorem dX3_light_81 : decode cX3_light 81 = .ok (.istore_n 2, 1) := by decide +kernel
theorem dX3_light_82 : decode cX3_light 82 = .ok (.iload_n 3, 1) := by decide +kernel
theorem dX3_light_83 : decode cX3_light 83 = .ok (.iload 5, 2) := by decide +kernel
theorem dX3_light_85 : decode cX3_light 85 = .ok (.iload_n 2, 1) := by decide +kernel
theorem dX3_light_86 : decode cX3_light 86 = .ok (.if_icmp .ne 7, 3) := by decide +kernel
theorem dX3_light_89 : decode cX3_light 89 = .ok (.iconst 1, 1) := by decide +kernel
theorem dX3_light_90 : decode cX3_light 90 = .ok (.goto 4, 3) := by decide +kernel
theorem dX3_light_93 : decode cX3_light 93 = .ok (.iconst 0, 1) := by decide +kernel
theorem dX3_light_94 : decode cX3_light 94 = .ok (.iadd, 1) := by decide +kernel
theorem dX3_light_95 : decode cX3_light 95 = .ok (.istore_n 3, 1) := by decide +kernel
theorem dX3_light_96 : decode cX3_light 96 = .ok (.iinc 4 1, 3) := by decide +kernel
theorem dX3_light_99 : decode cX3_light 99 = .ok (.goto (-79), 3) := by decide +kernel
theorem dX3_light_102 : decode cX3_light 102 = .ok (.iload_n 2, 1) := by decide +kernel
theorem dX3_light_103 : decode cX3_light 103 = .ok (.ifCond .lt 7, 3) := by decide +kernel
theorem dX3_light_106 : decode cX3_light 106 = .ok (.iload_n 1, 1) := by decide +kernel
theorem dX3_light_107 : decode cX3_light 107 = .ok (.ifCond .ne 7, 3) := by decide +kernel
theorem dX3_light_110 : decode cX3_light 110 = .ok (.iload_n 2, 1) := by decide +kernel
theorem dX3_light_111 : decode cX3_light 111 = .ok (.goto 4, 3) := by decide +kernel
theorem dX3_light_114 : decode cX3_light 114 = .ok (.iload_n 3, 1) := by decide +kernel
theorem dX3_light_115 : decode cX3_light 115 = .ok (.ireturn, 1) := by decide +kernel
set_option maxRecDepth 20000 in
theorem ggX3_put_X3_isPlace : GoodIn wsX3_put wsX3_isPlace := goodIn_r _ [8, 9, 10, 11, 7, 12, 3, 13, 14, 15, 16, 17, 18, 19, 20, 21, 22] (by decide +kernel) (by decide +kernel)
set_option maxRecDepth 20000 in
theorem gX3_put_X3_isPlace : GoodIn wsX3_put (wsV RX3 39 RX3 yX3_isPlace wsX3_isPlace) := goodIn_app (goodIn_of _ (by decide +kernel)) ggX3_put_X3_isPlace
set_option maxRecDepth 20000 in
theorem ggX3_put_X3_in : GoodIn wsX3_put wsX3_in := goodIn_r _ [15] (by decide +kernel) (by decide +kernel)
set_option maxRecDepth 20000 in
theorem gX3_put_X3_in : GoodIn wsX3_put (va_wsS RX3 33 yX3_in wsX3_in) := goodIn_app (goodIn_of _ (by decide +kernel)) ggX3_put_X3_in
theorem dX3_put_0 : decode cX3_put 0 = .ok (.aload_n 0, 1) := by decide +kernel
theorem dX3_put_1 : decode cX3_put 1 = .ok (.iload_n 1, 1) := by decide +kernel
theorem dX3_put_2 : decode cX3_put 2 = .ok (.invokevirtual 39, 3) := by decide +kernel
theorem dX3_put_5 : decode cX3_put 5 = .ok (.ifCond .ne 6, 3) := by decide +kernel
theorem dX3_put_8 : decode cX3_put 8 = .ok (.ldc 85, 2) := by decide +kernel
theorem dX3_put_10 : decode cX3_put 10 = .ok (.ireturn, 1) := by decide +kernel
theorem dX3_put_11 : decode cX3_put 11 = .ok (.iload_n 2, 1) := by decide +kernel
theorem dX3_put_12 : decode cX3_put 12 = .ok (.bipush (-99), 2) := by decide +kernel
theorem dX3_put_14 : decode cX3_put 14 = .ok (.bipush 99, 2) := by decide +kernel
theorem dX3_put_16 : decode cX3_put 16 = .ok (.invokestatic 33, 3) := by decide +kernel
theorem dX3_put_19 : decode cX3_put 19 = .ok (.ifCond .ne 6, 3) := by decide +kernel
theorem dX3_put_22 : decode cX3_put 22 = .ok (.ldc 86, 2) := by decide +kernel
theorem dX3_put_24 : decode cX3_put 24 = .ok (.ireturn, 1) := by decide +kernel
theorem dX3_put_25 : decode cX3_put 25 = .ok (.aload_n 0, 1) := by decide +kernel
theorem dX3_put_26 : decode cX3_put 26 = .ok (.getfield 7, 3) := by decide +kernel
theorem dX3_put_29 : decode cX3_put 29 = .ok (.bipush 8, 2) := by decide +kernel
theorem dX3_put_31 : decode cX3_put 31 = .ok (.iload_n 1, 1) := by decide +kernel
theorem dX3_put_32 : decode cX3_put 32 = .ok (.iadd, 1) := by decide +kernel
theorem dX3_put_33 : decode cX3_put 33 = .ok (.iaload, 1) := by decide +kernel
theorem dX3_put_34 : decode cX3_put 34 = .ok (.istore_n 3, 1) := by decide +kernel
theorem dX3_put_35 : decode cX3_put 35 = .ok (.aload_n 0, 1) := by decide +kernel
theorem dX3_put_36 : decode cX3_put 36 = .ok (.getfield 7, 3) := by decide +kernel
theorem dX3_put_39 : decode cX3_put 39 = .ok (.bipush 8, 2) := by decide +kernel
theorem dX3_put_41 : decode cX3_put 41 = .ok (.iload_n 1, 1) := by decide +kernel
theorem dX3_put_42 : decode cX3_put 42 = .ok (.iadd, 1) := by decide +kernel
theorem dX3_put_43 : decode cX3_put 43 = .ok (.iload_n 2, 1) := by decide +kernel
theorem dX3_put_44 : decode cX3_put 44 = .ok (.iastore, 1) := by decide +kernel
theorem dX3_put_45 : decode cX3_put 45 = .ok (.iload_n 3, 1) := by decide +kernel
theorem dX3_put_46 : decode cX3_put 46 = .ok (.ireturn, 1) := by decide +kernel
set_option maxRecDepth 20000 in
theorem ggX3_hear_X3_isRow : GoodIn wsX3_hear wsX3_isRow := goodIn_r _ [6, 7, 8, 9, 5, 10, 1, 11, 12, 13, 21, 22, 23, 24, 25, 26, 27] (by decide +kernel) (by decide +kernel)
set_option maxRecDepth 20000 in
theorem gX3_hear_X3_isRow : GoodIn wsX3_hear (wsV RX3 66 RX3 yX3_isRow wsX3_isRow) := goodIn_app (goodIn_of _ (by decide +kernel)) ggX3_hear_X3_isRow
set_option maxRecDepth 20000 in
theorem ggX3_hear_X3_in : GoodIn wsX3_hear wsX3_in := goodIn_r _ [13] (by decide +kernel) (by decide +kernel)
set_option maxRecDepth 20000 in
theorem gX3_hear_X3_in : GoodIn wsX3_hear (va_wsS RX3 33 yX3_in wsX3_in) := goodIn_app (goodIn_of _ (by decide +kernel)) ggX3_hear_X3_in
set_option maxRecDepth 20000 in
theorem ggX3_hear_X3_codedAll : GoodIn wsX3_hear wsX3_codedAll := goodIn_r _ [17, 7, 8, 9, 5, 10, 1, 18, 19, 20, 21, 22, 23, 24, 25, 26, 27] (by decide +kernel) (by decide +kernel)
set_option maxRecDepth 20000 in
theorem gX3_hear_X3_codedAll : GoodIn wsX3_hear (wsV RX3 79 RX3 yX3_codedAll wsX3_codedAll) := goodIn_app (goodIn_of _ (by decide +kernel)) ggX3_hear_X3_codedAll
set_option maxRecDepth 20000 in
theorem ggX3_hear_X3_places : GoodIn wsX3_hear wsX3_places := goodIn_r _ [10, 1, 21, 22, 23, 24, 25, 26, 27] (by decide +kernel) (by decide +kernel)
set_option maxRecDepth 20000 in
theorem gX3_hear_X3_places : GoodIn wsX3_hear (wsV RX3 29 RX3 yX3_places wsX3_places) := goodIn_app (goodIn_of _ (by decide +kernel)) ggX3_hear_X3_places
theorem dX3_hear_0 : decode cX3_hear 0 = .ok (.aload_n 0, 1) := by decide +kernel
theorem dX3_hear_1 : decode cX3_hear 1 = .ok (.iload_n 1, 1) := by decide +kernel
theorem dX3_hear_2 : decode cX3_hear 2 = .ok (.invokevirtual 66, 3) := by decide +kernel
theorem dX3_hear_5 : decode cX3_hear 5 = .ok (.ifCond .eq 13, 3) := by decide +kernel
theorem dX3_hear_8 : decode cX3_hear 8 = .ok (.iload_n 2, 1) := by decide +kernel
theorem dX3_hear_9 : decode cX3_hear 9 = .ok (.iconst 1, 1) := by decide +kernel
theorem dX3_hear_10 : decode cX3_hear 10 = .ok (.bipush 99, 2) := by decide +kernel
theorem dX3_hear_12 : decode cX3_hear 12 = .ok (.invokestatic 33, 3) := by decide +kernel
theorem dX3_hear_15 : decode cX3_hear 15 = .ok (.ifCond .ne 6, 3) := by decide +kernel
theorem dX3_hear_18 : decode cX3_hear 18 = .ok (.bipush (-2), 2) := by decide +kernel
theorem dX3_hear_20 : decode cX3_hear 20 = .ok (.ireturn, 1) := by decide +kernel
theorem dX3_hear_21 : decode cX3_hear 21 = .ok (.aload_n 0, 1) := by decide +kernel
theorem dX3_hear_22 : decode cX3_hear 22 = .ok (.iload_n 1, 1) := by decide +kernel
theorem dX3_hear_23 : decode cX3_hear 23 = .ok (.invokevirtual 79, 3) := by decide +kernel
theorem dX3_hear_26 : decode cX3_hear 26 = .ok (.istore_n 3, 1) := by decide +kernel
theorem dX3_hear_27 : decode cX3_hear 27 = .ok (.iconst 0, 1) := by decide +kernel
theorem dX3_hear_28 : decode cX3_hear 28 = .ok (.istore 4, 2) := by decide +kernel
theorem dX3_hear_30 : decode cX3_hear 30 = .ok (.iload 4, 2) := by decide +kernel
theorem dX3_hear_32 : decode cX3_hear 32 = .ok (.aload_n 0, 1) := by decide +kernel
theorem dX3_hear_33 : decode cX3_hear 33 = .ok (.invokevirtual 29, 3) := by decide +kernel
theorem dX3_hear_36 : decode cX3_hear 36 = .ok (.if_icmp .ge 34, 3) := by decide +kernel
theorem dX3_hear_39 : decode cX3_hear 39 = .ok (.aload_n 0, 1) := by decide +kernel
theorem dX3_hear_40 : decode cX3_hear 40 = .ok (.getfield 7, 3) := by decide +kernel
theorem dX3_hear_43 : decode cX3_hear 43 = .ok (.bipush 8, 2) := by decide +kernel
theorem dX3_hear_45 : decode cX3_hear 45 = .ok (.iload 4, 2) := by decide +kernel
theorem dX3_hear_47 : decode cX3_hear 47 = .ok (.iadd, 1) := by decide +kernel
theorem dX3_hear_48 : decode cX3_hear 48 = .ok (.iload_n 3, 1) := by decide +kernel
theorem dX3_hear_49 : decode cX3_hear 49 = .ok (.iload 4, 2) := by decide +kernel
theorem dX3_hear_51 : decode cX3_hear 51 = .ok (.ishr, 1) := by decide +kernel
theorem dX3_hear_52 : decode cX3_hear 52 = .ok (.iconst 1, 1) := by decide +kernel
theorem dX3_hear_53 : decode cX3_hear 53 = .ok (.iand, 1) := by decide +kernel
theorem dX3_hear_54 : decode cX3_hear 54 = .ok (.ifCond .ne 7, 3) := by decide +kernel
theorem dX3_hear_57 : decode cX3_hear 57 = .ok (.iload_n 2, 1) := by decide +kernel
theorem dX3_hear_58 : decode cX3_hear 58 = .ok (.goto 5, 3) := by decide +kernel
theorem dX3_hear_61 : decode cX3_hear 61 = .ok (.iload_n 2, 1) := by decide +kernel
theorem dX3_hear_62 : decode cX3_hear 62 = .ok (.ineg, 1) := by decide +kernel
theorem dX3_hear_63 : decode cX3_hear 63 = .ok (.iastore, 1) := by decide +kernel
theorem dX3_hear_64 : decode cX3_hear 64 = .ok (.iinc 4 1, 3) := by decide +kernel
theorem dX3_hear_67 : decode cX3_hear 67 = .ok (.goto (-37), 3) := by decide +kernel
theorem dX3_hear_70 : decode cX3_hear 70 = .ok (.iload_n 3, 1) := by decide +kernel
theorem dX3_hear_71 : decode cX3_hear 71 = .ok (.ireturn, 1) := by decide +kernel
set_option maxRecDepth 20000 in
theorem ggX3_spoil_X3_isRow : GoodIn wsX3_spoil wsX3_isRow := goodIn_r _ [6, 7, 8, 9, 5, 10, 1, 11, 12, 13, 14, 15, 16, 17, 18, 19, 20] (by decide +kernel) (by decide +kernel)
set_option maxRecDepth 20000 in
theorem gX3_spoil_X3_isRow : GoodIn wsX3_spoil (wsV RX3 66 RX3 yX3_isRow wsX3_isRow) := goodIn_app (goodIn_of _ (by decide +kernel)) ggX3_spoil_X3_isRow
set_option maxRecDepth 20000 in
theorem ggX3_spoil_X3_in : GoodIn wsX3_spoil wsX3_in := goodIn_r _ [13] (by decide +kernel) (by decide +kernel)
set_option maxRecDepth 20000 in
theorem gX3_spoil_X3_in : GoodIn wsX3_spoil (va_wsS RX3 33 yX3_in wsX3_in) := goodIn_app (goodIn_of _ (by decide +kernel)) ggX3_spoil_X3_in
set_option maxRecDepth 20000 in
theorem ggX3_spoil_X3_places : GoodIn wsX3_spoil wsX3_places := goodIn_r _ [10, 1, 14, 15, 16, 17, 18, 19, 20] (by decide +kernel) (by decide +kernel)
set_option maxRecDepth 20000 in
theorem gX3_spoil_X3_places : GoodIn wsX3_spoil (wsV RX3 29 RX3 yX3_places wsX3_places) := goodIn_app (goodIn_of _ (by decide +kernel)) ggX3_spoil_X3_places
theorem dX3_spoil_0 : decode cX3_spoil 0 = .ok (.aload_n 0, 1) := by decide +kernel
theorem dX3_spoil_1 : decode cX3_spoil 1 = .ok (.iload_n 1, 1) := by decide +kernel
theorem dX3_spoil_2 : decode cX3_spoil 2 = .ok (.invokevirtual 66, 3) := by decide +kernel
theorem dX3_spoil_5 : decode cX3_spoil 5 = .ok (.ifCond .eq 12, 3) := by decide +kernel
theorem dX3_spoil_8 : decode cX3_spoil 8 = .ok (.iload_n 2, 1) := by decide +kernel
theorem dX3_spoil_9 : decode cX3_spoil 9 = .ok (.iconst 0, 1) := by decide +kernel
theorem dX3_spoil_10 : decode cX3_spoil 10 = .ok (.iconst 1, 1) := by decide +kernel
theorem dX3_spoil_11 : decode cX3_spoil 11 = .ok (.invokestatic 33, 3) := by decide +kernel
theorem dX3_spoil_14 : decode cX3_spoil 14 = .ok (.ifCond .ne 6, 3) := by decide +kernel
theorem dX3_spoil_17 : decode cX3_spoil 17 = .ok (.bipush (-2), 2) := by decide +kernel
theorem dX3_spoil_19 : decode cX3_spoil 19 = .ok (.ireturn, 1) := by decide +kernel
theorem dX3_spoil_20 : decode cX3_spoil 20 = .ok (.iconst 0, 1) := by decide +kernel
theorem dX3_spoil_21 : decode cX3_spoil 21 = .ok (.istore_n 3, 1) := by decide +kernel
theorem dX3_spoil_22 : decode cX3_spoil 22 = .ok (.iconst 0, 1) := by decide +kernel
theorem dX3_spoil_23 : decode cX3_spoil 23 = .ok (.istore 4, 2) := by decide +kernel
theorem dX3_spoil_25 : decode cX3_spoil 25 = .ok (.iload 4, 2) := by decide +kernel
theorem dX3_spoil_27 : decode cX3_spoil 27 = .ok (.aload_n 0, 1) := by decide +kernel
theorem dX3_spoil_28 : decode cX3_spoil 28 = .ok (.invokevirtual 29, 3) := by decide +kernel
theorem dX3_spoil_31 : decode cX3_spoil 31 = .ok (.if_icmp .ge 69, 3) := by decide +kernel
theorem dX3_spoil_34 : decode cX3_spoil 34 = .ok (.iload_n 1, 1) := by decide +kernel
theorem dX3_spoil_35 : decode cX3_spoil 35 = .ok (.iload 4, 2) := by decide +kernel
theorem dX3_spoil_37 : decode cX3_spoil 37 = .ok (.ishr, 1) := by decide +kernel
theorem dX3_spoil_38 : decode cX3_spoil 38 = .ok (.iconst 1, 1) := by decide +kernel
theorem dX3_spoil_39 : decode cX3_spoil 39 = .ok (.iand, 1) := by decide +kernel
theorem dX3_spoil_40 : decode cX3_spoil 40 = .ok (.iconst 1, 1) := by decide +kernel
theorem dX3_spoil_41 : decode cX3_spoil 41 = .ok (.if_icmp .ne 53, 3) := by decide +kernel
theorem dX3_spoil_44 : decode cX3_spoil 44 = .ok (.iload_n 3, 1) := by decide +kernel
theorem dX3_spoil_45 : decode cX3_spoil 45 = .ok (.aload_n 0, 1) := by decide +kernel
theorem dX3_spoil_46 : decode cX3_spoil 46 = .ok (.getfield 7, 3) := by decide +kernel
theorem dX3_spoil_49 : decode cX3_spoil 49 = .ok (.bipush 8, 2) := by decide +kernel
theorem dX3_spoil_51 : decode cX3_spoil 51 = .ok (.iload 4, 2) := by decide +kernel
theorem dX3_spoil_53 : decode cX3_spoil 53 = .ok (.iadd, 1) := by decide +kernel
theorem dX3_spoil_54 : decode cX3_spoil 54 = .ok (.iaload, 1) := by decide +kernel
theorem dX3_spoil_55 : decode cX3_spoil 55 = .ok (.ifCond .ne 7, 3) := by decide +kernel
theorem dX3_spoil_58 : decode cX3_spoil 58 = .ok (.iconst 0, 1) := by decide +kernel
theorem dX3_spoil_59 : decode cX3_spoil 59 = .ok (.goto 4, 3) := by decide +kernel
theorem dX3_spoil_62 : decode cX3_spoil 62 = .ok (.iconst 1, 1) := by decide +kernel
theorem dX3_spoil_63 : decode cX3_spoil 63 = .ok (.iadd, 1) := by decide +kernel
theorem dX3_spoil_64 : decode cX3_spoil 64 = .ok (.istore_n 3, 1) := by decide +kernel
theorem dX3_spoil_65 : decode cX3_spoil 65 = .ok (.aload_n 0, 1) := by decide +kernel
theorem dX3_spoil_66 : decode cX3_spoil 66 = .ok (.getfield 7, 3) := by decide +kernel
theorem dX3_spoil_69 : decode cX3_spoil 69 = .ok (.bipush 8, 2) := by decide +kernel
theorem dX3_spoil_71 : decode cX3_spoil 71 = .ok (.iload 4, 2) := by decide +kernel
theorem dX3_spoil_73 : decode cX3_spoil 73 = .ok (.iadd, 1) := by decide +kernel
theorem dX3_spoil_74 : decode cX3_spoil 74 = .ok (.iload_n 2, 1) := by decide +kernel
theorem dX3_spoil_75 : decode cX3_spoil 75 = .ok (.ifCond .ne 7, 3) := by decide +kernel
theorem dX3_spoil_78 : decode cX3_spoil 78 = .ok (.iconst 0, 1) := by decide +kernel
theorem dX3_spoil_79 : decode cX3_spoil 79 = .ok (.goto 14, 3) := by decide +kernel
theorem dX3_spoil_82 : decode cX3_spoil 82 = .ok (.aload_n 0, 1) := by decide +kernel
theorem dX3_spoil_83 : decode cX3_spoil 83 = .ok (.getfield 7, 3) := by decide +kernel
theorem dX3_spoil_86 : decode cX3_spoil 86 = .ok (.bipush 8, 2) := by decide +kernel
theorem dX3_spoil_88 : decode cX3_spoil 88 = .ok (.iload 4, 2) := by decide +kernel
theorem dX3_spoil_90 : decode cX3_spoil 90 = .ok (.iadd, 1) := by decide +kernel
theorem dX3_spoil_91 : decode cX3_spoil 91 = .ok (.iaload, 1) := by decide +kernel
theorem dX3_spoil_92 : decode cX3_spoil 92 = .ok (.ineg, 1) := by decide +kernel
theorem dX3_spoil_93 : decode cX3_spoil 93 = .ok (.iastore, 1) := by decide +kernel
theorem dX3_spoil_94 : decode cX3_spoil 94 = .ok (.iinc 4 1, 3) := by decide +kernel
theorem dX3_spoil_97 : decode cX3_spoil 97 = .ok (.goto (-72), 3) := by decide +kernel
theorem dX3_spoil_100 : decode cX3_spoil 100 = .ok (.iload_n 3, 1) := by decide +kernel
theorem dX3_spoil_101 : decode cX3_spoil 101 = .ok (.ireturn, 1) := by decide +kernel
set_option maxRecDepth 20000 in
theorem ggX3_lesser_X3_plain : GoodIn wsX3_lesser wsX3_plain := goodIn_r _ [4] (by decide +kernel) (by decide +kernel)
set_option maxRecDepth 20000 in
theorem gX3_lesser_X3_plain : GoodIn wsX3_lesser (va_wsS RX3 87 yX3_plain wsX3_plain) := goodIn_app (goodIn_of _ (by decide +kernel)) ggX3_lesser_X3_plain
theorem dX3_lesser_0 : decode cX3_lesser 0 = .ok (.iload_n 0, 1) := by decide +kernel
theorem dX3_lesser_1 : decode cX3_lesser 1 = .ok (.invokestatic 87, 3) := by decide +kernel
theorem dX3_lesser_4 : decode cX3_lesser 4 = .ok (.istore_n 2, 1) := by decide +kernel
theorem dX3_lesser_5 : decode cX3_lesser 5 = .ok (.iload_n 1, 1) := by decide +kernel
theorem dX3_lesser_6 : decode cX3_lesser 6 = .ok (.invokestatic 87, 3) := by decide +kernel
theorem dX3_lesser_9 : decode cX3_lesser 9 = .ok (.istore_n 3, 1) := by decide +kernel
theorem dX3_lesser_10 : decode cX3_lesser 10 = .ok (.iload_n 2, 1) := by decide +kernel
theorem dX3_lesser_11 : decode cX3_lesser 11 = .ok (.iload_n 3, 1) := by decide +kernel
theorem dX3_lesser_12 : decode cX3_lesser 12 = .ok (.if_icmp .ge 7, 3) := by decide +kernel
theorem dX3_lesser_15 : decode cX3_lesser 15 = .ok (.iload_n 2, 1) := by decide +kernel
theorem dX3_lesser_16 : decode cX3_lesser 16 = .ok (.goto 4, 3) := by decide +kernel
theorem dX3_lesser_19 : decode cX3_lesser 19 = .ok (.iload_n 3, 1) := by decide +kernel
theorem dX3_lesser_20 : decode cX3_lesser 20 = .ok (.istore 4, 2) := by decide +kernel
theorem dX3_lesser_22 : decode cX3_lesser 22 = .ok (.iload_n 0, 1) := by decide +kernel
theorem dX3_lesser_23 : decode cX3_lesser 23 = .ok (.ifCond .ge 7, 3) := by decide +kernel
theorem dX3_lesser_26 : decode cX3_lesser 26 = .ok (.iconst 1, 1) := by decide +kernel
theorem dX3_lesser_27 : decode cX3_lesser 27 = .ok (.goto 4, 3) := by decide +kernel
theorem dX3_lesser_30 : decode cX3_lesser 30 = .ok (.iconst 0, 1) := by decide +kernel
theorem dX3_lesser_31 : decode cX3_lesser 31 = .ok (.iload_n 1, 1) := by decide +kernel
theorem dX3_lesser_32 : decode cX3_lesser 32 = .ok (.ifCond .ge 7, 3) := by decide +kernel
theorem dX3_lesser_35 : decode cX3_lesser 35 = .ok (.iconst 1, 1) := by decide +kernel
theorem dX3_lesser_36 : decode cX3_lesser 36 = .ok (.goto 4, 3) := by decide +kernel
theorem dX3_lesser_39 : decode cX3_lesser 39 = .ok (.iconst 0, 1) := by decide +kernel
theorem dX3_lesser_40 : decode cX3_lesser 40 = .ok (.if_icmp .ne 8, 3) := by decide +kernel
theorem dX3_lesser_43 : decode cX3_lesser 43 = .ok (.iload 4, 2) := by decide +kernel
theorem dX3_lesser_45 : decode cX3_lesser 45 = .ok (.goto 6, 3) := by decide +kernel
theorem dX3_lesser_48 : decode cX3_lesser 48 = .ok (.iload 4, 2) := by decide +kernel
theorem dX3_lesser_50 : decode cX3_lesser 50 = .ok (.ineg, 1) := by decide +kernel
theorem dX3_lesser_51 : decode cX3_lesser 51 = .ok (.ireturn, 1) := by decide +kernel
set_option maxRecDepth 20000 in
theorem ggX3_seen_X3_places : GoodIn wsX3_seen wsX3_places := goodIn_r _ [7, 2, 17, 18, 19, 20, 21, 22, 23] (by decide +kernel) (by decide +kernel)
set_option maxRecDepth 20000 in
theorem gX3_seen_X3_places : GoodIn wsX3_seen (wsV RX3 29 RX3 yX3_places wsX3_places) := goodIn_app (goodIn_of _ (by decide +kernel)) ggX3_seen_X3_places
set_option maxRecDepth 20000 in
theorem ggX3_seen_X3_codedOf : GoodIn wsX3_seen wsX3_codedOf := goodIn_r _ [10] (by decide +kernel) (by decide +kernel)
set_option maxRecDepth 20000 in
theorem gX3_seen_X3_codedOf : GoodIn wsX3_seen (va_wsS RX3 75 yX3_codedOf wsX3_codedOf) := goodIn_app (goodIn_of _ (by decide +kernel)) ggX3_seen_X3_codedOf
set_option maxRecDepth 20000 in
theorem ggX3_seen_X3_lesser : GoodIn wsX3_seen wsX3_lesser := goodIn_r _ [13, 14, 15, 6, 16] (by decide +kernel) (by decide +kernel)
set_option maxRecDepth 20000 in
theorem gX3_seen_X3_lesser : GoodIn wsX3_seen (va_wsS RX3 90 yX3_lesser wsX3_lesser) := goodIn_app (goodIn_of _ (by decide +kernel)) ggX3_seen_X3_lesser
theorem dX3_seen_0 : decode cX3_seen 0 = .ok (.iconst 0, 1) := by decide +kernel
theorem dX3_seen_1 : decode cX3_seen 1 = .ok (.istore_n 3, 1) := by decide +kernel
theorem dX3_seen_2 : decode cX3_seen 2 = .ok (.iload_n 3, 1) := by decide +kernel
theorem dX3_seen_3 : decode cX3_seen 3 = .ok (.aload_n 0, 1) := by decide +kernel
theorem dX3_seen_4 : decode cX3_seen 4 = .ok (.invokevirtual 29, 3) := by decide +kernel
theorem dX3_seen_7 : decode cX3_seen 7 = .ok (.if_icmp .ge 24, 3) := by decide +kernel
theorem dX3_seen_10 : decode cX3_seen 10 = .ok (.aload_n 0, 1) := by decide +kernel
theorem dX3_seen_11 : decode cX3_seen 11 = .ok (.getfield 20, 3) := by decide +kernel
theorem dX3_seen_14 : decode cX3_seen 14 = .ok (.iload_n 3, 1) := by decide +kernel
theorem dX3_seen_15 : decode cX3_seen 15 = .ok (.aload_n 0, 1) := by decide +kernel
theorem dX3_seen_16 : decode cX3_seen 16 = .ok (.getfield 7, 3) := by decide +kernel
theorem dX3_seen_19 : decode cX3_seen 19 = .ok (.bipush 8, 2) := by decide +kernel
theorem dX3_seen_21 : decode cX3_seen 21 = .ok (.iload_n 3, 1) := by decide +kernel
theorem dX3_seen_22 : decode cX3_seen 22 = .ok (.iadd, 1) := by decide +kernel
theorem dX3_seen_23 : decode cX3_seen 23 = .ok (.iaload, 1) := by decide +kernel
theorem dX3_seen_24 : decode cX3_seen 24 = .ok (.iastore, 1) := by decide +kernel
theorem dX3_seen_25 : decode cX3_seen 25 = .ok (.iinc 3 1, 3) := by decide +kernel
theorem dX3_seen_28 : decode cX3_seen 28 = .ok (.goto (-26), 3) := by decide +kernel
theorem dX3_seen_31 : decode cX3_seen 31 = .ok (.iconst 0, 1) := by decide +kernel
theorem dX3_seen_32 : decode cX3_seen 32 = .ok (.istore_n 3, 1) := by decide +kernel
theorem dX3_seen_33 : decode cX3_seen 33 = .ok (.aload_n 0, 1) := by decide +kernel
theorem dX3_seen_34 : decode cX3_seen 34 = .ok (.invokevirtual 29, 3) := by decide +kernel
theorem dX3_seen_37 : decode cX3_seen 37 = .ok (.iconst 2, 1) := by decide +kernel
theorem dX3_seen_38 : decode cX3_seen 38 = .ok (.idiv, 1) := by decide +kernel
theorem dX3_seen_39 : decode cX3_seen 39 = .ok (.istore 4, 2) := by decide +kernel
theorem dX3_seen_41 : decode cX3_seen 41 = .ok (.iload 4, 2) := by decide +kernel
theorem dX3_seen_43 : decode cX3_seen 43 = .ok (.ifCond .le 132, 3) := by decide +kernel
theorem dX3_seen_46 : decode cX3_seen 46 = .ok (.iload_n 1, 1) := by decide +kernel
theorem dX3_seen_47 : decode cX3_seen 47 = .ok (.iload_n 3, 1) := by decide +kernel
theorem dX3_seen_48 : decode cX3_seen 48 = .ok (.iload 4, 2) := by decide +kernel
theorem dX3_seen_50 : decode cX3_seen 50 = .ok (.iadd, 1) := by decide +kernel
theorem dX3_seen_51 : decode cX3_seen 51 = .ok (.if_icmp .ge 7, 3) := by decide +kernel
theorem dX3_seen_54 : decode cX3_seen 54 = .ok (.iconst 1, 1) := by decide +kernel
theorem dX3_seen_55 : decode cX3_seen 55 = .ok (.goto 4, 3) := by decide +kernel
theorem dX3_seen_58 : decode cX3_seen 58 = .ok (.iconst 0, 1) := by decide +kernel
theorem dX3_seen_59 : decode cX3_seen 59 = .ok (.istore 5, 2) := by decide +kernel
theorem dX3_seen_61 : decode cX3_seen 61 = .ok (.iload_n 2, 1) := by decide +kernel
theorem dX3_seen_62 : decode cX3_seen 62 = .ok (.iload_n 3, 1) := by decide +kernel
theorem dX3_seen_63 : decode cX3_seen 63 = .ok (.iload 4, 2) := by decide +kernel
theorem dX3_seen_65 : decode cX3_seen 65 = .ok (.invokestatic 75, 3) := by decide +kernel
theorem dX3_seen_68 : decode cX3_seen 68 = .ok (.istore 6, 2) := by decide +kernel
theorem dX3_seen_70 : decode cX3_seen 70 = .ok (.iconst 0, 1) := by decide +kernel
theorem dX3_seen_71 : decode cX3_seen 71 = .ok (.istore 7, 2) := by decide +kernel
theorem dX3_seen_73 : decode cX3_seen 73 = .ok (.iload 7, 2) := by decide +kernel
theorem dX3_seen_75 : decode cX3_seen 75 = .ok (.iload 4, 2) := by decide +kernel
theorem dX3_seen_77 : decode cX3_seen 77 = .ok (.if_icmp .ge 75, 3) := by decide +kernel
theorem dX3_seen_80 : decode cX3_seen 80 = .ok (.aload_n 0, 1) := by decide +kernel
theorem dX3_seen_81 : decode cX3_seen 81 = .ok (.getfield 20, 3) := by decide +kernel
theorem dX3_seen_84 : decode cX3_seen 84 = .ok (.iload 7, 2) := by decide +kernel
theorem dX3_seen_86 : decode cX3_seen 86 = .ok (.iaload, 1) := by decide +kernel
theorem dX3_seen_87 : decode cX3_seen 87 = .ok (.istore 8, 2) := by decide +kernel
theorem dX3_seen_89 : decode cX3_seen 89 = .ok (.aload_n 0, 1) := by decide +kernel
theorem dX3_seen_90 : decode cX3_seen 90 = .ok (.getfield 20, 3) := by decide +kernel
theorem dX3_seen_93 : decode cX3_seen 93 = .ok (.iload 7, 2) := by decide +kernel
theorem dX3_seen_95 : decode cX3_seen 95 = .ok (.iload 4, 2) := by decide +kernel
theorem dX3_seen_97 : decode cX3_seen 97 = .ok (.iadd, 1) := by decide +kernel
theorem dX3_seen_98 : decode cX3_seen 98 = .ok (.iaload, 1) := by decide +kernel
theorem dX3_seen_99 : decode cX3_seen 99 = .ok (.istore 9, 2) := by decide +kernel
theorem dX3_seen_101 : decode cX3_seen 101 = .ok (.aload_n 0, 1) := by decide +kernel
theorem dX3_seen_102 : decode cX3_seen 102 = .ok (.getfield 20, 3) := by decide +kernel
theorem dX3_seen_105 : decode cX3_seen 105 = .ok (.iload 7, 2) := by decide +kernel
theorem dX3_seen_107 : decode cX3_seen 107 = .ok (.iload 5, 2) := by decide +kernel
theorem dX3_seen_109 : decode cX3_seen 109 = .ok (.ifCond .eq 13, 3) := by decide +kernel
theorem dX3_seen_112 : decode cX3_seen 112 = .ok (.iload 8, 2) := by decide +kernel
theorem dX3_seen_114 : decode cX3_seen 114 = .ok (.iload 9, 2) := by decide +kernel
theorem dX3_seen_116 : decode cX3_seen 116 = .ok (.invokestatic 90, 3) := by decide +kernel
theorem dX3_seen_119 : decode cX3_seen 119 = .ok (.goto 26, 3) := by decide +kernel
theorem dX3_seen_122 : decode cX3_seen 122 = .ok (.iload 6, 2) := by decide +kernel
theorem dX3_seen_124 : decode cX3_seen 124 = .ok (.iload 7, 2) := by decide +kernel
theorem dX3_seen_126 : decode cX3_seen 126 = .ok (.ishr, 1) := by decide +kernel
theorem dX3_seen_127 : decode cX3_seen 127 = .ok (.iconst 1, 1) := by decide +kernel
theorem dX3_seen_128 : decode cX3_seen 128 = .ok (.iand, 1) := by decide +kernel
theorem dX3_seen_129 : decode cX3_seen 129 = .ok (.ifCond .ne 11, 3) := by decide +kernel
theorem dX3_seen_132 : decode cX3_seen 132 = .ok (.iload 9, 2) := by decide +kernel
theorem dX3_seen_134 : decode cX3_seen 134 = .ok (.iload 8, 2) := by decide +kernel
theorem dX3_seen_136 : decode cX3_seen 136 = .ok (.iadd, 1) := by decide +kernel
theorem dX3_seen_137 : decode cX3_seen 137 = .ok (.goto 8, 3) := by decide +kernel
theorem dX3_seen_140 : decode cX3_seen 140 = .ok (.iload 9, 2) := by decide +kernel
theorem dX3_seen_142 : decode cX3_seen 142 = .ok (.iload 8, 2) := by decide +kernel
theorem dX3_seen_144 : decode cX3_seen 144 = .ok (.isub, 1) := by decide +kernel
theorem dX3_seen_145 : decode cX3_seen 145 = .ok (.iastore, 1) := by decide +kernel
theorem dX3_seen_146 : decode cX3_seen 146 = .ok (.iinc 7 1, 3) := by decide +kernel
theorem dX3_seen_149 : decode cX3_seen 149 = .ok (.goto (-76), 3) := by decide +kernel
theorem dX3_seen_152 : decode cX3_seen 152 = .ok (.iload_n 3, 1) := by decide +kernel
theorem dX3_seen_153 : decode cX3_seen 153 = .ok (.iload 5, 2) := by decide +kernel
theorem dX3_seen_155 : decode cX3_seen 155 = .ok (.ifCond .eq 7, 3) := by decide +kernel
theorem dX3_seen_158 : decode cX3_seen 158 = .ok (.iconst 0, 1) := by decide +kernel
theorem dX3_seen_159 : decode cX3_seen 159 = .ok (.goto 5, 3) := by decide +kernel
theorem dX3_seen_162 : decode cX3_seen 162 = .ok (.iload 4, 2) := by decide +kernel
theorem dX3_seen_164 : decode cX3_seen 164 = .ok (.iadd, 1) := by decide +kernel
theorem dX3_seen_165 : decode cX3_seen 165 = .ok (.istore_n 3, 1) := by decide +kernel
theorem dX3_seen_166 : decode cX3_seen 166 = .ok (.iload 4, 2) := by decide +kernel
theorem dX3_seen_168 : decode cX3_seen 168 = .ok (.iconst 2, 1) := by decide +kernel
theorem dX3_seen_169 : decode cX3_seen 169 = .ok (.idiv, 1) := by decide +kernel
theorem dX3_seen_170 : decode cX3_seen 170 = .ok (.istore 4, 2) := by decide +kernel
theorem dX3_seen_172 : decode cX3_seen 172 = .ok (.goto (-131), 3) := by decide +kernel
theorem dX3_seen_175 : decode cX3_seen 175 = .ok (.aload_n 0, 1) := by decide +kernel
theorem dX3_seen_176 : decode cX3_seen 176 = .ok (.getfield 20, 3) := by decide +kernel
theorem dX3_seen_179 : decode cX3_seen 179 = .ok (.iconst 0, 1) := by decide +kernel
theorem dX3_seen_180 : decode cX3_seen 180 = .ok (.iaload, 1) := by decide +kernel
theorem dX3_seen_181 : decode cX3_seen 181 = .ok (.ireturn, 1) := by decide +kernel
set_option maxRecDepth 20000 in
theorem ggX3_readAll_X3_places : GoodIn wsX3_readAll wsX3_places := goodIn_r _ [5, 6, 25, 26, 27, 28, 29, 30, 31] (by decide +kernel) (by decide +kernel)
set_option maxRecDepth 20000 in
theorem gX3_readAll_X3_places : GoodIn wsX3_readAll (wsV RX3 29 RX3 yX3_places wsX3_places) := goodIn_app (goodIn_of _ (by decide +kernel)) ggX3_readAll_X3_places
set_option maxRecDepth 20000 in
theorem ggX3_readAll_X3_free : GoodIn wsX3_readAll wsX3_free := goodIn_r _ [10, 6, 1, 2, 3, 4, 5, 25, 26, 27, 28, 29, 30, 31] (by decide +kernel) (by decide +kernel)
set_option maxRecDepth 20000 in
theorem gX3_readAll_X3_free : GoodIn wsX3_readAll (wsV RX3 69 RX3 yX3_free wsX3_free) := goodIn_app (goodIn_of _ (by decide +kernel)) ggX3_readAll_X3_free
set_option maxRecDepth 20000 in
theorem ggX3_readAll_X3_seen : GoodIn wsX3_readAll wsX3_seen := goodIn_r _ [14, 15, 6, 1, 2, 3, 4, 5, 16, 17, 18, 19, 20, 21, 22, 23, 24, 25, 26, 27, 28, 29, 30, 31] (by decide +kernel) (by decide +kernel)
set_option maxRecDepth 20000 in
theorem gX3_readAll_X3_seen : GoodIn wsX3_readAll (wsV RX3 94 RX3 yX3_seen wsX3_seen) := goodIn_app (goodIn_of _ (by decide +kernel)) ggX3_readAll_X3_seen
theorem dX3_readAll_0 : decode cX3_readAll 0 = .ok (.iconst 0, 1) := by decide +kernel
theorem dX3_readAll_1 : decode cX3_readAll 1 = .ok (.istore_n 1, 1) := by decide +kernel
theorem dX3_readAll_2 : decode cX3_readAll 2 = .ok (.iconst 0, 1) := by decide +kernel
theorem dX3_readAll_3 : decode cX3_readAll 3 = .ok (.istore_n 2, 1) := by decide +kernel
theorem dX3_readAll_4 : decode cX3_readAll 4 = .ok (.iload_n 2, 1) := by decide +kernel
theorem dX3_readAll_5 : decode cX3_readAll 5 = .ok (.aload_n 0, 1) := by decide +kernel
theorem dX3_readAll_6 : decode cX3_readAll 6 = .ok (.invokevirtual 29, 3) := by decide +kernel
theorem dX3_readAll_9 : decode cX3_readAll 9 = .ok (.if_icmp .ge 50, 3) := by decide +kernel
theorem dX3_readAll_12 : decode cX3_readAll 12 = .ok (.aload_n 0, 1) := by decide +kernel
theorem dX3_readAll_13 : decode cX3_readAll 13 = .ok (.invokevirtual 69, 3) := by decide +kernel
theorem dX3_readAll_16 : decode cX3_readAll 16 = .ok (.iload_n 2, 1) := by decide +kernel
theorem dX3_readAll_17 : decode cX3_readAll 17 = .ok (.ishr, 1) := by decide +kernel
theorem dX3_readAll_18 : decode cX3_readAll 18 = .ok (.iconst 1, 1) := by decide +kernel
theorem dX3_readAll_19 : decode cX3_readAll 19 = .ok (.iand, 1) := by decide +kernel
theorem dX3_readAll_20 : decode cX3_readAll 20 = .ok (.iconst 1, 1) := by decide +kernel
theorem dX3_readAll_21 : decode cX3_readAll 21 = .ok (.if_icmp .ne 16, 3) := by decide +kernel
theorem dX3_readAll_24 : decode cX3_readAll 24 = .ok (.aload_n 0, 1) := by decide +kernel
theorem dX3_readAll_25 : decode cX3_readAll 25 = .ok (.iload_n 2, 1) := by decide +kernel
theorem dX3_readAll_26 : decode cX3_readAll 26 = .ok (.iload_n 1, 1) := by decide +kernel
theorem dX3_readAll_27 : decode cX3_readAll 27 = .ok (.invokevirtual 94, 3) := by decide +kernel
theorem dX3_readAll_30 : decode cX3_readAll 30 = .ok (.ifCond .ge 7, 3) := by decide +kernel
theorem dX3_readAll_33 : decode cX3_readAll 33 = .ok (.iconst 1, 1) := by decide +kernel
theorem dX3_readAll_34 : decode cX3_readAll 34 = .ok (.goto 4, 3) := by decide +kernel
theorem dX3_readAll_37 : decode cX3_readAll 37 = .ok (.iconst 0, 1) := by decide +kernel
theorem dX3_readAll_38 : decode cX3_readAll 38 = .ok (.istore_n 3, 1) := by decide +kernel
theorem dX3_readAll_39 : decode cX3_readAll 39 = .ok (.iload_n 1, 1) := by decide +kernel
theorem dX3_readAll_40 : decode cX3_readAll 40 = .ok (.iload_n 3, 1) := by decide +kernel
theorem dX3_readAll_41 : decode cX3_readAll 41 = .ok (.ifCond .eq 9, 3) := by decide +kernel
theorem dX3_readAll_44 : decode cX3_readAll 44 = .ok (.iconst 1, 1) := by decide +kernel
theorem dX3_readAll_45 : decode cX3_readAll 45 = .ok (.iload_n 2, 1) := by decide +kernel
theorem dX3_readAll_46 : decode cX3_readAll 46 = .ok (.ishl, 1) := by decide +kernel
theorem dX3_readAll_47 : decode cX3_readAll 47 = .ok (.goto 4, 3) := by decide +kernel
theorem dX3_readAll_50 : decode cX3_readAll 50 = .ok (.iconst 0, 1) := by decide +kernel
theorem dX3_readAll_51 : decode cX3_readAll 51 = .ok (.ior, 1) := by decide +kernel
theorem dX3_readAll_52 : decode cX3_readAll 52 = .ok (.istore_n 1, 1) := by decide +kernel
theorem dX3_readAll_53 : decode cX3_readAll 53 = .ok (.iinc 2 1, 3) := by decide +kernel
theorem dX3_readAll_56 : decode cX3_readAll 56 = .ok (.goto (-52), 3) := by decide +kernel
theorem dX3_readAll_59 : decode cX3_readAll 59 = .ok (.iload_n 1, 1) := by decide +kernel
theorem dX3_readAll_60 : decode cX3_readAll 60 = .ok (.ireturn, 1) := by decide +kernel
set_option maxRecDepth 20000 in
theorem ggX3_measure_X3_isPlace : GoodIn wsX3_measure wsX3_isPlace := goodIn_r _ [8, 9, 10, 11, 7, 12, 3, 13, 14, 15, 38, 39, 40, 41, 42, 43, 44] (by decide +kernel) (by decide +kernel)
set_option maxRecDepth 20000 in
theorem gX3_measure_X3_isPlace : GoodIn wsX3_measure (wsV RX3 39 RX3 yX3_isPlace wsX3_isPlace) := goodIn_app (goodIn_of _ (by decide +kernel)) ggX3_measure_X3_isPlace
set_option maxRecDepth 20000 in
theorem ggX3_measure_X3_in : GoodIn wsX3_measure wsX3_in := goodIn_r _ [15] (by decide +kernel) (by decide +kernel)
set_option maxRecDepth 20000 in
theorem gX3_measure_X3_in : GoodIn wsX3_measure (va_wsS RX3 33 yX3_in wsX3_in) := goodIn_app (goodIn_of _ (by decide +kernel)) ggX3_measure_X3_in
set_option maxRecDepth 20000 in
theorem ggX3_measure_X3_readAll : GoodIn wsX3_measure wsX3_readAll := goodIn_r _ [19, 9, 10, 11, 7, 12, 3, 20, 21, 22, 23, 24, 25, 26, 27, 28, 29, 30, 31, 32, 33, 34, 35, 36, 37, 38, 39, 40, 41, 42, 43, 44] (by decide +kernel) (by decide +kernel)
set_option maxRecDepth 20000 in
theorem gX3_measure_X3_readAll : GoodIn wsX3_measure (wsV RX3 97 RX3 yX3_readAll wsX3_readAll) := goodIn_app (goodIn_of _ (by decide +kernel)) ggX3_measure_X3_readAll
set_option maxRecDepth 20000 in
theorem ggX3_measure_X3_seen : GoodIn wsX3_measure wsX3_seen := goodIn_r _ [27, 28, 3, 9, 10, 11, 7, 12, 29, 30, 31, 32, 33, 34, 35, 36, 37, 38, 39, 40, 41, 42, 43, 44] (by decide +kernel) (by decide +kernel)
set_option maxRecDepth 20000 in
theorem gX3_measure_X3_seen : GoodIn wsX3_measure (wsV RX3 94 RX3 yX3_seen wsX3_seen) := goodIn_app (goodIn_of _ (by decide +kernel)) ggX3_measure_X3_seen
theorem dX3_measure_0 : decode cX3_measure 0 = .ok (.aload_n 0, 1) := by decide +kernel
theorem dX3_measure_1 : decode cX3_measure 1 = .ok (.iload_n 1, 1) := by decide +kernel
theorem dX3_measure_2 : decode cX3_measure 2 = .ok (.invokevirtual 39, 3) := by decide +kernel
theorem dX3_measure_5 : decode cX3_measure 5 = .ok (.ifCond .ne 6, 3) := by decide +kernel
theorem dX3_measure_8 : decode cX3_measure 8 = .ok (.ldc 85, 2) := by decide +kernel
theorem dX3_measure_10 : decode cX3_measure 10 = .ok (.ireturn, 1) := by decide +kernel
theorem dX3_measure_11 : decode cX3_measure 11 = .ok (.iload_n 2, 1) := by decide +kernel
theorem dX3_measure_12 : decode cX3_measure 12 = .ok (.iconst 0, 1) := by decide +kernel
theorem dX3_measure_13 : decode cX3_measure 13 = .ok (.iconst 1, 1) := by decide +kernel
theorem dX3_measure_14 : decode cX3_measure 14 = .ok (.invokestatic 33, 3) := by decide +kernel
theorem dX3_measure_17 : decode cX3_measure 17 = .ok (.ifCond .ne 6, 3) := by decide +kernel
theorem dX3_measure_20 : decode cX3_measure 20 = .ok (.ldc 86, 2) := by decide +kernel
theorem dX3_measure_22 : decode cX3_measure 22 = .ok (.ireturn, 1) := by decide +kernel
theorem dX3_measure_23 : decode cX3_measure 23 = .ok (.iload_n 2, 1) := by decide +kernel
theorem dX3_measure_24 : decode cX3_measure 24 = .ok (.ifCond .ne 15, 3) := by decide +kernel
theorem dX3_measure_27 : decode cX3_measure 27 = .ok (.aload_n 0, 1) := by decide +kernel
theorem dX3_measure_28 : decode cX3_measure 28 = .ok (.getfield 7, 3) := by decide +kernel
theorem dX3_measure_31 : decode cX3_measure 31 = .ok (.bipush 8, 2) := by decide +kernel
theorem dX3_measure_33 : decode cX3_measure 33 = .ok (.iload_n 1, 1) := by decide +kernel
theorem dX3_measure_34 : decode cX3_measure 34 = .ok (.iadd, 1) := by decide +kernel
theorem dX3_measure_35 : decode cX3_measure 35 = .ok (.iaload, 1) := by decide +kernel
theorem dX3_measure_36 : decode cX3_measure 36 = .ok (.goto 12, 3) := by decide +kernel
theorem dX3_measure_39 : decode cX3_measure 39 = .ok (.aload_n 0, 1) := by decide +kernel
theorem dX3_measure_40 : decode cX3_measure 40 = .ok (.iload_n 1, 1) := by decide +kernel
theorem dX3_measure_41 : decode cX3_measure 41 = .ok (.aload_n 0, 1) := by decide +kernel
theorem dX3_measure_42 : decode cX3_measure 42 = .ok (.invokevirtual 97, 3) := by decide +kernel
theorem dX3_measure_45 : decode cX3_measure 45 = .ok (.invokevirtual 94, 3) := by decide +kernel
theorem dX3_measure_48 : decode cX3_measure 48 = .ok (.ireturn, 1) := by decide +kernel
set_option maxRecDepth 20000 in
theorem ggX3_fineOf_X3_seen : GoodIn wsX3_fineOf wsX3_seen := goodIn_r _ [5, 6, 7, 8, 9, 10, 4, 11, 12, 13, 14, 15, 16, 17, 18, 19, 20, 21, 22, 23, 24, 25, 26, 27] (by decide +kernel) (by decide +kernel)
set_option maxRecDepth 20000 in
theorem gX3_fineOf_X3_seen : GoodIn wsX3_fineOf (wsV RX3 94 RX3 yX3_seen wsX3_seen) := goodIn_app (goodIn_of _ (by decide +kernel)) ggX3_fineOf_X3_seen
set_option maxRecDepth 20000 in
theorem ggX3_fineOf_X3_plain : GoodIn wsX3_fineOf wsX3_plain := goodIn_r _ [20] (by decide +kernel) (by decide +kernel)
set_option maxRecDepth 20000 in
theorem gX3_fineOf_X3_plain : GoodIn wsX3_fineOf (va_wsS RX3 87 yX3_plain wsX3_plain) := goodIn_app (goodIn_of _ (by decide +kernel)) ggX3_fineOf_X3_plain
theorem dX3_fineOf_0 : decode cX3_fineOf 0 = .ok (.aload_n 0, 1) := by decide +kernel
theorem dX3_fineOf_1 : decode cX3_fineOf 1 = .ok (.iload_n 1, 1) := by decide +kernel
theorem dX3_fineOf_2 : decode cX3_fineOf 2 = .ok (.iload_n 2, 1) := by decide +kernel
theorem dX3_fineOf_3 : decode cX3_fineOf 3 = .ok (.invokevirtual 94, 3) := by decide +kernel
theorem dX3_fineOf_6 : decode cX3_fineOf 6 = .ok (.istore_n 3, 1) := by decide +kernel
theorem dX3_fineOf_7 : decode cX3_fineOf 7 = .ok (.iload_n 2, 1) := by decide +kernel
theorem dX3_fineOf_8 : decode cX3_fineOf 8 = .ok (.iload_n 1, 1) := by decide +kernel
theorem dX3_fineOf_9 : decode cX3_fineOf 9 = .ok (.ishr, 1) := by decide +kernel
theorem dX3_fineOf_10 : decode cX3_fineOf 10 = .ok (.iconst 1, 1) := by decide +kernel
theorem dX3_fineOf_11 : decode cX3_fineOf 11 = .ok (.iand, 1) := by decide +kernel
theorem dX3_fineOf_12 : decode cX3_fineOf 12 = .ok (.iconst 1, 1) := by decide +kernel
theorem dX3_fineOf_13 : decode cX3_fineOf 13 = .ok (.if_icmp .ne 7, 3) := by decide +kernel
theorem dX3_fineOf_16 : decode cX3_fineOf 16 = .ok (.iconst 1, 1) := by decide +kernel
theorem dX3_fineOf_17 : decode cX3_fineOf 17 = .ok (.goto 4, 3) := by decide +kernel
theorem dX3_fineOf_20 : decode cX3_fineOf 20 = .ok (.iconst 0, 1) := by decide +kernel
theorem dX3_fineOf_21 : decode cX3_fineOf 21 = .ok (.istore 4, 2) := by decide +kernel
theorem dX3_fineOf_23 : decode cX3_fineOf 23 = .ok (.iload_n 3, 1) := by decide +kernel
theorem dX3_fineOf_24 : decode cX3_fineOf 24 = .ok (.ifCond .ge 8, 3) := by decide +kernel
theorem dX3_fineOf_27 : decode cX3_fineOf 27 = .ok (.iload 4, 2) := by decide +kernel
theorem dX3_fineOf_29 : decode cX3_fineOf 29 = .ok (.ifCond .eq 12, 3) := by decide +kernel
theorem dX3_fineOf_32 : decode cX3_fineOf 32 = .ok (.iload_n 3, 1) := by decide +kernel
theorem dX3_fineOf_33 : decode cX3_fineOf 33 = .ok (.ifCond .le 15, 3) := by decide +kernel
theorem dX3_fineOf_36 : decode cX3_fineOf 36 = .ok (.iload 4, 2) := by decide +kernel
theorem dX3_fineOf_38 : decode cX3_fineOf 38 = .ok (.ifCond .eq 10, 3) := by decide +kernel
theorem dX3_fineOf_41 : decode cX3_fineOf 41 = .ok (.iload_n 3, 1) := by decide +kernel
theorem dX3_fineOf_42 : decode cX3_fineOf 42 = .ok (.invokestatic 87, 3) := by decide +kernel
theorem dX3_fineOf_45 : decode cX3_fineOf 45 = .ok (.goto 4, 3) := by decide +kernel
theorem dX3_fineOf_48 : decode cX3_fineOf 48 = .ok (.iconst 0, 1) := by decide +kernel
theorem dX3_fineOf_49 : decode cX3_fineOf 49 = .ok (.ireturn, 1) := by decide +kernel
set_option maxRecDepth 20000 in
theorem ggX3_fineOfAll_X3_places : GoodIn wsX3_fineOfAll wsX3_places := goodIn_r _ [5, 6, 25, 26, 27, 28, 29, 30, 31] (by decide +kernel) (by decide +kernel)
set_option maxRecDepth 20000 in
theorem gX3_fineOfAll_X3_places : GoodIn wsX3_fineOfAll (wsV RX3 29 RX3 yX3_places wsX3_places) := goodIn_app (goodIn_of _ (by decide +kernel)) ggX3_fineOfAll_X3_places
set_option maxRecDepth 20000 in
theorem ggX3_fineOfAll_X3_fineOf : GoodIn wsX3_fineOfAll wsX3_fineOf := goodIn_r _ [10, 11, 12, 13, 4, 14, 15, 6, 1, 2, 3, 5, 16, 17, 18, 19, 20, 21, 22, 23, 24, 25, 26, 27, 28, 29, 30, 31] (by decide +kernel) (by decide +kernel)
set_option maxRecDepth 20000 in
theorem gX3_fineOfAll_X3_fineOf : GoodIn wsX3_fineOfAll (wsV RX3 100 RX3 yX3_fineOf wsX3_fineOf) := goodIn_app (goodIn_of _ (by decide +kernel)) ggX3_fineOfAll_X3_fineOf
theorem dX3_fineOfAll_0 : decode cX3_fineOfAll 0 = .ok (.iconst 0, 1) := by decide +kernel
theorem dX3_fineOfAll_1 : decode cX3_fineOfAll 1 = .ok (.istore_n 2, 1) := by decide +kernel
theorem dX3_fineOfAll_2 : decode cX3_fineOfAll 2 = .ok (.iconst 0, 1) := by decide +kernel
theorem dX3_fineOfAll_3 : decode cX3_fineOfAll 3 = .ok (.istore_n 3, 1) := by decide +kernel
theorem dX3_fineOfAll_4 : decode cX3_fineOfAll 4 = .ok (.iload_n 3, 1) := by decide +kernel
theorem dX3_fineOfAll_5 : decode cX3_fineOfAll 5 = .ok (.aload_n 0, 1) := by decide +kernel
theorem dX3_fineOfAll_6 : decode cX3_fineOfAll 6 = .ok (.invokevirtual 29, 3) := by decide +kernel
theorem dX3_fineOfAll_9 : decode cX3_fineOfAll 9 = .ok (.if_icmp .ge 18, 3) := by decide +kernel
theorem dX3_fineOfAll_12 : decode cX3_fineOfAll 12 = .ok (.iload_n 2, 1) := by decide +kernel
theorem dX3_fineOfAll_13 : decode cX3_fineOfAll 13 = .ok (.aload_n 0, 1) := by decide +kernel
theorem dX3_fineOfAll_14 : decode cX3_fineOfAll 14 = .ok (.iload_n 3, 1) := by decide +kernel
theorem dX3_fineOfAll_15 : decode cX3_fineOfAll 15 = .ok (.iload_n 1, 1) := by decide +kernel
theorem dX3_fineOfAll_16 : decode cX3_fineOfAll 16 = .ok (.invokevirtual 100, 3) := by decide +kernel
theorem dX3_fineOfAll_19 : decode cX3_fineOfAll 19 = .ok (.iadd, 1) := by decide +kernel
theorem dX3_fineOfAll_20 : decode cX3_fineOfAll 20 = .ok (.istore_n 2, 1) := by decide +kernel
theorem dX3_fineOfAll_21 : decode cX3_fineOfAll 21 = .ok (.iinc 3 1, 3) := by decide +kernel
theorem dX3_fineOfAll_24 : decode cX3_fineOfAll 24 = .ok (.goto (-20), 3) := by decide +kernel
theorem dX3_fineOfAll_27 : decode cX3_fineOfAll 27 = .ok (.iload_n 2, 1) := by decide +kernel
theorem dX3_fineOfAll_28 : decode cX3_fineOfAll 28 = .ok (.ireturn, 1) := by decide +kernel
set_option maxRecDepth 20000 in
theorem ggX3_unlike_X3_codedAll : GoodIn wsX3_unlike wsX3_codedAll := goodIn_r _ [6, 7, 8, 9, 5, 10, 1, 11, 12, 13, 14, 15, 16, 17, 18, 19, 20] (by decide +kernel) (by decide +kernel)
set_option maxRecDepth 20000 in
theorem gX3_unlike_X3_codedAll : GoodIn wsX3_unlike (wsV RX3 79 RX3 yX3_codedAll wsX3_codedAll) := goodIn_app (goodIn_of _ (by decide +kernel)) ggX3_unlike_X3_codedAll
set_option maxRecDepth 20000 in
theorem ggX3_unlike_X3_places : GoodIn wsX3_unlike wsX3_places := goodIn_r _ [10, 1, 14, 15, 16, 17, 18, 19, 20] (by decide +kernel) (by decide +kernel)
set_option maxRecDepth 20000 in
theorem gX3_unlike_X3_places : GoodIn wsX3_unlike (wsV RX3 29 RX3 yX3_places wsX3_places) := goodIn_app (goodIn_of _ (by decide +kernel)) ggX3_unlike_X3_places
theorem dX3_unlike_0 : decode cX3_unlike 0 = .ok (.aload_n 0, 1) := by decide +kernel
theorem dX3_unlike_1 : decode cX3_unlike 1 = .ok (.iload_n 1, 1) := by decide +kernel
theorem dX3_unlike_2 : decode cX3_unlike 2 = .ok (.invokevirtual 79, 3) := by decide +kernel
theorem dX3_unlike_5 : decode cX3_unlike 5 = .ok (.istore_n 2, 1) := by decide +kernel
theorem dX3_unlike_6 : decode cX3_unlike 6 = .ok (.iconst 0, 1) := by decide +kernel
theorem dX3_unlike_7 : decode cX3_unlike 7 = .ok (.istore_n 3, 1) := by decide +kernel
theorem dX3_unlike_8 : decode cX3_unlike 8 = .ok (.iconst 0, 1) := by decide +kernel
theorem dX3_unlike_9 : decode cX3_unlike 9 = .ok (.istore 4, 2) := by decide +kernel
theorem dX3_unlike_11 : decode cX3_unlike 11 = .ok (.iload 4, 2) := by decide +kernel
theorem dX3_unlike_13 : decode cX3_unlike 13 = .ok (.aload_n 0, 1) := by decide +kernel
theorem dX3_unlike_14 : decode cX3_unlike 14 = .ok (.invokevirtual 29, 3) := by decide +kernel
theorem dX3_unlike_17 : decode cX3_unlike 17 = .ok (.if_icmp .ge 53, 3) := by decide +kernel
theorem dX3_unlike_20 : decode cX3_unlike 20 = .ok (.aload_n 0, 1) := by decide +kernel
theorem dX3_unlike_21 : decode cX3_unlike 21 = .ok (.getfield 7, 3) := by decide +kernel
theorem dX3_unlike_24 : decode cX3_unlike 24 = .ok (.bipush 8, 2) := by decide +kernel
theorem dX3_unlike_26 : decode cX3_unlike 26 = .ok (.iload 4, 2) := by decide +kernel
theorem dX3_unlike_28 : decode cX3_unlike 28 = .ok (.iadd, 1) := by decide +kernel
theorem dX3_unlike_29 : decode cX3_unlike 29 = .ok (.iaload, 1) := by decide +kernel
theorem dX3_unlike_30 : decode cX3_unlike 30 = .ok (.istore 5, 2) := by decide +kernel
theorem dX3_unlike_32 : decode cX3_unlike 32 = .ok (.iload_n 3, 1) := by decide +kernel
theorem dX3_unlike_33 : decode cX3_unlike 33 = .ok (.iload 5, 2) := by decide +kernel
theorem dX3_unlike_35 : decode cX3_unlike 35 = .ok (.ifCond .eq 26, 3) := by decide +kernel
theorem dX3_unlike_38 : decode cX3_unlike 38 = .ok (.iload_n 2, 1) := by decide +kernel
theorem dX3_unlike_39 : decode cX3_unlike 39 = .ok (.iload 4, 2) := by decide +kernel
theorem dX3_unlike_41 : decode cX3_unlike 41 = .ok (.ishr, 1) := by decide +kernel
theorem dX3_unlike_42 : decode cX3_unlike 42 = .ok (.iconst 1, 1) := by decide +kernel
theorem dX3_unlike_43 : decode cX3_unlike 43 = .ok (.iand, 1) := by decide +kernel
theorem dX3_unlike_44 : decode cX3_unlike 44 = .ok (.iload 5, 2) := by decide +kernel
theorem dX3_unlike_46 : decode cX3_unlike 46 = .ok (.ifCond .ge 7, 3) := by decide +kernel
theorem dX3_unlike_49 : decode cX3_unlike 49 = .ok (.iconst 1, 1) := by decide +kernel
theorem dX3_unlike_50 : decode cX3_unlike 50 = .ok (.goto 4, 3) := by decide +kernel
theorem dX3_unlike_53 : decode cX3_unlike 53 = .ok (.iconst 0, 1) := by decide +kernel
theorem dX3_unlike_54 : decode cX3_unlike 54 = .ok (.if_icmp .eq 7, 3) := by decide +kernel
theorem dX3_unlike_57 : decode cX3_unlike 57 = .ok (.iconst 1, 1) := by decide +kernel
theorem dX3_unlike_58 : decode cX3_unlike 58 = .ok (.goto 4, 3) := by decide +kernel
theorem dX3_unlike_61 : decode cX3_unlike 61 = .ok (.iconst 0, 1) := by decide +kernel
theorem dX3_unlike_62 : decode cX3_unlike 62 = .ok (.iadd, 1) := by decide +kernel
theorem dX3_unlike_63 : decode cX3_unlike 63 = .ok (.istore_n 3, 1) := by decide +kernel
theorem dX3_unlike_64 : decode cX3_unlike 64 = .ok (.iinc 4 1, 3) := by decide +kernel
theorem dX3_unlike_67 : decode cX3_unlike 67 = .ok (.goto (-56), 3) := by decide +kernel
theorem dX3_unlike_70 : decode cX3_unlike 70 = .ok (.iload_n 3, 1) := by decide +kernel
theorem dX3_unlike_71 : decode cX3_unlike 71 = .ok (.ireturn, 1) := by decide +kernel
set_option maxRecDepth 20000 in
theorem ggX3_holds_X3_size : GoodIn wsX3_holds wsX3_size := goodIn_r _ [5] (by decide +kernel) (by decide +kernel)
set_option maxRecDepth 20000 in
theorem gX3_holds_X3_size : GoodIn wsX3_holds (va_wsS RX3 72 yX3_size wsX3_size) := goodIn_app (goodIn_of _ (by decide +kernel)) ggX3_holds_X3_size
theorem dX3_holds_0 : decode cX3_holds 0 = .ok (.iconst 1, 1) := by decide +kernel
theorem dX3_holds_1 : decode cX3_holds 1 = .ok (.istore_n 2, 1) := by decide +kernel
theorem dX3_holds_2 : decode cX3_holds 2 = .ok (.iconst 0, 1) := by decide +kernel
theorem dX3_holds_3 : decode cX3_holds 3 = .ok (.istore_n 3, 1) := by decide +kernel
theorem dX3_holds_4 : decode cX3_holds 4 = .ok (.iload_n 3, 1) := by decide +kernel
theorem dX3_holds_5 : decode cX3_holds 5 = .ok (.iconst 3, 1) := by decide +kernel
theorem dX3_holds_6 : decode cX3_holds 6 = .ok (.if_icmp .ge 37, 3) := by decide +kernel
theorem dX3_holds_9 : decode cX3_holds 9 = .ok (.iload_n 2, 1) := by decide +kernel
theorem dX3_holds_10 : decode cX3_holds 10 = .ok (.ifCond .eq 25, 3) := by decide +kernel
theorem dX3_holds_13 : decode cX3_holds 13 = .ok (.iload_n 1, 1) := by decide +kernel
theorem dX3_holds_14 : decode cX3_holds 14 = .ok (.aload_n 0, 1) := by decide +kernel
theorem dX3_holds_15 : decode cX3_holds 15 = .ok (.getfield 7, 3) := by decide +kernel
theorem dX3_holds_18 : decode cX3_holds 18 = .ok (.iconst 5, 1) := by decide +kernel
theorem dX3_holds_19 : decode cX3_holds 19 = .ok (.iload_n 3, 1) := by decide +kernel
theorem dX3_holds_20 : decode cX3_holds 20 = .ok (.iadd, 1) := by decide +kernel
theorem dX3_holds_21 : decode cX3_holds 21 = .ok (.iaload, 1) := by decide +kernel
theorem dX3_holds_22 : decode cX3_holds 22 = .ok (.iand, 1) := by decide +kernel
theorem dX3_holds_23 : decode cX3_holds 23 = .ok (.invokestatic 72, 3) := by decide +kernel
theorem dX3_holds_26 : decode cX3_holds 26 = .ok (.iconst 2, 1) := by decide +kernel
theorem dX3_holds_27 : decode cX3_holds 27 = .ok (.irem, 1) := by decide +kernel
theorem dX3_holds_28 : decode cX3_holds 28 = .ok (.ifCond .ne 7, 3) := by decide +kernel
theorem dX3_holds_31 : decode cX3_holds 31 = .ok (.iconst 1, 1) := by decide +kernel
theorem dX3_holds_32 : decode cX3_holds 32 = .ok (.goto 4, 3) := by decide +kernel
theorem dX3_holds_35 : decode cX3_holds 35 = .ok (.iconst 0, 1) := by decide +kernel
theorem dX3_holds_36 : decode cX3_holds 36 = .ok (.istore_n 2, 1) := by decide +kernel
theorem dX3_holds_37 : decode cX3_holds 37 = .ok (.iinc 3 1, 3) := by decide +kernel
theorem dX3_holds_40 : decode cX3_holds 40 = .ok (.goto (-36), 3) := by decide +kernel
theorem dX3_holds_43 : decode cX3_holds 43 = .ok (.iload_n 2, 1) := by decide +kernel
theorem dX3_holds_44 : decode cX3_holds 44 = .ok (.ireturn, 1) := by decide +kernel
set_option maxRecDepth 20000 in
theorem ggX3_read_X3_in : GoodIn wsX3_read wsX3_in := goodIn_r _ [4] (by decide +kernel) (by decide +kernel)
set_option maxRecDepth 20000 in
theorem gX3_read_X3_in : GoodIn wsX3_read (va_wsS RX3 33 yX3_in wsX3_in) := goodIn_app (goodIn_of _ (by decide +kernel)) ggX3_read_X3_in
set_option maxRecDepth 20000 in
theorem ggX3_read_X3_readAll : GoodIn wsX3_read wsX3_readAll := goodIn_r _ [8, 9, 10, 11, 3, 12, 13, 14, 15, 16, 17, 18, 19, 20, 21, 22, 23, 24, 25, 26, 27, 28, 29, 30, 31, 55, 56, 57, 58, 59, 60, 61] (by decide +kernel) (by decide +kernel)
set_option maxRecDepth 20000 in
theorem gX3_read_X3_readAll : GoodIn wsX3_read (wsV RX3 97 RX3 yX3_readAll wsX3_readAll) := goodIn_app (goodIn_of _ (by decide +kernel)) ggX3_read_X3_readAll
set_option maxRecDepth 20000 in
theorem ggX3_read_X3_fineOfAll : GoodIn wsX3_read wsX3_fineOfAll := goodIn_r _ [35, 9, 10, 11, 3, 12, 13, 36, 37, 38, 39, 18, 19, 20, 21, 22, 23, 24, 25, 26, 27, 28, 29, 30, 31, 55, 56, 57, 58, 59, 60, 61] (by decide +kernel) (by decide +kernel)
set_option maxRecDepth 20000 in
theorem gX3_read_X3_fineOfAll : GoodIn wsX3_read (wsV RX3 103 RX3 yX3_fineOfAll wsX3_fineOfAll) := goodIn_app (goodIn_of _ (by decide +kernel)) ggX3_read_X3_fineOfAll
set_option maxRecDepth 20000 in
theorem ggX3_read_X3_unlike : GoodIn wsX3_read wsX3_unlike := goodIn_r _ [43, 13, 44, 45, 46, 3, 47, 9, 10, 11, 12, 23, 24, 25, 55, 56, 57, 58, 59, 60, 61] (by decide +kernel) (by decide +kernel)
set_option maxRecDepth 20000 in
theorem gX3_read_X3_unlike : GoodIn wsX3_read (wsV RX3 106 RX3 yX3_unlike wsX3_unlike) := goodIn_app (goodIn_of _ (by decide +kernel)) ggX3_read_X3_unlike
set_option maxRecDepth 20000 in
theorem ggX3_read_X3_holds : GoodIn wsX3_read wsX3_holds := goodIn_r _ [51, 13, 52, 53, 3, 54, 55, 56, 57, 58, 59, 60, 61] (by decide +kernel) (by decide +kernel)
set_option maxRecDepth 20000 in
theorem gX3_read_X3_holds : GoodIn wsX3_read (wsV RX3 109 RX3 yX3_holds wsX3_holds) := goodIn_app (goodIn_of _ (by decide +kernel)) ggX3_read_X3_holds
theorem dX3_read_0 : decode cX3_read 0 = .ok (.iload_n 1, 1) := by decide +kernel
theorem dX3_read_1 : decode cX3_read 1 = .ok (.iconst 0, 1) := by decide +kernel
theorem dX3_read_2 : decode cX3_read 2 = .ok (.iconst 3, 1) := by decide +kernel
theorem dX3_read_3 : decode cX3_read 3 = .ok (.invokestatic 33, 3) := by decide +kernel
theorem dX3_read_6 : decode cX3_read 6 = .ok (.ifCond .ne 6, 3) := by decide +kernel
theorem dX3_read_9 : decode cX3_read 9 = .ok (.bipush (-2), 2) := by decide +kernel
theorem dX3_read_11 : decode cX3_read 11 = .ok (.ireturn, 1) := by decide +kernel
theorem dX3_read_12 : decode cX3_read 12 = .ok (.aload_n 0, 1) := by decide +kernel
theorem dX3_read_13 : decode cX3_read 13 = .ok (.invokevirtual 97, 3) := by decide +kernel
theorem dX3_read_16 : decode cX3_read 16 = .ok (.istore_n 2, 1) := by decide +kernel
theorem dX3_read_17 : decode cX3_read 17 = .ok (.iload_n 1, 1) := by decide +kernel
theorem dX3_read_18 : decode cX3_read 18 = .ok (.ifCond .ne 7, 3) := by decide +kernel
theorem dX3_read_21 : decode cX3_read 21 = .ok (.iload_n 2, 1) := by decide +kernel
theorem dX3_read_22 : decode cX3_read 22 = .ok (.goto 42, 3) := by decide +kernel
theorem dX3_read_25 : decode cX3_read 25 = .ok (.iload_n 1, 1) := by decide +kernel
theorem dX3_read_26 : decode cX3_read 26 = .ok (.iconst 1, 1) := by decide +kernel
theorem dX3_read_27 : decode cX3_read 27 = .ok (.if_icmp .ne 11, 3) := by decide +kernel
theorem dX3_read_30 : decode cX3_read 30 = .ok (.aload_n 0, 1) := by decide +kernel
theorem dX3_read_31 : decode cX3_read 31 = .ok (.iload_n 2, 1) := by decide +kernel
theorem dX3_read_32 : decode cX3_read 32 = .ok (.invokevirtual 103, 3) := by decide +kernel
theorem dX3_read_35 : decode cX3_read 35 = .ok (.goto 29, 3) := by decide +kernel
theorem dX3_read_38 : decode cX3_read 38 = .ok (.iload_n 1, 1) := by decide +kernel
theorem dX3_read_39 : decode cX3_read 39 = .ok (.iconst 2, 1) := by decide +kernel
theorem dX3_read_40 : decode cX3_read 40 = .ok (.if_icmp .ne 11, 3) := by decide +kernel
theorem dX3_read_43 : decode cX3_read 43 = .ok (.aload_n 0, 1) := by decide +kernel
theorem dX3_read_44 : decode cX3_read 44 = .ok (.iload_n 2, 1) := by decide +kernel
theorem dX3_read_45 : decode cX3_read 45 = .ok (.invokevirtual 106, 3) := by decide +kernel
theorem dX3_read_48 : decode cX3_read 48 = .ok (.goto 16, 3) := by decide +kernel
theorem dX3_read_51 : decode cX3_read 51 = .ok (.aload_n 0, 1) := by decide +kernel
theorem dX3_read_52 : decode cX3_read 52 = .ok (.iload_n 2, 1) := by decide +kernel
theorem dX3_read_53 : decode cX3_read 53 = .ok (.invokevirtual 109, 3) := by decide +kernel
theorem dX3_read_56 : decode cX3_read 56 = .ok (.ifCond .eq 7, 3) := by decide +kernel
theorem dX3_read_59 : decode cX3_read 59 = .ok (.iconst 1, 1) := by decide +kernel
theorem dX3_read_60 : decode cX3_read 60 = .ok (.goto 4, 3) := by decide +kernel
theorem dX3_read_63 : decode cX3_read 63 = .ok (.iconst 0, 1) := by decide +kernel
theorem dX3_read_64 : decode cX3_read 64 = .ok (.ireturn, 1) := by decide +kernel
set_option maxRecDepth 20000 in
theorem ggX3_most_X3_in : GoodIn wsX3_most wsX3_in := goodIn_r _ [5] (by decide +kernel) (by decide +kernel)
set_option maxRecDepth 20000 in
theorem gX3_most_X3_in : GoodIn wsX3_most (va_wsS RX3 33 yX3_in wsX3_in) := goodIn_app (goodIn_of _ (by decide +kernel)) ggX3_most_X3_in
theorem dX3_most_0 : decode cX3_most 0 = .ok (.iload_n 1, 1) := by decide +kernel
theorem dX3_most_1 : decode cX3_most 1 = .ok (.iconst 1, 1) := by decide +kernel
theorem dX3_most_2 : decode cX3_most 2 = .ok (.bipush 8, 2) := by decide +kernel
theorem dX3_most_4 : decode cX3_most 4 = .ok (.invokestatic 33, 3) := by decide +kernel
theorem dX3_most_7 : decode cX3_most 7 = .ok (.ifCond .ne 6, 3) := by decide +kernel
theorem dX3_most_10 : decode cX3_most 10 = .ok (.bipush (-2), 2) := by decide +kernel
theorem dX3_most_12 : decode cX3_most 12 = .ok (.ireturn, 1) := by decide +kernel
theorem dX3_most_13 : decode cX3_most 13 = .ok (.aload_n 0, 1) := by decide +kernel
theorem dX3_most_14 : decode cX3_most 14 = .ok (.getfield 7, 3) := by decide +kernel
theorem dX3_most_17 : decode cX3_most 17 = .ok (.iconst 4, 1) := by decide +kernel
theorem dX3_most_18 : decode cX3_most 18 = .ok (.iaload, 1) := by decide +kernel
theorem dX3_most_19 : decode cX3_most 19 = .ok (.istore_n 2, 1) := by decide +kernel
theorem dX3_most_20 : decode cX3_most 20 = .ok (.aload_n 0, 1) := by decide +kernel
theorem dX3_most_21 : decode cX3_most 21 = .ok (.getfield 7, 3) := by decide +kernel
theorem dX3_most_24 : decode cX3_most 24 = .ok (.iconst 4, 1) := by decide +kernel
theorem dX3_most_25 : decode cX3_most 25 = .ok (.iload_n 1, 1) := by decide +kernel
theorem dX3_most_26 : decode cX3_most 26 = .ok (.iastore, 1) := by decide +kernel
theorem dX3_most_27 : decode cX3_most 27 = .ok (.iload_n 2, 1) := by decide +kernel
theorem dX3_most_28 : decode cX3_most 28 = .ok (.ireturn, 1) := by decide +kernel
theorem dX3_isAhead_0 : decode cX3_isAhead 0 = .ok (.aload_n 0, 1) := by decide +kernel
theorem dX3_isAhead_1 : decode cX3_isAhead 1 = .ok (.getfield 26, 3) := by decide +kernel
theorem dX3_isAhead_4 : decode cX3_isAhead 4 = .ok (.iload_n 1, 1) := by decide +kernel
theorem dX3_isAhead_5 : decode cX3_isAhead 5 = .ok (.iaload, 1) := by decide +kernel
theorem dX3_isAhead_6 : decode cX3_isAhead 6 = .ok (.aload_n 0, 1) := by decide +kernel
theorem dX3_isAhead_7 : decode cX3_isAhead 7 = .ok (.getfield 26, 3) := by decide +kernel
theorem dX3_isAhead_10 : decode cX3_isAhead 10 = .ok (.iload_n 2, 1) := by decide +kernel
theorem dX3_isAhead_11 : decode cX3_isAhead 11 = .ok (.iaload, 1) := by decide +kernel
theorem dX3_isAhead_12 : decode cX3_isAhead 12 = .ok (.if_icmp .eq 26, 3) := by decide +kernel
theorem dX3_isAhead_15 : decode cX3_isAhead 15 = .ok (.aload_n 0, 1) := by decide +kernel
theorem dX3_isAhead_16 : decode cX3_isAhead 16 = .ok (.getfield 26, 3) := by decide +kernel
theorem dX3_isAhead_19 : decode cX3_isAhead 19 = .ok (.iload_n 1, 1) := by decide +kernel
theorem dX3_isAhead_20 : decode cX3_isAhead 20 = .ok (.iaload, 1) := by decide +kernel
theorem dX3_isAhead_21 : decode cX3_isAhead 21 = .ok (.aload_n 0, 1) := by decide +kernel
theorem dX3_isAhead_22 : decode cX3_isAhead 22 = .ok (.getfield 26, 3) := by decide +kernel
theorem dX3_isAhead_25 : decode cX3_isAhead 25 = .ok (.iload_n 2, 1) := by decide +kernel
theorem dX3_isAhead_26 : decode cX3_isAhead 26 = .ok (.iaload, 1) := by decide +kernel
theorem dX3_isAhead_27 : decode cX3_isAhead 27 = .ok (.if_icmp .ge 7, 3) := by decide +kernel
theorem dX3_isAhead_30 : decode cX3_isAhead 30 = .ok (.iconst 1, 1) := by decide +kernel
theorem dX3_isAhead_31 : decode cX3_isAhead 31 = .ok (.goto 27, 3) := by decide +kernel
theorem dX3_isAhead_34 : decode cX3_isAhead 34 = .ok (.iconst 0, 1) := by decide +kernel
theorem dX3_isAhead_35 : decode cX3_isAhead 35 = .ok (.goto 23, 3) := by decide +kernel
theorem dX3_isAhead_38 : decode cX3_isAhead 38 = .ok (.aload_n 0, 1) := by decide +kernel
theorem dX3_isAhead_39 : decode cX3_isAhead 39 = .ok (.getfield 23, 3) := by decide +kernel
theorem dX3_isAhead_42 : decode cX3_isAhead 42 = .ok (.iload_n 1, 1) := by decide +kernel
theorem dX3_isAhead_43 : decode cX3_isAhead 43 = .ok (.iaload, 1) := by decide +kernel
theorem dX3_isAhead_44 : decode cX3_isAhead 44 = .ok (.aload_n 0, 1) := by decide +kernel
theorem dX3_isAhead_45 : decode cX3_isAhead 45 = .ok (.getfield 23, 3) := by decide +kernel
theorem dX3_isAhead_48 : decode cX3_isAhead 48 = .ok (.iload_n 2, 1) := by decide +kernel
theorem dX3_isAhead_49 : decode cX3_isAhead 49 = .ok (.iaload, 1) := by decide +kernel
theorem dX3_isAhead_50 : decode cX3_isAhead 50 = .ok (.if_icmp .ge 7, 3) := by decide +kernel
theorem dX3_isAhead_53 : decode cX3_isAhead 53 = .ok (.iconst 1, 1) := by decide +kernel
theorem dX3_isAhead_54 : decode cX3_isAhead 54 = .ok (.goto 4, 3) := by decide +kernel
theorem dX3_isAhead_57 : decode cX3_isAhead 57 = .ok (.iconst 0, 1) := by decide +kernel
theorem dX3_isAhead_58 : decode cX3_isAhead 58 = .ok (.ireturn, 1) := by decide +kernel
theorem dX3_swap_0 : decode cX3_swap 0 = .ok (.aload_n 0, 1) := by decide +kernel
theorem dX3_swap_1 : decode cX3_swap 1 = .ok (.getfield 23, 3) := by decide +kernel
theorem dX3_swap_4 : decode cX3_swap 4 = .ok (.iload_n 1, 1) := by decide +kernel
theorem dX3_swap_5 : decode cX3_swap 5 = .ok (.iaload, 1) := by decide +kernel
theorem dX3_swap_6 : decode cX3_swap 6 = .ok (.istore_n 3, 1) := by decide +kernel
theorem dX3_swap_7 : decode cX3_swap 7 = .ok (.aload_n 0, 1) := by decide +kernel
theorem dX3_swap_8 : decode cX3_swap 8 = .ok (.getfield 26, 3) := by decide +kernel
theorem dX3_swap_11 : decode cX3_swap 11 = .ok (.iload_n 1, 1) := by decide +kernel
theorem dX3_swap_12 : decode cX3_swap 12 = .ok (.iaload, 1) := by decide +kernel
theorem dX3_swap_13 : decode cX3_swap 13 = .ok (.istore 4, 2) := by decide +kernel
theorem dX3_swap_15 : decode cX3_swap 15 = .ok (.aload_n 0, 1) := by decide +kernel
theorem dX3_swap_16 : decode cX3_swap 16 = .ok (.getfield 23, 3) := by decide +kernel
theorem dX3_swap_19 : decode cX3_swap 19 = .ok (.iload_n 1, 1) := by decide +kernel
theorem dX3_swap_20 : decode cX3_swap 20 = .ok (.aload_n 0, 1) := by decide +kernel
theorem dX3_swap_21 : decode cX3_swap 21 = .ok (.getfield 23, 3) := by decide +kernel
theorem dX3_swap_24 : decode cX3_swap 24 = .ok (.iload_n 2, 1) := by decide +kernel
theorem dX3_swap_25 : decode cX3_swap 25 = .ok (.iaload, 1) := by decide +kernel
theorem dX3_swap_26 : decode cX3_swap 26 = .ok (.iastore, 1) := by decide +kernel
theorem dX3_swap_27 : decode cX3_swap 27 = .ok (.aload_n 0, 1) := by decide +kernel
theorem dX3_swap_28 : decode cX3_swap 28 = .ok (.getfield 26, 3) := by decide +kernel
theorem dX3_swap_31 : decode cX3_swap 31 = .ok (.iload_n 1, 1) := by decide +kernel
theorem dX3_swap_32 : decode cX3_swap 32 = .ok (.aload_n 0, 1) := by decide +kernel
theorem dX3_swap_33 : decode cX3_swap 33 = .ok (.getfield 26, 3) := by decide +kernel
theorem dX3_swap_36 : decode cX3_swap 36 = .ok (.iload_n 2, 1) := by decide +kernel
theorem dX3_swap_37 : decode cX3_swap 37 = .ok (.iaload, 1) := by decide +kernel
theorem dX3_swap_38 : decode cX3_swap 38 = .ok (.iastore, 1) := by decide +kernel
theorem dX3_swap_39 : decode cX3_swap 39 = .ok (.aload_n 0, 1) := by decide +kernel
theorem dX3_swap_40 : decode cX3_swap 40 = .ok (.getfield 23, 3) := by decide +kernel
theorem dX3_swap_43 : decode cX3_swap 43 = .ok (.iload_n 2, 1) := by decide +kernel
theorem dX3_swap_44 : decode cX3_swap 44 = .ok (.iload_n 3, 1) := by decide +kernel
theorem dX3_swap_45 : decode cX3_swap 45 = .ok (.iastore, 1) := by decide +kernel
theorem dX3_swap_46 : decode cX3_swap 46 = .ok (.aload_n 0, 1) := by decide +kernel
theorem dX3_swap_47 : decode cX3_swap 47 = .ok (.getfield 26, 3) := by decide +kernel
theorem dX3_swap_50 : decode cX3_swap 50 = .ok (.iload_n 2, 1) := by decide +kernel
theorem dX3_swap_51 : decode cX3_swap 51 = .ok (.iload 4, 2) := by decide +kernel
theorem dX3_swap_53 : decode cX3_swap 53 = .ok (.iastore, 1) := by decide +kernel
theorem dX3_swap_54 : decode cX3_swap 54 = .ok (.return_, 1) := by decide +kernel
set_option maxRecDepth 20000 in
theorem ggX3_sort_X3_isAhead : GoodIn wsX3_sort wsX3_isAhead := goodIn_r _ [6, 7, 8, 13, 14, 15, 16, 17, 18, 19] (by decide +kernel) (by decide +kernel)
set_option maxRecDepth 20000 in
theorem gX3_sort_X3_isAhead : GoodIn wsX3_sort (wsV RX3 116 RX3 yX3_isAhead wsX3_isAhead) := goodIn_app (goodIn_of _ (by decide +kernel)) ggX3_sort_X3_isAhead
set_option maxRecDepth 20000 in
theorem ggX3_sort_X3_swap : GoodIn wsX3_sort wsX3_swap := goodIn_r _ [12, 8, 7, 13, 14, 15, 16, 17, 18, 19] (by decide +kernel) (by decide +kernel)
set_option maxRecDepth 20000 in
theorem gX3_sort_X3_swap : GoodIn wsX3_sort (wsV RX3 120 RX3 yX3_swap wsX3_swap) := goodIn_app (goodIn_of _ (by decide +kernel)) ggX3_sort_X3_swap
theorem dX3_sort_0 : decode cX3_sort 0 = .ok (.iconst 1, 1) := by decide +kernel
theorem dX3_sort_1 : decode cX3_sort 1 = .ok (.istore_n 1, 1) := by decide +kernel
theorem dX3_sort_2 : decode cX3_sort 2 = .ok (.iload_n 1, 1) := by decide +kernel
theorem dX3_sort_3 : decode cX3_sort 3 = .ok (.aload_n 0, 1) := by decide +kernel
theorem dX3_sort_4 : decode cX3_sort 4 = .ok (.getfield 112, 3) := by decide +kernel
theorem dX3_sort_7 : decode cX3_sort 7 = .ok (.if_icmp .ge 40, 3) := by decide +kernel
theorem dX3_sort_10 : decode cX3_sort 10 = .ok (.iload_n 1, 1) := by decide +kernel
theorem dX3_sort_11 : decode cX3_sort 11 = .ok (.istore_n 2, 1) := by decide +kernel
theorem dX3_sort_12 : decode cX3_sort 12 = .ok (.iload_n 2, 1) := by decide +kernel
theorem dX3_sort_13 : decode cX3_sort 13 = .ok (.ifCond .le 28, 3) := by decide +kernel
theorem dX3_sort_16 : decode cX3_sort 16 = .ok (.aload_n 0, 1) := by decide +kernel
theorem dX3_sort_17 : decode cX3_sort 17 = .ok (.iload_n 2, 1) := by decide +kernel
theorem dX3_sort_18 : decode cX3_sort 18 = .ok (.iload_n 2, 1) := by decide +kernel
theorem dX3_sort_19 : decode cX3_sort 19 = .ok (.iconst 1, 1) := by decide +kernel
theorem dX3_sort_20 : decode cX3_sort 20 = .ok (.isub, 1) := by decide +kernel
theorem dX3_sort_21 : decode cX3_sort 21 = .ok (.invokevirtual 116, 3) := by decide +kernel
theorem dX3_sort_24 : decode cX3_sort 24 = .ok (.ifCond .eq 17, 3) := by decide +kernel
theorem dX3_sort_27 : decode cX3_sort 27 = .ok (.aload_n 0, 1) := by decide +kernel
theorem dX3_sort_28 : decode cX3_sort 28 = .ok (.iload_n 2, 1) := by decide +kernel
theorem dX3_sort_29 : decode cX3_sort 29 = .ok (.iload_n 2, 1) := by decide +kernel
theorem dX3_sort_30 : decode cX3_sort 30 = .ok (.iconst 1, 1) := by decide +kernel
theorem dX3_sort_31 : decode cX3_sort 31 = .ok (.isub, 1) := by decide +kernel
theorem dX3_sort_32 : decode cX3_sort 32 = .ok (.invokevirtual 120, 3) := by decide +kernel
theorem dX3_sort_35 : decode cX3_sort 35 = .ok (.iinc 2 (-1), 3) := by decide +kernel
theorem dX3_sort_38 : decode cX3_sort 38 = .ok (.goto (-26), 3) := by decide +kernel
theorem dX3_sort_41 : decode cX3_sort 41 = .ok (.iinc 1 1, 3) := by decide +kernel
theorem dX3_sort_44 : decode cX3_sort 44 = .ok (.goto (-42), 3) := by decide +kernel
theorem dX3_sort_47 : decode cX3_sort 47 = .ok (.return_, 1) := by decide +kernel
set_option maxRecDepth 20000 in
theorem ggX3_layKept_X3_places : GoodIn wsX3_layKept wsX3_places := goodIn_r _ [9, 4, 44, 45, 46, 47, 48, 49, 50] (by decide +kernel) (by decide +kernel)
set_option maxRecDepth 20000 in
theorem gX3_layKept_X3_places : GoodIn wsX3_layKept (wsV RX3 29 RX3 yX3_places wsX3_places) := goodIn_app (goodIn_of _ (by decide +kernel)) ggX3_layKept_X3_places
set_option maxRecDepth 20000 in
theorem ggX3_layKept_X3_free : GoodIn wsX3_layKept wsX3_free := goodIn_r _ [13, 4, 5, 6, 7, 8, 9, 44, 45, 46, 47, 48, 49, 50] (by decide +kernel) (by decide +kernel)
set_option maxRecDepth 20000 in
theorem gX3_layKept_X3_free : GoodIn wsX3_layKept (wsV RX3 69 RX3 yX3_free wsX3_free) := goodIn_app (goodIn_of _ (by decide +kernel)) ggX3_layKept_X3_free
set_option maxRecDepth 20000 in
theorem ggX3_layKept_X3_fineOf : GoodIn wsX3_layKept wsX3_fineOf := goodIn_r _ [17, 18, 19, 20, 8, 21, 22, 4, 5, 6, 7, 9, 23, 24, 25, 26, 27, 28, 29, 30, 31, 44, 45, 46, 47, 48, 49, 50] (by decide +kernel) (by decide +kernel)
set_option maxRecDepth 20000 in
theorem gX3_layKept_X3_fineOf : GoodIn wsX3_layKept (wsV RX3 100 RX3 yX3_fineOf wsX3_fineOf) := goodIn_app (goodIn_of _ (by decide +kernel)) ggX3_layKept_X3_fineOf
set_option maxRecDepth 20000 in
theorem ggX3_layKept_X3_sort : GoodIn wsX3_layKept wsX3_sort := goodIn_r _ [35, 1, 36, 37, 38, 8, 39, 3, 2, 40, 41, 42, 43, 44, 45, 46, 47, 48, 49, 50] (by decide +kernel) (by decide +kernel)
set_option maxRecDepth 20000 in
theorem gX3_layKept_X3_sort : GoodIn wsX3_layKept (wsV RX3 124 RX3 yX3_sort wsX3_sort) := goodIn_app (goodIn_of _ (by decide +kernel)) ggX3_layKept_X3_sort
theorem dX3_layKept_0 : decode cX3_layKept 0 = .ok (.aload_n 0, 1) := by decide +kernel
theorem dX3_layKept_1 : decode cX3_layKept 1 = .ok (.iconst 1, 1) := by decide +kernel
theorem dX3_layKept_2 : decode cX3_layKept 2 = .ok (.putfield 112, 3) := by decide +kernel
theorem dX3_layKept_5 : decode cX3_layKept 5 = .ok (.aload_n 0, 1) := by decide +kernel
theorem dX3_layKept_6 : decode cX3_layKept 6 = .ok (.getfield 23, 3) := by decide +kernel
theorem dX3_layKept_9 : decode cX3_layKept 9 = .ok (.iconst 0, 1) := by decide +kernel
theorem dX3_layKept_10 : decode cX3_layKept 10 = .ok (.iconst 0, 1) := by decide +kernel
theorem dX3_layKept_11 : decode cX3_layKept 11 = .ok (.iastore, 1) := by decide +kernel
theorem dX3_layKept_12 : decode cX3_layKept 12 = .ok (.aload_n 0, 1) := by decide +kernel
theorem dX3_layKept_13 : decode cX3_layKept 13 = .ok (.getfield 26, 3) := by decide +kernel
theorem dX3_layKept_16 : decode cX3_layKept 16 = .ok (.iconst 0, 1) := by decide +kernel
theorem dX3_layKept_17 : decode cX3_layKept 17 = .ok (.iconst 0, 1) := by decide +kernel
theorem dX3_layKept_18 : decode cX3_layKept 18 = .ok (.iastore, 1) := by decide +kernel
theorem dX3_layKept_19 : decode cX3_layKept 19 = .ok (.iconst 0, 1) := by decide +kernel
theorem dX3_layKept_20 : decode cX3_layKept 20 = .ok (.istore_n 1, 1) := by decide +kernel
theorem dX3_layKept_21 : decode cX3_layKept 21 = .ok (.iload_n 1, 1) := by decide +kernel
theorem dX3_layKept_22 : decode cX3_layKept 22 = .ok (.aload_n 0, 1) := by decide +kernel
theorem dX3_layKept_23 : decode cX3_layKept 23 = .ok (.invokevirtual 29, 3) := by decide +kernel
theorem dX3_layKept_26 : decode cX3_layKept 26 = .ok (.if_icmp .ge 152, 3) := by decide +kernel
theorem dX3_layKept_29 : decode cX3_layKept 29 = .ok (.aload_n 0, 1) := by decide +kernel
theorem dX3_layKept_30 : decode cX3_layKept 30 = .ok (.getfield 112, 3) := by decide +kernel
theorem dX3_layKept_33 : decode cX3_layKept 33 = .ok (.istore_n 2, 1) := by decide +kernel
theorem dX3_layKept_34 : decode cX3_layKept 34 = .ok (.iconst 0, 1) := by decide +kernel
theorem dX3_layKept_35 : decode cX3_layKept 35 = .ok (.istore_n 3, 1) := by decide +kernel
theorem dX3_layKept_36 : decode cX3_layKept 36 = .ok (.iload_n 3, 1) := by decide +kernel
theorem dX3_layKept_37 : decode cX3_layKept 37 = .ok (.iload_n 2, 1) := by decide +kernel
theorem dX3_layKept_38 : decode cX3_layKept 38 = .ok (.if_icmp .ge 100, 3) := by decide +kernel
theorem dX3_layKept_41 : decode cX3_layKept 41 = .ok (.aload_n 0, 1) := by decide +kernel
theorem dX3_layKept_42 : decode cX3_layKept 42 = .ok (.invokevirtual 69, 3) := by decide +kernel
theorem dX3_layKept_45 : decode cX3_layKept 45 = .ok (.iload_n 1, 1) := by decide +kernel
theorem dX3_layKept_46 : decode cX3_layKept 46 = .ok (.ishr, 1) := by decide +kernel
theorem dX3_layKept_47 : decode cX3_layKept 47 = .ok (.iconst 1, 1) := by decide +kernel
theorem dX3_layKept_48 : decode cX3_layKept 48 = .ok (.iand, 1) := by decide +kernel
theorem dX3_layKept_49 : decode cX3_layKept 49 = .ok (.iconst 1, 1) := by decide +kernel
theorem dX3_layKept_50 : decode cX3_layKept 50 = .ok (.if_icmp .ne 62, 3) := by decide +kernel
theorem dX3_layKept_53 : decode cX3_layKept 53 = .ok (.aload_n 0, 1) := by decide +kernel
theorem dX3_layKept_54 : decode cX3_layKept 54 = .ok (.getfield 23, 3) := by decide +kernel
theorem dX3_layKept_57 : decode cX3_layKept 57 = .ok (.aload_n 0, 1) := by decide +kernel
theorem dX3_layKept_58 : decode cX3_layKept 58 = .ok (.getfield 112, 3) := by decide +kernel
theorem dX3_layKept_61 : decode cX3_layKept 61 = .ok (.aload_n 0, 1) := by decide +kernel
theorem dX3_layKept_62 : decode cX3_layKept 62 = .ok (.getfield 23, 3) := by decide +kernel
theorem dX3_layKept_65 : decode cX3_layKept 65 = .ok (.iload_n 3, 1) := by decide +kernel
theorem dX3_layKept_66 : decode cX3_layKept 66 = .ok (.iaload, 1) := by decide +kernel
theorem dX3_layKept_67 : decode cX3_layKept 67 = .ok (.iconst 1, 1) := by decide +kernel
theorem dX3_layKept_68 : decode cX3_layKept 68 = .ok (.iload_n 1, 1) := by decide +kernel
theorem dX3_layKept_69 : decode cX3_layKept 69 = .ok (.ishl, 1) := by decide +kernel
theorem dX3_layKept_70 : decode cX3_layKept 70 = .ok (.ior, 1) := by decide +kernel
theorem dX3_layKept_71 : decode cX3_layKept 71 = .ok (.iastore, 1) := by decide +kernel
theorem dX3_layKept_72 : decode cX3_layKept 72 = .ok (.aload_n 0, 1) := by decide +kernel
theorem dX3_layKept_73 : decode cX3_layKept 73 = .ok (.getfield 26, 3) := by decide +kernel
theorem dX3_layKept_76 : decode cX3_layKept 76 = .ok (.aload_n 0, 1) := by decide +kernel
theorem dX3_layKept_77 : decode cX3_layKept 77 = .ok (.getfield 112, 3) := by decide +kernel
theorem dX3_layKept_80 : decode cX3_layKept 80 = .ok (.aload_n 0, 1) := by decide +kernel
theorem dX3_layKept_81 : decode cX3_layKept 81 = .ok (.getfield 26, 3) := by decide +kernel
theorem dX3_layKept_84 : decode cX3_layKept 84 = .ok (.iload_n 3, 1) := by decide +kernel
theorem dX3_layKept_85 : decode cX3_layKept 85 = .ok (.iaload, 1) := by decide +kernel
theorem dX3_layKept_86 : decode cX3_layKept 86 = .ok (.aload_n 0, 1) := by decide +kernel
theorem dX3_layKept_87 : decode cX3_layKept 87 = .ok (.iload_n 1, 1) := by decide +kernel
theorem dX3_layKept_88 : decode cX3_layKept 88 = .ok (.aload_n 0, 1) := by decide +kernel
theorem dX3_layKept_89 : decode cX3_layKept 89 = .ok (.getfield 23, 3) := by decide +kernel
theorem dX3_layKept_92 : decode cX3_layKept 92 = .ok (.aload_n 0, 1) := by decide +kernel
theorem dX3_layKept_93 : decode cX3_layKept 93 = .ok (.getfield 112, 3) := by decide +kernel
theorem dX3_layKept_96 : decode cX3_layKept 96 = .ok (.iaload, 1) := by decide +kernel
theorem dX3_layKept_97 : decode cX3_layKept 97 = .ok (.invokevirtual 100, 3) := by decide +kernel
theorem dX3_layKept_100 : decode cX3_layKept 100 = .ok (.iadd, 1) := by decide +kernel
theorem dX3_layKept_101 : decode cX3_layKept 101 = .ok (.iastore, 1) := by decide +kernel
theorem dX3_layKept_102 : decode cX3_layKept 102 = .ok (.aload_n 0, 1) := by decide +kernel
theorem dX3_layKept_103 : decode cX3_layKept 103 = .ok (.dup, 1) := by decide +kernel
theorem dX3_layKept_104 : decode cX3_layKept 104 = .ok (.getfield 112, 3) := by decide +kernel
theorem dX3_layKept_107 : decode cX3_layKept 107 = .ok (.iconst 1, 1) := by decide +kernel
theorem dX3_layKept_108 : decode cX3_layKept 108 = .ok (.iadd, 1) := by decide +kernel
theorem dX3_layKept_109 : decode cX3_layKept 109 = .ok (.putfield 112, 3) := by decide +kernel
theorem dX3_layKept_112 : decode cX3_layKept 112 = .ok (.aload_n 0, 1) := by decide +kernel
theorem dX3_layKept_113 : decode cX3_layKept 113 = .ok (.getfield 26, 3) := by decide +kernel
theorem dX3_layKept_116 : decode cX3_layKept 116 = .ok (.iload_n 3, 1) := by decide +kernel
theorem dX3_layKept_117 : decode cX3_layKept 117 = .ok (.dup2, 1) := by decide +kernel
theorem dX3_layKept_118 : decode cX3_layKept 118 = .ok (.iaload, 1) := by decide +kernel
theorem dX3_layKept_119 : decode cX3_layKept 119 = .ok (.aload_n 0, 1) := by decide +kernel
theorem dX3_layKept_120 : decode cX3_layKept 120 = .ok (.iload_n 1, 1) := by decide +kernel
theorem dX3_layKept_121 : decode cX3_layKept 121 = .ok (.aload_n 0, 1) := by decide +kernel
theorem dX3_layKept_122 : decode cX3_layKept 122 = .ok (.getfield 23, 3) := by decide +kernel
theorem dX3_layKept_125 : decode cX3_layKept 125 = .ok (.iload_n 3, 1) := by decide +kernel
theorem dX3_layKept_126 : decode cX3_layKept 126 = .ok (.iaload, 1) := by decide +kernel
theorem dX3_layKept_127 : decode cX3_layKept 127 = .ok (.invokevirtual 100, 3) := by decide +kernel
theorem dX3_layKept_130 : decode cX3_layKept 130 = .ok (.iadd, 1) := by decide +kernel
theorem dX3_layKept_131 : decode cX3_layKept 131 = .ok (.iastore, 1) := by decide +kernel
theorem dX3_layKept_132 : decode cX3_layKept 132 = .ok (.iinc 3 1, 3) := by decide +kernel
theorem dX3_layKept_135 : decode cX3_layKept 135 = .ok (.goto (-99), 3) := by decide +kernel
theorem dX3_layKept_138 : decode cX3_layKept 138 = .ok (.aload_n 0, 1) := by decide +kernel
theorem dX3_layKept_139 : decode cX3_layKept 139 = .ok (.invokevirtual 124, 3) := by decide +kernel
theorem dX3_layKept_142 : decode cX3_layKept 142 = .ok (.aload_n 0, 1) := by decide +kernel
theorem dX3_layKept_143 : decode cX3_layKept 143 = .ok (.aload_n 0, 1) := by decide +kernel
theorem dX3_layKept_144 : decode cX3_layKept 144 = .ok (.getfield 112, 3) := by decide +kernel
theorem dX3_layKept_147 : decode cX3_layKept 147 = .ok (.aload_n 0, 1) := by decide +kernel
theorem dX3_layKept_148 : decode cX3_layKept 148 = .ok (.getfield 7, 3) := by decide +kernel
theorem dX3_layKept_151 : decode cX3_layKept 151 = .ok (.iconst 4, 1) := by decide +kernel
theorem dX3_layKept_152 : decode cX3_layKept 152 = .ok (.iaload, 1) := by decide +kernel
theorem dX3_layKept_153 : decode cX3_layKept 153 = .ok (.if_icmp .le 12, 3) := by decide +kernel
theorem dX3_layKept_156 : decode cX3_layKept 156 = .ok (.aload_n 0, 1) := by decide +kernel
theorem dX3_layKept_157 : decode cX3_layKept 157 = .ok (.getfield 7, 3) := by decide +kernel
theorem dX3_layKept_160 : decode cX3_layKept 160 = .ok (.iconst 4, 1) := by decide +kernel
theorem dX3_layKept_161 : decode cX3_layKept 161 = .ok (.iaload, 1) := by decide +kernel
theorem dX3_layKept_162 : decode cX3_layKept 162 = .ok (.goto 7, 3) := by decide +kernel
theorem dX3_layKept_165 : decode cX3_layKept 165 = .ok (.aload_n 0, 1) := by decide +kernel
theorem dX3_layKept_166 : decode cX3_layKept 166 = .ok (.getfield 112, 3) := by decide +kernel
theorem dX3_layKept_169 : decode cX3_layKept 169 = .ok (.putfield 112, 3) := by decide +kernel
theorem dX3_layKept_172 : decode cX3_layKept 172 = .ok (.iinc 1 1, 3) := by decide +kernel
theorem dX3_layKept_175 : decode cX3_layKept 175 = .ok (.goto (-154), 3) := by decide +kernel
theorem dX3_layKept_178 : decode cX3_layKept 178 = .ok (.return_, 1) := by decide +kernel
set_option maxRecDepth 20000 in
theorem ggX3_kept_X3_in : GoodIn wsX3_kept wsX3_in := goodIn_r _ [7] (by decide +kernel) (by decide +kernel)
set_option maxRecDepth 20000 in
theorem gX3_kept_X3_in : GoodIn wsX3_kept (va_wsS RX3 33 yX3_in wsX3_in) := goodIn_app (goodIn_of _ (by decide +kernel)) ggX3_kept_X3_in
set_option maxRecDepth 20000 in
theorem ggX3_kept_X3_layKept : GoodIn wsX3_kept wsX3_layKept := goodIn_r _ [11, 1, 2, 3, 12, 13, 14, 15, 6, 16, 17, 18, 19, 20, 21, 22, 23, 24, 25, 26, 27, 28, 29, 30, 31, 32, 33, 34, 35, 36, 37, 38, 39, 40, 41, 42, 43, 44, 45, 46, 47, 48, 49, 50, 58, 59, 60, 61, 62, 63, 64] (by decide +kernel) (by decide +kernel)
set_option maxRecDepth 20000 in
theorem gX3_kept_X3_layKept : GoodIn wsX3_kept (wsV RX3 127 RX3 yX3_layKept wsX3_layKept) := goodIn_app (goodIn_of _ (by decide +kernel)) ggX3_kept_X3_layKept
set_option maxRecDepth 20000 in
theorem ggX3_kept_X3_holds : GoodIn wsX3_kept wsX3_holds := goodIn_r _ [54, 12, 55, 56, 6, 57, 58, 59, 60, 61, 62, 63, 64] (by decide +kernel) (by decide +kernel)
