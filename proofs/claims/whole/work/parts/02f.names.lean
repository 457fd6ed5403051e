set_option maxRecDepth 20000 in
theorem gX3_kept_X3_holds : GoodIn wsX3_kept (wsV RX3 109 RX3 yX3_holds wsX3_holds) := goodIn_app (goodIn_of _ (by decide +kernel)) ggX3_kept_X3_holds
theorem dX3_kept_0 : decode cX3_kept 0 = .ok (.iload_n 2, 1) := by decide +kernel
theorem dX3_kept_1 : decode cX3_kept 1 = .ok (.iconst 0, 1) := by decide +kernel
theorem dX3_kept_2 : decode cX3_kept 2 = .ok (.iconst 2, 1) := by decide +kernel
theorem dX3_kept_3 : decode cX3_kept 3 = .ok (.invokestatic 33, 3) := by decide +kernel
theorem dX3_kept_6 : decode cX3_kept 6 = .ok (.ifCond .ne 6, 3) := by decide +kernel
theorem dX3_kept_9 : decode cX3_kept 9 = .ok (.bipush (-2), 2) := by decide +kernel
theorem dX3_kept_11 : decode cX3_kept 11 = .ok (.ireturn, 1) := by decide +kernel
theorem dX3_kept_12 : decode cX3_kept 12 = .ok (.aload_n 0, 1) := by decide +kernel
theorem dX3_kept_13 : decode cX3_kept 13 = .ok (.invokevirtual 127, 3) := by decide +kernel
theorem dX3_kept_16 : decode cX3_kept 16 = .ok (.iload_n 1, 1) := by decide +kernel
theorem dX3_kept_17 : decode cX3_kept 17 = .ok (.iconst (-1), 1) := by decide +kernel
theorem dX3_kept_18 : decode cX3_kept 18 = .ok (.if_icmp .ne 8, 3) := by decide +kernel
theorem dX3_kept_21 : decode cX3_kept 21 = .ok (.aload_n 0, 1) := by decide +kernel
theorem dX3_kept_22 : decode cX3_kept 22 = .ok (.getfield 112, 3) := by decide +kernel
theorem dX3_kept_25 : decode cX3_kept 25 = .ok (.ireturn, 1) := by decide +kernel
theorem dX3_kept_26 : decode cX3_kept 26 = .ok (.iload_n 1, 1) := by decide +kernel
theorem dX3_kept_27 : decode cX3_kept 27 = .ok (.iconst 0, 1) := by decide +kernel
theorem dX3_kept_28 : decode cX3_kept 28 = .ok (.aload_n 0, 1) := by decide +kernel
theorem dX3_kept_29 : decode cX3_kept 29 = .ok (.getfield 112, 3) := by decide +kernel
theorem dX3_kept_32 : decode cX3_kept 32 = .ok (.iconst 1, 1) := by decide +kernel
theorem dX3_kept_33 : decode cX3_kept 33 = .ok (.isub, 1) := by decide +kernel
theorem dX3_kept_34 : decode cX3_kept 34 = .ok (.invokestatic 33, 3) := by decide +kernel
theorem dX3_kept_37 : decode cX3_kept 37 = .ok (.ifCond .ne 6, 3) := by decide +kernel
theorem dX3_kept_40 : decode cX3_kept 40 = .ok (.bipush (-6), 2) := by decide +kernel
theorem dX3_kept_42 : decode cX3_kept 42 = .ok (.ireturn, 1) := by decide +kernel
theorem dX3_kept_43 : decode cX3_kept 43 = .ok (.iload_n 2, 1) := by decide +kernel
theorem dX3_kept_44 : decode cX3_kept 44 = .ok (.ifCond .ne 12, 3) := by decide +kernel
theorem dX3_kept_47 : decode cX3_kept 47 = .ok (.aload_n 0, 1) := by decide +kernel
theorem dX3_kept_48 : decode cX3_kept 48 = .ok (.getfield 23, 3) := by decide +kernel
theorem dX3_kept_51 : decode cX3_kept 51 = .ok (.iload_n 1, 1) := by decide +kernel
theorem dX3_kept_52 : decode cX3_kept 52 = .ok (.iaload, 1) := by decide +kernel
theorem dX3_kept_53 : decode cX3_kept 53 = .ok (.goto 35, 3) := by decide +kernel
theorem dX3_kept_56 : decode cX3_kept 56 = .ok (.iload_n 2, 1) := by decide +kernel
theorem dX3_kept_57 : decode cX3_kept 57 = .ok (.iconst 1, 1) := by decide +kernel
theorem dX3_kept_58 : decode cX3_kept 58 = .ok (.if_icmp .ne 12, 3) := by decide +kernel
theorem dX3_kept_61 : decode cX3_kept 61 = .ok (.aload_n 0, 1) := by decide +kernel
theorem dX3_kept_62 : decode cX3_kept 62 = .ok (.getfield 26, 3) := by decide +kernel
theorem dX3_kept_65 : decode cX3_kept 65 = .ok (.iload_n 1, 1) := by decide +kernel
theorem dX3_kept_66 : decode cX3_kept 66 = .ok (.iaload, 1) := by decide +kernel
theorem dX3_kept_67 : decode cX3_kept 67 = .ok (.goto 21, 3) := by decide +kernel
theorem dX3_kept_70 : decode cX3_kept 70 = .ok (.aload_n 0, 1) := by decide +kernel
theorem dX3_kept_71 : decode cX3_kept 71 = .ok (.aload_n 0, 1) := by decide +kernel
theorem dX3_kept_72 : decode cX3_kept 72 = .ok (.getfield 23, 3) := by decide +kernel
theorem dX3_kept_75 : decode cX3_kept 75 = .ok (.iload_n 1, 1) := by decide +kernel
theorem dX3_kept_76 : decode cX3_kept 76 = .ok (.iaload, 1) := by decide +kernel
theorem dX3_kept_77 : decode cX3_kept 77 = .ok (.invokevirtual 109, 3) := by decide +kernel
theorem dX3_kept_80 : decode cX3_kept 80 = .ok (.ifCond .eq 7, 3) := by decide +kernel
theorem dX3_kept_83 : decode cX3_kept 83 = .ok (.iconst 1, 1) := by decide +kernel
theorem dX3_kept_84 : decode cX3_kept 84 = .ok (.goto 4, 3) := by decide +kernel
theorem dX3_kept_87 : decode cX3_kept 87 = .ok (.iconst 0, 1) := by decide +kernel
theorem dX3_kept_88 : decode cX3_kept 88 = .ok (.ireturn, 1) := by decide +kernel
set_option maxRecDepth 20000 in
theorem ggX3_chosen_X3_in : GoodIn wsX3_chosen wsX3_in := goodIn_r _ [7] (by decide +kernel) (by decide +kernel)
set_option maxRecDepth 20000 in
theorem gX3_chosen_X3_in : GoodIn wsX3_chosen (va_wsS RX3 33 yX3_in wsX3_in) := goodIn_app (goodIn_of _ (by decide +kernel)) ggX3_chosen_X3_in
set_option maxRecDepth 20000 in
theorem ggX3_chosen_X3_layKept : GoodIn wsX3_chosen wsX3_layKept := goodIn_r _ [11, 1, 2, 3, 12, 13, 14, 15, 6, 16, 17, 18, 19, 20, 21, 22, 23, 24, 25, 26, 27, 28, 29, 30, 31, 32, 33, 34, 35, 36, 37, 38, 39, 40, 41, 42, 43, 44, 45, 46, 47, 48, 49, 50, 58, 59, 60, 61, 62, 63, 64] (by decide +kernel) (by decide +kernel)
set_option maxRecDepth 20000 in
theorem gX3_chosen_X3_layKept : GoodIn wsX3_chosen (wsV RX3 127 RX3 yX3_layKept wsX3_layKept) := goodIn_app (goodIn_of _ (by decide +kernel)) ggX3_chosen_X3_layKept
set_option maxRecDepth 20000 in
theorem ggX3_chosen_X3_holds : GoodIn wsX3_chosen wsX3_holds := goodIn_r _ [54, 12, 55, 56, 6, 57, 58, 59, 60, 61, 62, 63, 64] (by decide +kernel) (by decide +kernel)
set_option maxRecDepth 20000 in
theorem gX3_chosen_X3_holds : GoodIn wsX3_chosen (wsV RX3 109 RX3 yX3_holds wsX3_holds) := goodIn_app (goodIn_of _ (by decide +kernel)) ggX3_chosen_X3_holds
theorem dX3_chosen_0 : decode cX3_chosen 0 = .ok (.iload_n 1, 1) := by decide +kernel
theorem dX3_chosen_1 : decode cX3_chosen 1 = .ok (.iconst 0, 1) := by decide +kernel
theorem dX3_chosen_2 : decode cX3_chosen 2 = .ok (.iconst 2, 1) := by decide +kernel
theorem dX3_chosen_3 : decode cX3_chosen 3 = .ok (.invokestatic 33, 3) := by decide +kernel
theorem dX3_chosen_6 : decode cX3_chosen 6 = .ok (.ifCond .ne 6, 3) := by decide +kernel
theorem dX3_chosen_9 : decode cX3_chosen 9 = .ok (.bipush (-2), 2) := by decide +kernel
theorem dX3_chosen_11 : decode cX3_chosen 11 = .ok (.ireturn, 1) := by decide +kernel
theorem dX3_chosen_12 : decode cX3_chosen 12 = .ok (.aload_n 0, 1) := by decide +kernel
theorem dX3_chosen_13 : decode cX3_chosen 13 = .ok (.invokevirtual 127, 3) := by decide +kernel
theorem dX3_chosen_16 : decode cX3_chosen 16 = .ok (.iconst 0, 1) := by decide +kernel
theorem dX3_chosen_17 : decode cX3_chosen 17 = .ok (.istore_n 2, 1) := by decide +kernel
theorem dX3_chosen_18 : decode cX3_chosen 18 = .ok (.iload_n 2, 1) := by decide +kernel
theorem dX3_chosen_19 : decode cX3_chosen 19 = .ok (.aload_n 0, 1) := by decide +kernel
theorem dX3_chosen_20 : decode cX3_chosen 20 = .ok (.getfield 112, 3) := by decide +kernel
theorem dX3_chosen_23 : decode cX3_chosen 23 = .ok (.if_icmp .ge 51, 3) := by decide +kernel
theorem dX3_chosen_26 : decode cX3_chosen 26 = .ok (.aload_n 0, 1) := by decide +kernel
theorem dX3_chosen_27 : decode cX3_chosen 27 = .ok (.aload_n 0, 1) := by decide +kernel
theorem dX3_chosen_28 : decode cX3_chosen 28 = .ok (.getfield 23, 3) := by decide +kernel
theorem dX3_chosen_31 : decode cX3_chosen 31 = .ok (.iload_n 2, 1) := by decide +kernel
theorem dX3_chosen_32 : decode cX3_chosen 32 = .ok (.iaload, 1) := by decide +kernel
theorem dX3_chosen_33 : decode cX3_chosen 33 = .ok (.invokevirtual 109, 3) := by decide +kernel
theorem dX3_chosen_36 : decode cX3_chosen 36 = .ok (.ifCond .eq 32, 3) := by decide +kernel
theorem dX3_chosen_39 : decode cX3_chosen 39 = .ok (.iload_n 1, 1) := by decide +kernel
theorem dX3_chosen_40 : decode cX3_chosen 40 = .ok (.ifCond .ne 12, 3) := by decide +kernel
theorem dX3_chosen_43 : decode cX3_chosen 43 = .ok (.aload_n 0, 1) := by decide +kernel
theorem dX3_chosen_44 : decode cX3_chosen 44 = .ok (.getfield 23, 3) := by decide +kernel
theorem dX3_chosen_47 : decode cX3_chosen 47 = .ok (.iload_n 2, 1) := by decide +kernel
theorem dX3_chosen_48 : decode cX3_chosen 48 = .ok (.iaload, 1) := by decide +kernel
theorem dX3_chosen_49 : decode cX3_chosen 49 = .ok (.goto 18, 3) := by decide +kernel
theorem dX3_chosen_52 : decode cX3_chosen 52 = .ok (.iload_n 1, 1) := by decide +kernel
theorem dX3_chosen_53 : decode cX3_chosen 53 = .ok (.iconst 1, 1) := by decide +kernel
theorem dX3_chosen_54 : decode cX3_chosen 54 = .ok (.if_icmp .ne 7, 3) := by decide +kernel
theorem dX3_chosen_57 : decode cX3_chosen 57 = .ok (.iload_n 2, 1) := by decide +kernel
theorem dX3_chosen_58 : decode cX3_chosen 58 = .ok (.goto 9, 3) := by decide +kernel
theorem dX3_chosen_61 : decode cX3_chosen 61 = .ok (.aload_n 0, 1) := by decide +kernel
theorem dX3_chosen_62 : decode cX3_chosen 62 = .ok (.getfield 26, 3) := by decide +kernel
theorem dX3_chosen_65 : decode cX3_chosen 65 = .ok (.iload_n 2, 1) := by decide +kernel
theorem dX3_chosen_66 : decode cX3_chosen 66 = .ok (.iaload, 1) := by decide +kernel
theorem dX3_chosen_67 : decode cX3_chosen 67 = .ok (.ireturn, 1) := by decide +kernel
theorem dX3_chosen_68 : decode cX3_chosen 68 = .ok (.iinc 2 1, 3) := by decide +kernel
theorem dX3_chosen_71 : decode cX3_chosen 71 = .ok (.goto (-53), 3) := by decide +kernel
theorem dX3_chosen_74 : decode cX3_chosen 74 = .ok (.bipush (-6), 2) := by decide +kernel
theorem dX3_chosen_76 : decode cX3_chosen 76 = .ok (.ireturn, 1) := by decide +kernel
set_option maxRecDepth 20000 in
theorem ggX3_check_X3_in : GoodIn wsX3_check wsX3_in := goodIn_r _ [5] (by decide +kernel) (by decide +kernel)
set_option maxRecDepth 20000 in
theorem gX3_check_X3_in : GoodIn wsX3_check (va_wsS RX3 33 yX3_in wsX3_in) := goodIn_app (goodIn_of _ (by decide +kernel)) ggX3_check_X3_in
set_option maxRecDepth 20000 in
theorem ggX3_check_X3_isRow : GoodIn wsX3_check wsX3_isRow := goodIn_r _ [9, 10, 11, 12, 4, 13, 1, 2, 3, 5, 14, 15, 16, 17, 18, 19, 20] (by decide +kernel) (by decide +kernel)
set_option maxRecDepth 20000 in
theorem gX3_check_X3_isRow : GoodIn wsX3_check (wsV RX3 66 RX3 yX3_isRow wsX3_isRow) := goodIn_app (goodIn_of _ (by decide +kernel)) ggX3_check_X3_isRow
theorem dX3_check_0 : decode cX3_check 0 = .ok (.iload_n 1, 1) := by decide +kernel
theorem dX3_check_1 : decode cX3_check 1 = .ok (.iconst 0, 1) := by decide +kernel
theorem dX3_check_2 : decode cX3_check 2 = .ok (.iconst 2, 1) := by decide +kernel
theorem dX3_check_3 : decode cX3_check 3 = .ok (.invokestatic 33, 3) := by decide +kernel
theorem dX3_check_6 : decode cX3_check 6 = .ok (.ifCond .ne 5, 3) := by decide +kernel
theorem dX3_check_9 : decode cX3_check 9 = .ok (.iconst (-1), 1) := by decide +kernel
theorem dX3_check_10 : decode cX3_check 10 = .ok (.ireturn, 1) := by decide +kernel
theorem dX3_check_11 : decode cX3_check 11 = .ok (.aload_n 0, 1) := by decide +kernel
theorem dX3_check_12 : decode cX3_check 12 = .ok (.iload_n 2, 1) := by decide +kernel
theorem dX3_check_13 : decode cX3_check 13 = .ok (.invokevirtual 66, 3) := by decide +kernel
theorem dX3_check_16 : decode cX3_check 16 = .ok (.ifCond .ne 6, 3) := by decide +kernel
theorem dX3_check_19 : decode cX3_check 19 = .ok (.bipush (-2), 2) := by decide +kernel
theorem dX3_check_21 : decode cX3_check 21 = .ok (.ireturn, 1) := by decide +kernel
theorem dX3_check_22 : decode cX3_check 22 = .ok (.aload_n 0, 1) := by decide +kernel
theorem dX3_check_23 : decode cX3_check 23 = .ok (.getfield 7, 3) := by decide +kernel
theorem dX3_check_26 : decode cX3_check 26 = .ok (.iconst 5, 1) := by decide +kernel
theorem dX3_check_27 : decode cX3_check 27 = .ok (.iload_n 1, 1) := by decide +kernel
theorem dX3_check_28 : decode cX3_check 28 = .ok (.iadd, 1) := by decide +kernel
theorem dX3_check_29 : decode cX3_check 29 = .ok (.iaload, 1) := by decide +kernel
theorem dX3_check_30 : decode cX3_check 30 = .ok (.istore_n 3, 1) := by decide +kernel
theorem dX3_check_31 : decode cX3_check 31 = .ok (.aload_n 0, 1) := by decide +kernel
theorem dX3_check_32 : decode cX3_check 32 = .ok (.getfield 7, 3) := by decide +kernel
theorem dX3_check_35 : decode cX3_check 35 = .ok (.iconst 5, 1) := by decide +kernel
theorem dX3_check_36 : decode cX3_check 36 = .ok (.iload_n 1, 1) := by decide +kernel
theorem dX3_check_37 : decode cX3_check 37 = .ok (.iadd, 1) := by decide +kernel
theorem dX3_check_38 : decode cX3_check 38 = .ok (.iload_n 2, 1) := by decide +kernel
theorem dX3_check_39 : decode cX3_check 39 = .ok (.iastore, 1) := by decide +kernel
theorem dX3_check_40 : decode cX3_check 40 = .ok (.iload_n 3, 1) := by decide +kernel
theorem dX3_check_41 : decode cX3_check 41 = .ok (.ireturn, 1) := by decide +kernel
set_option maxRecDepth 20000 in
theorem ggX3_openFor_X3_places : GoodIn wsX3_openFor wsX3_places := goodIn_r _ [5, 6, 11, 12, 13, 14, 15, 16, 17] (by decide +kernel) (by decide +kernel)
set_option maxRecDepth 20000 in
theorem gX3_openFor_X3_places : GoodIn wsX3_openFor (wsV RX3 29 RX3 yX3_places wsX3_places) := goodIn_app (goodIn_of _ (by decide +kernel)) ggX3_openFor_X3_places
set_option maxRecDepth 20000 in
theorem ggX3_openFor_X3_free : GoodIn wsX3_openFor wsX3_free := goodIn_r _ [10, 6, 1, 2, 3, 4, 5, 11, 12, 13, 14, 15, 16, 17] (by decide +kernel) (by decide +kernel)
set_option maxRecDepth 20000 in
theorem gX3_openFor_X3_free : GoodIn wsX3_openFor (wsV RX3 69 RX3 yX3_free wsX3_free) := goodIn_app (goodIn_of _ (by decide +kernel)) ggX3_openFor_X3_free
theorem dX3_openFor_0 : decode cX3_openFor 0 = .ok (.iconst 1, 1) := by decide +kernel
theorem dX3_openFor_1 : decode cX3_openFor 1 = .ok (.aload_n 0, 1) := by decide +kernel
theorem dX3_openFor_2 : decode cX3_openFor 2 = .ok (.invokevirtual 29, 3) := by decide +kernel
theorem dX3_openFor_5 : decode cX3_openFor 5 = .ok (.ishl, 1) := by decide +kernel
theorem dX3_openFor_6 : decode cX3_openFor 6 = .ok (.iconst 1, 1) := by decide +kernel
theorem dX3_openFor_7 : decode cX3_openFor 7 = .ok (.isub, 1) := by decide +kernel
theorem dX3_openFor_8 : decode cX3_openFor 8 = .ok (.iload_n 1, 1) := by decide +kernel
theorem dX3_openFor_9 : decode cX3_openFor 9 = .ok (.iconst (-1), 1) := by decide +kernel
theorem dX3_openFor_10 : decode cX3_openFor 10 = .ok (.ixor, 1) := by decide +kernel
theorem dX3_openFor_11 : decode cX3_openFor 11 = .ok (.iand, 1) := by decide +kernel
theorem dX3_openFor_12 : decode cX3_openFor 12 = .ok (.istore_n 2, 1) := by decide +kernel
theorem dX3_openFor_13 : decode cX3_openFor 13 = .ok (.aload_n 0, 1) := by decide +kernel
theorem dX3_openFor_14 : decode cX3_openFor 14 = .ok (.invokevirtual 29, 3) := by decide +kernel
theorem dX3_openFor_17 : decode cX3_openFor 17 = .ok (.iconst 2, 1) := by decide +kernel
theorem dX3_openFor_18 : decode cX3_openFor 18 = .ok (.idiv, 1) := by decide +kernel
theorem dX3_openFor_19 : decode cX3_openFor 19 = .ok (.istore_n 3, 1) := by decide +kernel
theorem dX3_openFor_20 : decode cX3_openFor 20 = .ok (.iload_n 3, 1) := by decide +kernel
theorem dX3_openFor_21 : decode cX3_openFor 21 = .ok (.ifCond .le 82, 3) := by decide +kernel
theorem dX3_openFor_24 : decode cX3_openFor 24 = .ok (.iconst 0, 1) := by decide +kernel
theorem dX3_openFor_25 : decode cX3_openFor 25 = .ok (.istore 4, 2) := by decide +kernel
theorem dX3_openFor_27 : decode cX3_openFor 27 = .ok (.iconst 0, 1) := by decide +kernel
theorem dX3_openFor_28 : decode cX3_openFor 28 = .ok (.istore 5, 2) := by decide +kernel
theorem dX3_openFor_30 : decode cX3_openFor 30 = .ok (.iload 5, 2) := by decide +kernel
theorem dX3_openFor_32 : decode cX3_openFor 32 = .ok (.aload_n 0, 1) := by decide +kernel
theorem dX3_openFor_33 : decode cX3_openFor 33 = .ok (.invokevirtual 29, 3) := by decide +kernel
theorem dX3_openFor_36 : decode cX3_openFor 36 = .ok (.if_icmp .ge 57, 3) := by decide +kernel
theorem dX3_openFor_39 : decode cX3_openFor 39 = .ok (.iload_n 2, 1) := by decide +kernel
theorem dX3_openFor_40 : decode cX3_openFor 40 = .ok (.iload 5, 2) := by decide +kernel
theorem dX3_openFor_42 : decode cX3_openFor 42 = .ok (.ishr, 1) := by decide +kernel
theorem dX3_openFor_43 : decode cX3_openFor 43 = .ok (.iconst 1, 1) := by decide +kernel
theorem dX3_openFor_44 : decode cX3_openFor 44 = .ok (.iand, 1) := by decide +kernel
theorem dX3_openFor_45 : decode cX3_openFor 45 = .ok (.istore 6, 2) := by decide +kernel
theorem dX3_openFor_47 : decode cX3_openFor 47 = .ok (.iload 4, 2) := by decide +kernel
theorem dX3_openFor_49 : decode cX3_openFor 49 = .ok (.iload 5, 2) := by decide +kernel
theorem dX3_openFor_51 : decode cX3_openFor 51 = .ok (.iload_n 3, 1) := by decide +kernel
theorem dX3_openFor_52 : decode cX3_openFor 52 = .ok (.idiv, 1) := by decide +kernel
theorem dX3_openFor_53 : decode cX3_openFor 53 = .ok (.iconst 2, 1) := by decide +kernel
theorem dX3_openFor_54 : decode cX3_openFor 54 = .ok (.irem, 1) := by decide +kernel
theorem dX3_openFor_55 : decode cX3_openFor 55 = .ok (.ifCond .ne 15, 3) := by decide +kernel
theorem dX3_openFor_58 : decode cX3_openFor 58 = .ok (.iload 6, 2) := by decide +kernel
theorem dX3_openFor_60 : decode cX3_openFor 60 = .ok (.iload_n 2, 1) := by decide +kernel
theorem dX3_openFor_61 : decode cX3_openFor 61 = .ok (.iload 5, 2) := by decide +kernel
theorem dX3_openFor_63 : decode cX3_openFor 63 = .ok (.iload_n 3, 1) := by decide +kernel
theorem dX3_openFor_64 : decode cX3_openFor 64 = .ok (.iadd, 1) := by decide +kernel
theorem dX3_openFor_65 : decode cX3_openFor 65 = .ok (.ishr, 1) := by decide +kernel
theorem dX3_openFor_66 : decode cX3_openFor 66 = .ok (.iand, 1) := by decide +kernel
theorem dX3_openFor_67 : decode cX3_openFor 67 = .ok (.goto 14, 3) := by decide +kernel
theorem dX3_openFor_70 : decode cX3_openFor 70 = .ok (.iload 6, 2) := by decide +kernel
theorem dX3_openFor_72 : decode cX3_openFor 72 = .ok (.iload_n 2, 1) := by decide +kernel
theorem dX3_openFor_73 : decode cX3_openFor 73 = .ok (.iload 5, 2) := by decide +kernel
theorem dX3_openFor_75 : decode cX3_openFor 75 = .ok (.iload_n 3, 1) := by decide +kernel
theorem dX3_openFor_76 : decode cX3_openFor 76 = .ok (.isub, 1) := by decide +kernel
theorem dX3_openFor_77 : decode cX3_openFor 77 = .ok (.ishr, 1) := by decide +kernel
theorem dX3_openFor_78 : decode cX3_openFor 78 = .ok (.iconst 1, 1) := by decide +kernel
theorem dX3_openFor_79 : decode cX3_openFor 79 = .ok (.iand, 1) := by decide +kernel
theorem dX3_openFor_80 : decode cX3_openFor 80 = .ok (.ior, 1) := by decide +kernel
theorem dX3_openFor_81 : decode cX3_openFor 81 = .ok (.iload 5, 2) := by decide +kernel
theorem dX3_openFor_83 : decode cX3_openFor 83 = .ok (.ishl, 1) := by decide +kernel
theorem dX3_openFor_84 : decode cX3_openFor 84 = .ok (.ior, 1) := by decide +kernel
theorem dX3_openFor_85 : decode cX3_openFor 85 = .ok (.istore 4, 2) := by decide +kernel
theorem dX3_openFor_87 : decode cX3_openFor 87 = .ok (.iinc 5 1, 3) := by decide +kernel
theorem dX3_openFor_90 : decode cX3_openFor 90 = .ok (.goto (-60), 3) := by decide +kernel
theorem dX3_openFor_93 : decode cX3_openFor 93 = .ok (.iload 4, 2) := by decide +kernel
theorem dX3_openFor_95 : decode cX3_openFor 95 = .ok (.istore_n 2, 1) := by decide +kernel
theorem dX3_openFor_96 : decode cX3_openFor 96 = .ok (.iload_n 3, 1) := by decide +kernel
theorem dX3_openFor_97 : decode cX3_openFor 97 = .ok (.iconst 2, 1) := by decide +kernel
theorem dX3_openFor_98 : decode cX3_openFor 98 = .ok (.idiv, 1) := by decide +kernel
theorem dX3_openFor_99 : decode cX3_openFor 99 = .ok (.istore_n 3, 1) := by decide +kernel
theorem dX3_openFor_100 : decode cX3_openFor 100 = .ok (.goto (-80), 3) := by decide +kernel
theorem dX3_openFor_103 : decode cX3_openFor 103 = .ok (.aload_n 0, 1) := by decide +kernel
theorem dX3_openFor_104 : decode cX3_openFor 104 = .ok (.invokevirtual 69, 3) := by decide +kernel
theorem dX3_openFor_107 : decode cX3_openFor 107 = .ok (.iload_n 2, 1) := by decide +kernel
theorem dX3_openFor_108 : decode cX3_openFor 108 = .ok (.iconst (-1), 1) := by decide +kernel
theorem dX3_openFor_109 : decode cX3_openFor 109 = .ok (.ixor, 1) := by decide +kernel
theorem dX3_openFor_110 : decode cX3_openFor 110 = .ok (.iand, 1) := by decide +kernel
theorem dX3_openFor_111 : decode cX3_openFor 111 = .ok (.ireturn, 1) := by decide +kernel
set_option maxRecDepth 20000 in
theorem ggX3_open_X3_isRow : GoodIn wsX3_open wsX3_isRow := goodIn_r _ [5, 6, 7, 8, 4, 9, 10, 11, 12, 13, 25, 26, 27, 28, 29, 30, 31] (by decide +kernel) (by decide +kernel)
set_option maxRecDepth 20000 in
theorem gX3_open_X3_isRow : GoodIn wsX3_open (wsV RX3 66 RX3 yX3_isRow wsX3_isRow) := goodIn_app (goodIn_of _ (by decide +kernel)) ggX3_open_X3_isRow
set_option maxRecDepth 20000 in
theorem ggX3_open_X3_in : GoodIn wsX3_open wsX3_in := goodIn_r _ [13] (by decide +kernel) (by decide +kernel)
set_option maxRecDepth 20000 in
theorem gX3_open_X3_in : GoodIn wsX3_open (va_wsS RX3 33 yX3_in wsX3_in) := goodIn_app (goodIn_of _ (by decide +kernel)) ggX3_open_X3_in
set_option maxRecDepth 20000 in
theorem ggX3_open_X3_openFor : GoodIn wsX3_open wsX3_openFor := goodIn_r _ [17, 6, 7, 8, 4, 9, 10, 18, 19, 20, 21, 25, 26, 27, 28, 29, 30, 31] (by decide +kernel) (by decide +kernel)
set_option maxRecDepth 20000 in
theorem gX3_open_X3_openFor : GoodIn wsX3_open (wsV RX3 130 RX3 yX3_openFor wsX3_openFor) := goodIn_app (goodIn_of _ (by decide +kernel)) ggX3_open_X3_openFor
set_option maxRecDepth 20000 in
theorem ggX3_open_X3_size : GoodIn wsX3_open wsX3_size := goodIn_r _ [24] (by decide +kernel) (by decide +kernel)
set_option maxRecDepth 20000 in
theorem gX3_open_X3_size : GoodIn wsX3_open (va_wsS RX3 72 yX3_size wsX3_size) := goodIn_app (goodIn_of _ (by decide +kernel)) ggX3_open_X3_size
theorem dX3_open_0 : decode cX3_open 0 = .ok (.aload_n 0, 1) := by decide +kernel
theorem dX3_open_1 : decode cX3_open 1 = .ok (.iload_n 1, 1) := by decide +kernel
theorem dX3_open_2 : decode cX3_open 2 = .ok (.invokevirtual 66, 3) := by decide +kernel
theorem dX3_open_5 : decode cX3_open 5 = .ok (.ifCond .eq 12, 3) := by decide +kernel
theorem dX3_open_8 : decode cX3_open 8 = .ok (.iload_n 2, 1) := by decide +kernel
theorem dX3_open_9 : decode cX3_open 9 = .ok (.iconst 0, 1) := by decide +kernel
theorem dX3_open_10 : decode cX3_open 10 = .ok (.iconst 1, 1) := by decide +kernel
theorem dX3_open_11 : decode cX3_open 11 = .ok (.invokestatic 33, 3) := by decide +kernel
theorem dX3_open_14 : decode cX3_open 14 = .ok (.ifCond .ne 6, 3) := by decide +kernel
theorem dX3_open_17 : decode cX3_open 17 = .ok (.bipush (-2), 2) := by decide +kernel
theorem dX3_open_19 : decode cX3_open 19 = .ok (.ireturn, 1) := by decide +kernel
theorem dX3_open_20 : decode cX3_open 20 = .ok (.iload_n 2, 1) := by decide +kernel
theorem dX3_open_21 : decode cX3_open 21 = .ok (.ifCond .ne 11, 3) := by decide +kernel
theorem dX3_open_24 : decode cX3_open 24 = .ok (.aload_n 0, 1) := by decide +kernel
theorem dX3_open_25 : decode cX3_open 25 = .ok (.iload_n 1, 1) := by decide +kernel
theorem dX3_open_26 : decode cX3_open 26 = .ok (.invokevirtual 130, 3) := by decide +kernel
theorem dX3_open_29 : decode cX3_open 29 = .ok (.goto 11, 3) := by decide +kernel
theorem dX3_open_32 : decode cX3_open 32 = .ok (.aload_n 0, 1) := by decide +kernel
theorem dX3_open_33 : decode cX3_open 33 = .ok (.iload_n 1, 1) := by decide +kernel
theorem dX3_open_34 : decode cX3_open 34 = .ok (.invokevirtual 130, 3) := by decide +kernel
theorem dX3_open_37 : decode cX3_open 37 = .ok (.invokestatic 72, 3) := by decide +kernel
theorem dX3_open_40 : decode cX3_open 40 = .ok (.ireturn, 1) := by decide +kernel
set_option maxRecDepth 20000 in
theorem ggX3_fragile_X3_in : GoodIn wsX3_fragile wsX3_in := goodIn_r _ [4] (by decide +kernel) (by decide +kernel)
set_option maxRecDepth 20000 in
theorem gX3_fragile_X3_in : GoodIn wsX3_fragile (va_wsS RX3 33 yX3_in wsX3_in) := goodIn_app (goodIn_of _ (by decide +kernel)) ggX3_fragile_X3_in
set_option maxRecDepth 20000 in
theorem ggX3_fragile_X3_places : GoodIn wsX3_fragile wsX3_places := goodIn_r _ [8, 9, 21, 22, 23, 24, 25, 26, 27] (by decide +kernel) (by decide +kernel)
set_option maxRecDepth 20000 in
theorem gX3_fragile_X3_places : GoodIn wsX3_fragile (wsV RX3 29 RX3 yX3_places wsX3_places) := goodIn_app (goodIn_of _ (by decide +kernel)) ggX3_fragile_X3_places
set_option maxRecDepth 20000 in
theorem ggX3_fragile_X3_size : GoodIn wsX3_fragile wsX3_size := goodIn_r _ [12] (by decide +kernel) (by decide +kernel)
set_option maxRecDepth 20000 in
theorem gX3_fragile_X3_size : GoodIn wsX3_fragile (va_wsS RX3 72 yX3_size wsX3_size) := goodIn_app (goodIn_of _ (by decide +kernel)) ggX3_fragile_X3_size
set_option maxRecDepth 20000 in
theorem ggX3_fragile_X3_openFor : GoodIn wsX3_fragile wsX3_openFor := goodIn_r _ [16, 5, 6, 7, 3, 8, 9, 17, 18, 19, 20, 21, 22, 23, 24, 25, 26, 27] (by decide +kernel) (by decide +kernel)
set_option maxRecDepth 20000 in
theorem gX3_fragile_X3_openFor : GoodIn wsX3_fragile (wsV RX3 130 RX3 yX3_openFor wsX3_openFor) := goodIn_app (goodIn_of _ (by decide +kernel)) ggX3_fragile_X3_openFor
theorem dX3_fragile_0 : decode cX3_fragile 0 = .ok (.iload_n 1, 1) := by decide +kernel
theorem dX3_fragile_1 : decode cX3_fragile 1 = .ok (.iconst 0, 1) := by decide +kernel
theorem dX3_fragile_2 : decode cX3_fragile 2 = .ok (.iconst 2, 1) := by decide +kernel
theorem dX3_fragile_3 : decode cX3_fragile 3 = .ok (.invokestatic 33, 3) := by decide +kernel
theorem dX3_fragile_6 : decode cX3_fragile 6 = .ok (.ifCond .ne 6, 3) := by decide +kernel
theorem dX3_fragile_9 : decode cX3_fragile 9 = .ok (.bipush (-2), 2) := by decide +kernel
theorem dX3_fragile_11 : decode cX3_fragile 11 = .ok (.ireturn, 1) := by decide +kernel
theorem dX3_fragile_12 : decode cX3_fragile 12 = .ok (.bipush (-6), 2) := by decide +kernel
theorem dX3_fragile_14 : decode cX3_fragile 14 = .ok (.istore_n 2, 1) := by decide +kernel
theorem dX3_fragile_15 : decode cX3_fragile 15 = .ok (.bipush (-6), 2) := by decide +kernel
theorem dX3_fragile_17 : decode cX3_fragile 17 = .ok (.istore_n 3, 1) := by decide +kernel
theorem dX3_fragile_18 : decode cX3_fragile 18 = .ok (.iconst 0, 1) := by decide +kernel
theorem dX3_fragile_19 : decode cX3_fragile 19 = .ok (.istore 4, 2) := by decide +kernel
theorem dX3_fragile_21 : decode cX3_fragile 21 = .ok (.iconst 0, 1) := by decide +kernel
theorem dX3_fragile_22 : decode cX3_fragile 22 = .ok (.istore 5, 2) := by decide +kernel
theorem dX3_fragile_24 : decode cX3_fragile 24 = .ok (.iload 5, 2) := by decide +kernel
theorem dX3_fragile_26 : decode cX3_fragile 26 = .ok (.iconst 1, 1) := by decide +kernel
theorem dX3_fragile_27 : decode cX3_fragile 27 = .ok (.aload_n 0, 1) := by decide +kernel
theorem dX3_fragile_28 : decode cX3_fragile 28 = .ok (.invokevirtual 29, 3) := by decide +kernel
theorem dX3_fragile_31 : decode cX3_fragile 31 = .ok (.ishl, 1) := by decide +kernel
theorem dX3_fragile_32 : decode cX3_fragile 32 = .ok (.if_icmp .ge 67, 3) := by decide +kernel
theorem dX3_fragile_35 : decode cX3_fragile 35 = .ok (.iload 5, 2) := by decide +kernel
theorem dX3_fragile_37 : decode cX3_fragile 37 = .ok (.invokestatic 72, 3) := by decide +kernel
theorem dX3_fragile_40 : decode cX3_fragile 40 = .ok (.istore 6, 2) := by decide +kernel
theorem dX3_fragile_42 : decode cX3_fragile 42 = .ok (.iload_n 2, 1) := by decide +kernel
theorem dX3_fragile_43 : decode cX3_fragile 43 = .ok (.ifCond .lt 9, 3) := by decide +kernel
theorem dX3_fragile_46 : decode cX3_fragile 46 = .ok (.iload 6, 2) := by decide +kernel
theorem dX3_fragile_48 : decode cX3_fragile 48 = .ok (.iload_n 2, 1) := by decide +kernel
theorem dX3_fragile_49 : decode cX3_fragile 49 = .ok (.if_icmp .gt 44, 3) := by decide +kernel
theorem dX3_fragile_52 : decode cX3_fragile 52 = .ok (.aload_n 0, 1) := by decide +kernel
theorem dX3_fragile_53 : decode cX3_fragile 53 = .ok (.iload 5, 2) := by decide +kernel
theorem dX3_fragile_55 : decode cX3_fragile 55 = .ok (.invokevirtual 130, 3) := by decide +kernel
theorem dX3_fragile_58 : decode cX3_fragile 58 = .ok (.ifCond .eq 35, 3) := by decide +kernel
theorem dX3_fragile_61 : decode cX3_fragile 61 = .ok (.iload 6, 2) := by decide +kernel
theorem dX3_fragile_63 : decode cX3_fragile 63 = .ok (.iload_n 2, 1) := by decide +kernel
theorem dX3_fragile_64 : decode cX3_fragile 64 = .ok (.if_icmp .ne 10, 3) := by decide +kernel
theorem dX3_fragile_67 : decode cX3_fragile 67 = .ok (.iload 4, 2) := by decide +kernel
theorem dX3_fragile_69 : decode cX3_fragile 69 = .ok (.iconst 1, 1) := by decide +kernel
theorem dX3_fragile_70 : decode cX3_fragile 70 = .ok (.iadd, 1) := by decide +kernel
theorem dX3_fragile_71 : decode cX3_fragile 71 = .ok (.goto 4, 3) := by decide +kernel
theorem dX3_fragile_74 : decode cX3_fragile 74 = .ok (.iconst 1, 1) := by decide +kernel
theorem dX3_fragile_75 : decode cX3_fragile 75 = .ok (.istore 4, 2) := by decide +kernel
theorem dX3_fragile_77 : decode cX3_fragile 77 = .ok (.iload 6, 2) := by decide +kernel
theorem dX3_fragile_79 : decode cX3_fragile 79 = .ok (.iload_n 2, 1) := by decide +kernel
theorem dX3_fragile_80 : decode cX3_fragile 80 = .ok (.if_icmp .ne 7, 3) := by decide +kernel
theorem dX3_fragile_83 : decode cX3_fragile 83 = .ok (.iload_n 3, 1) := by decide +kernel
theorem dX3_fragile_84 : decode cX3_fragile 84 = .ok (.goto 5, 3) := by decide +kernel
theorem dX3_fragile_87 : decode cX3_fragile 87 = .ok (.iload 5, 2) := by decide +kernel
theorem dX3_fragile_89 : decode cX3_fragile 89 = .ok (.istore_n 3, 1) := by decide +kernel
theorem dX3_fragile_90 : decode cX3_fragile 90 = .ok (.iload 6, 2) := by decide +kernel
theorem dX3_fragile_92 : decode cX3_fragile 92 = .ok (.istore_n 2, 1) := by decide +kernel
theorem dX3_fragile_93 : decode cX3_fragile 93 = .ok (.iinc 5 1, 3) := by decide +kernel
theorem dX3_fragile_96 : decode cX3_fragile 96 = .ok (.goto (-72), 3) := by decide +kernel
theorem dX3_fragile_99 : decode cX3_fragile 99 = .ok (.iload_n 2, 1) := by decide +kernel
theorem dX3_fragile_100 : decode cX3_fragile 100 = .ok (.ifCond .lt 7, 3) := by decide +kernel
theorem dX3_fragile_103 : decode cX3_fragile 103 = .ok (.iload_n 1, 1) := by decide +kernel
theorem dX3_fragile_104 : decode cX3_fragile 104 = .ok (.ifCond .ne 7, 3) := by decide +kernel
theorem dX3_fragile_107 : decode cX3_fragile 107 = .ok (.iload_n 2, 1) := by decide +kernel
theorem dX3_fragile_108 : decode cX3_fragile 108 = .ok (.goto 14, 3) := by decide +kernel
theorem dX3_fragile_111 : decode cX3_fragile 111 = .ok (.iload_n 1, 1) := by decide +kernel
theorem dX3_fragile_112 : decode cX3_fragile 112 = .ok (.iconst 1, 1) := by decide +kernel
theorem dX3_fragile_113 : decode cX3_fragile 113 = .ok (.if_icmp .ne 8, 3) := by decide +kernel
theorem dX3_fragile_116 : decode cX3_fragile 116 = .ok (.iload 4, 2) := by decide +kernel
theorem dX3_fragile_118 : decode cX3_fragile 118 = .ok (.goto 4, 3) := by decide +kernel
theorem dX3_fragile_121 : decode cX3_fragile 121 = .ok (.iload_n 3, 1) := by decide +kernel
theorem dX3_fragile_122 : decode cX3_fragile 122 = .ok (.ireturn, 1) := by decide +kernel
set_option maxRecDepth 20000 in
theorem ggX3_image_X3_in : GoodIn wsX3_image wsX3_in := goodIn_r _ [7] (by decide +kernel) (by decide +kernel)
set_option maxRecDepth 20000 in
theorem gX3_image_X3_in : GoodIn wsX3_image (va_wsS RX3 33 yX3_in wsX3_in) := goodIn_app (goodIn_of _ (by decide +kernel)) ggX3_image_X3_in
theorem dX3_image_0 : decode cX3_image 0 = .ok (.iload_n 1, 1) := by decide +kernel
theorem dX3_image_1 : decode cX3_image 1 = .ok (.iconst 0, 1) := by decide +kernel
theorem dX3_image_2 : decode cX3_image 2 = .ok (.iconst 1, 1) := by decide +kernel
theorem dX3_image_3 : decode cX3_image 3 = .ok (.invokestatic 33, 3) := by decide +kernel
theorem dX3_image_6 : decode cX3_image 6 = .ok (.ifCond .ne 6, 3) := by decide +kernel
theorem dX3_image_9 : decode cX3_image 9 = .ok (.bipush (-2), 2) := by decide +kernel
theorem dX3_image_11 : decode cX3_image 11 = .ok (.ireturn, 1) := by decide +kernel
theorem dX3_image_12 : decode cX3_image 12 = .ok (.iconst 0, 1) := by decide +kernel
theorem dX3_image_13 : decode cX3_image 13 = .ok (.istore_n 2, 1) := by decide +kernel
theorem dX3_image_14 : decode cX3_image 14 = .ok (.iload_n 2, 1) := by decide +kernel
theorem dX3_image_15 : decode cX3_image 15 = .ok (.bipush 24, 2) := by decide +kernel
theorem dX3_image_17 : decode cX3_image 17 = .ok (.if_icmp .ge 26, 3) := by decide +kernel
theorem dX3_image_20 : decode cX3_image 20 = .ok (.aload_n 0, 1) := by decide +kernel
theorem dX3_image_21 : decode cX3_image 21 = .ok (.getfield 13, 3) := by decide +kernel
theorem dX3_image_24 : decode cX3_image 24 = .ok (.bipush 24, 2) := by decide +kernel
theorem dX3_image_26 : decode cX3_image 26 = .ok (.iload_n 1, 1) := by decide +kernel
theorem dX3_image_27 : decode cX3_image 27 = .ok (.imul, 1) := by decide +kernel
theorem dX3_image_28 : decode cX3_image 28 = .ok (.iload_n 2, 1) := by decide +kernel
theorem dX3_image_29 : decode cX3_image 29 = .ok (.iadd, 1) := by decide +kernel
theorem dX3_image_30 : decode cX3_image 30 = .ok (.aload_n 0, 1) := by decide +kernel
theorem dX3_image_31 : decode cX3_image 31 = .ok (.getfield 7, 3) := by decide +kernel
theorem dX3_image_34 : decode cX3_image 34 = .ok (.iload_n 2, 1) := by decide +kernel
theorem dX3_image_35 : decode cX3_image 35 = .ok (.iaload, 1) := by decide +kernel
theorem dX3_image_36 : decode cX3_image 36 = .ok (.iastore, 1) := by decide +kernel
theorem dX3_image_37 : decode cX3_image 37 = .ok (.iinc 2 1, 3) := by decide +kernel
theorem dX3_image_40 : decode cX3_image 40 = .ok (.goto (-26), 3) := by decide +kernel
theorem dX3_image_43 : decode cX3_image 43 = .ok (.aload_n 0, 1) := by decide +kernel
theorem dX3_image_44 : decode cX3_image 44 = .ok (.getfield 16, 3) := by decide +kernel
theorem dX3_image_47 : decode cX3_image 47 = .ok (.iload_n 1, 1) := by decide +kernel
theorem dX3_image_48 : decode cX3_image 48 = .ok (.iconst 1, 1) := by decide +kernel
theorem dX3_image_49 : decode cX3_image 49 = .ok (.bastore, 1) := by decide +kernel
theorem dX3_image_50 : decode cX3_image 50 = .ok (.iconst 1, 1) := by decide +kernel
theorem dX3_image_51 : decode cX3_image 51 = .ok (.ireturn, 1) := by decide +kernel
set_option maxRecDepth 20000 in
theorem ggX3_restore_X3_in : GoodIn wsX3_restore wsX3_in := goodIn_r _ [7] (by decide +kernel) (by decide +kernel)
set_option maxRecDepth 20000 in
theorem gX3_restore_X3_in : GoodIn wsX3_restore (va_wsS RX3 33 yX3_in wsX3_in) := goodIn_app (goodIn_of _ (by decide +kernel)) ggX3_restore_X3_in
theorem dX3_restore_0 : decode cX3_restore 0 = .ok (.iload_n 1, 1) := by decide +kernel
theorem dX3_restore_1 : decode cX3_restore 1 = .ok (.iconst 0, 1) := by decide +kernel
theorem dX3_restore_2 : decode cX3_restore 2 = .ok (.iconst 1, 1) := by decide +kernel
theorem dX3_restore_3 : decode cX3_restore 3 = .ok (.invokestatic 33, 3) := by decide +kernel
theorem dX3_restore_6 : decode cX3_restore 6 = .ok (.ifCond .ne 6, 3) := by decide +kernel
theorem dX3_restore_9 : decode cX3_restore 9 = .ok (.bipush (-2), 2) := by decide +kernel
theorem dX3_restore_11 : decode cX3_restore 11 = .ok (.ireturn, 1) := by decide +kernel
theorem dX3_restore_12 : decode cX3_restore 12 = .ok (.aload_n 0, 1) := by decide +kernel
theorem dX3_restore_13 : decode cX3_restore 13 = .ok (.getfield 16, 3) := by decide +kernel
theorem dX3_restore_16 : decode cX3_restore 16 = .ok (.iload_n 1, 1) := by decide +kernel
theorem dX3_restore_17 : decode cX3_restore 17 = .ok (.baload, 1) := by decide +kernel
theorem dX3_restore_18 : decode cX3_restore 18 = .ok (.ifCond .ne 6, 3) := by decide +kernel
theorem dX3_restore_21 : decode cX3_restore 21 = .ok (.bipush (-3), 2) := by decide +kernel
theorem dX3_restore_23 : decode cX3_restore 23 = .ok (.ireturn, 1) := by decide +kernel
theorem dX3_restore_24 : decode cX3_restore 24 = .ok (.iconst 0, 1) := by decide +kernel
theorem dX3_restore_25 : decode cX3_restore 25 = .ok (.istore_n 2, 1) := by decide +kernel
theorem dX3_restore_26 : decode cX3_restore 26 = .ok (.iload_n 2, 1) := by decide +kernel
theorem dX3_restore_27 : decode cX3_restore 27 = .ok (.bipush 24, 2) := by decide +kernel
theorem dX3_restore_29 : decode cX3_restore 29 = .ok (.if_icmp .ge 26, 3) := by decide +kernel
theorem dX3_restore_32 : decode cX3_restore 32 = .ok (.aload_n 0, 1) := by decide +kernel
theorem dX3_restore_33 : decode cX3_restore 33 = .ok (.getfield 7, 3) := by decide +kernel
theorem dX3_restore_36 : decode cX3_restore 36 = .ok (.iload_n 2, 1) := by decide +kernel
theorem dX3_restore_37 : decode cX3_restore 37 = .ok (.aload_n 0, 1) := by decide +kernel
theorem dX3_restore_38 : decode cX3_restore 38 = .ok (.getfield 13, 3) := by decide +kernel
theorem dX3_restore_41 : decode cX3_restore 41 = .ok (.bipush 24, 2) := by decide +kernel
theorem dX3_restore_43 : decode cX3_restore 43 = .ok (.iload_n 1, 1) := by decide +kernel
theorem dX3_restore_44 : decode cX3_restore 44 = .ok (.imul, 1) := by decide +kernel
theorem dX3_restore_45 : decode cX3_restore 45 = .ok (.iload_n 2, 1) := by decide +kernel
theorem dX3_restore_46 : decode cX3_restore 46 = .ok (.iadd, 1) := by decide +kernel
theorem dX3_restore_47 : decode cX3_restore 47 = .ok (.iaload, 1) := by decide +kernel
theorem dX3_restore_48 : decode cX3_restore 48 = .ok (.iastore, 1) := by decide +kernel
theorem dX3_restore_49 : decode cX3_restore 49 = .ok (.iinc 2 1, 3) := by decide +kernel
theorem dX3_restore_52 : decode cX3_restore 52 = .ok (.goto (-26), 3) := by decide +kernel
theorem dX3_restore_55 : decode cX3_restore 55 = .ok (.iconst 1, 1) := by decide +kernel
theorem dX3_restore_56 : decode cX3_restore 56 = .ok (.ireturn, 1) := by decide +kernel
set_option maxRecDepth 20000 in
theorem ggX3_count_X3_in : GoodIn wsX3_count wsX3_in := goodIn_r _ [6] (by decide +kernel) (by decide +kernel)
set_option maxRecDepth 20000 in
theorem gX3_count_X3_in : GoodIn wsX3_count (va_wsS RX3 33 yX3_in wsX3_in) := goodIn_app (goodIn_of _ (by decide +kernel)) ggX3_count_X3_in
set_option maxRecDepth 20000 in
theorem ggX3_count_X3_free : GoodIn wsX3_count wsX3_free := goodIn_r _ [10, 1, 11, 12, 13, 5, 14, 18, 19, 20, 21, 22, 23, 24] (by decide +kernel) (by decide +kernel)
set_option maxRecDepth 20000 in
theorem gX3_count_X3_free : GoodIn wsX3_count (wsV RX3 69 RX3 yX3_free wsX3_free) := goodIn_app (goodIn_of _ (by decide +kernel)) ggX3_count_X3_free
set_option maxRecDepth 20000 in
theorem ggX3_count_X3_size : GoodIn wsX3_count wsX3_size := goodIn_r _ [17] (by decide +kernel) (by decide +kernel)
set_option maxRecDepth 20000 in
theorem gX3_count_X3_size : GoodIn wsX3_count (va_wsS RX3 72 yX3_size wsX3_size) := goodIn_app (goodIn_of _ (by decide +kernel)) ggX3_count_X3_size
theorem dX3_count_0 : decode cX3_count 0 = .ok (.iload_n 1, 1) := by decide +kernel
theorem dX3_count_1 : decode cX3_count 1 = .ok (.bipush 10, 2) := by decide +kernel
theorem dX3_count_3 : decode cX3_count 3 = .ok (.bipush 12, 2) := by decide +kernel
theorem dX3_count_5 : decode cX3_count 5 = .ok (.invokestatic 33, 3) := by decide +kernel
theorem dX3_count_8 : decode cX3_count 8 = .ok (.ifCond .eq 15, 3) := by decide +kernel
theorem dX3_count_11 : decode cX3_count 11 = .ok (.aload_n 0, 1) := by decide +kernel
theorem dX3_count_12 : decode cX3_count 12 = .ok (.getfield 7, 3) := by decide +kernel
theorem dX3_count_15 : decode cX3_count 15 = .ok (.iconst 5, 1) := by decide +kernel
theorem dX3_count_16 : decode cX3_count 16 = .ok (.iload_n 1, 1) := by decide +kernel
theorem dX3_count_17 : decode cX3_count 17 = .ok (.iadd, 1) := by decide +kernel
theorem dX3_count_18 : decode cX3_count 18 = .ok (.bipush 10, 2) := by decide +kernel
theorem dX3_count_20 : decode cX3_count 20 = .ok (.isub, 1) := by decide +kernel
theorem dX3_count_21 : decode cX3_count 21 = .ok (.iaload, 1) := by decide +kernel
theorem dX3_count_22 : decode cX3_count 22 = .ok (.ireturn, 1) := by decide +kernel
theorem dX3_count_23 : decode cX3_count 23 = .ok (.iload_n 1, 1) := by decide +kernel
theorem dX3_count_24 : decode cX3_count 24 = .ok (.tableswitch 98 0 6 #[44, 44, 44, 44, 53, 61, 68], 44) := by decide +kernel
theorem dX3_count_68 : decode cX3_count 68 = .ok (.aload_n 0, 1) := by decide +kernel
theorem dX3_count_69 : decode cX3_count 69 = .ok (.getfield 7, 3) := by decide +kernel
theorem dX3_count_72 : decode cX3_count 72 = .ok (.iconst 0, 1) := by decide +kernel
theorem dX3_count_73 : decode cX3_count 73 = .ok (.iload_n 1, 1) := by decide +kernel
theorem dX3_count_74 : decode cX3_count 74 = .ok (.iadd, 1) := by decide +kernel
theorem dX3_count_75 : decode cX3_count 75 = .ok (.iaload, 1) := by decide +kernel
theorem dX3_count_76 : decode cX3_count 76 = .ok (.ireturn, 1) := by decide +kernel
theorem dX3_count_77 : decode cX3_count 77 = .ok (.aload_n 0, 1) := by decide +kernel
theorem dX3_count_78 : decode cX3_count 78 = .ok (.invokevirtual 69, 3) := by decide +kernel
theorem dX3_count_81 : decode cX3_count 81 = .ok (.invokestatic 72, 3) := by decide +kernel
theorem dX3_count_84 : decode cX3_count 84 = .ok (.ireturn, 1) := by decide +kernel
theorem dX3_count_85 : decode cX3_count 85 = .ok (.aload_n 0, 1) := by decide +kernel
theorem dX3_count_86 : decode cX3_count 86 = .ok (.getfield 7, 3) := by decide +kernel
theorem dX3_count_89 : decode cX3_count 89 = .ok (.iconst 4, 1) := by decide +kernel
theorem dX3_count_90 : decode cX3_count 90 = .ok (.iaload, 1) := by decide +kernel
theorem dX3_count_91 : decode cX3_count 91 = .ok (.ireturn, 1) := by decide +kernel
theorem dX3_count_92 : decode cX3_count 92 = .ok (.aload_n 0, 1) := by decide +kernel
theorem dX3_count_93 : decode cX3_count 93 = .ok (.getfield 16, 3) := by decide +kernel
theorem dX3_count_96 : decode cX3_count 96 = .ok (.iconst 0, 1) := by decide +kernel
theorem dX3_count_97 : decode cX3_count 97 = .ok (.baload, 1) := by decide +kernel
theorem dX3_count_98 : decode cX3_count 98 = .ok (.ifCond .eq 7, 3) := by decide +kernel
theorem dX3_count_101 : decode cX3_count 101 = .ok (.iconst 1, 1) := by decide +kernel
theorem dX3_count_102 : decode cX3_count 102 = .ok (.goto 4, 3) := by decide +kernel
theorem dX3_count_105 : decode cX3_count 105 = .ok (.iconst 0, 1) := by decide +kernel
theorem dX3_count_106 : decode cX3_count 106 = .ok (.aload_n 0, 1) := by decide +kernel
theorem dX3_count_107 : decode cX3_count 107 = .ok (.getfield 16, 3) := by decide +kernel
theorem dX3_count_110 : decode cX3_count 110 = .ok (.iconst 1, 1) := by decide +kernel
theorem dX3_count_111 : decode cX3_count 111 = .ok (.baload, 1) := by decide +kernel
theorem dX3_count_112 : decode cX3_count 112 = .ok (.ifCond .eq 7, 3) := by decide +kernel
theorem dX3_count_115 : decode cX3_count 115 = .ok (.iconst 2, 1) := by decide +kernel
theorem dX3_count_116 : decode cX3_count 116 = .ok (.goto 4, 3) := by decide +kernel
theorem dX3_count_119 : decode cX3_count 119 = .ok (.iconst 0, 1) := by decide +kernel
theorem dX3_count_120 : decode cX3_count 120 = .ok (.iadd, 1) := by decide +kernel
theorem dX3_count_121 : decode cX3_count 121 = .ok (.ireturn, 1) := by decide +kernel
theorem dX3_count_122 : decode cX3_count 122 = .ok (.bipush (-2), 2) := by decide +kernel
theorem dX3_count_124 : decode cX3_count 124 = .ok (.ireturn, 1) := by decide +kernel
theorem dJ6_bitCount_0f7a4_0 : decode cJ6_bitCount_0f7a4 0 = .ok (.iload_n 0, 1) := by decide +kernel
theorem dJ6_bitCount_0f7a4_1 : decode cJ6_bitCount_0f7a4 1 = .ok (.iload_n 0, 1) := by decide +kernel
theorem dJ6_bitCount_0f7a4_2 : decode cJ6_bitCount_0f7a4 2 = .ok (.iconst 1, 1) := by decide +kernel
theorem dJ6_bitCount_0f7a4_3 : decode cJ6_bitCount_0f7a4 3 = .ok (.iushr, 1) := by decide +kernel
theorem dJ6_bitCount_0f7a4_4 : decode cJ6_bitCount_0f7a4 4 = .ok (.ldc_w 265, 3) := by decide +kernel
theorem dJ6_bitCount_0f7a4_7 : decode cJ6_bitCount_0f7a4 7 = .ok (.iand, 1) := by decide +kernel
theorem dJ6_bitCount_0f7a4_8 : decode cJ6_bitCount_0f7a4 8 = .ok (.isub, 1) := by decide +kernel
theorem dJ6_bitCount_0f7a4_9 : decode cJ6_bitCount_0f7a4 9 = .ok (.istore_n 0, 1) := by decide +kernel
theorem dJ6_bitCount_0f7a4_10 : decode cJ6_bitCount_0f7a4 10 = .ok (.iload_n 0, 1) := by decide +kernel
theorem dJ6_bitCount_0f7a4_11 : decode cJ6_bitCount_0f7a4 11 = .ok (.ldc_w 266, 3) := by decide +kernel
theorem dJ6_bitCount_0f7a4_14 : decode cJ6_bitCount_0f7a4 14 = .ok (.iand, 1) := by decide +kernel
theorem dJ6_bitCount_0f7a4_15 : decode cJ6_bitCount_0f7a4 15 = .ok (.iload_n 0, 1) := by decide +kernel
theorem dJ6_bitCount_0f7a4_16 : decode cJ6_bitCount_0f7a4 16 = .ok (.iconst 2, 1) := by decide +kernel
theorem dJ6_bitCount_0f7a4_17 : decode cJ6_bitCount_0f7a4 17 = .ok (.iushr, 1) := by decide +kernel
theorem dJ6_bitCount_0f7a4_18 : decode cJ6_bitCount_0f7a4 18 = .ok (.ldc_w 266, 3) := by decide +kernel
theorem dJ6_bitCount_0f7a4_21 : decode cJ6_bitCount_0f7a4 21 = .ok (.iand, 1) := by decide +kernel
theorem dJ6_bitCount_0f7a4_22 : decode cJ6_bitCount_0f7a4 22 = .ok (.iadd, 1) := by decide +kernel
theorem dJ6_bitCount_0f7a4_23 : decode cJ6_bitCount_0f7a4 23 = .ok (.istore_n 0, 1) := by decide +kernel
theorem dJ6_bitCount_0f7a4_24 : decode cJ6_bitCount_0f7a4 24 = .ok (.iload_n 0, 1) := by decide +kernel
theorem dJ6_bitCount_0f7a4_25 : decode cJ6_bitCount_0f7a4 25 = .ok (.iload_n 0, 1) := by decide +kernel
theorem dJ6_bitCount_0f7a4_26 : decode cJ6_bitCount_0f7a4 26 = .ok (.iconst 4, 1) := by decide +kernel
theorem dJ6_bitCount_0f7a4_27 : decode cJ6_bitCount_0f7a4 27 = .ok (.iushr, 1) := by decide +kernel
theorem dJ6_bitCount_0f7a4_28 : decode cJ6_bitCount_0f7a4 28 = .ok (.iadd, 1) := by decide +kernel
theorem dJ6_bitCount_0f7a4_29 : decode cJ6_bitCount_0f7a4 29 = .ok (.ldc_w 267, 3) := by decide +kernel
theorem dJ6_bitCount_0f7a4_32 : decode cJ6_bitCount_0f7a4 32 = .ok (.iand, 1) := by decide +kernel
theorem dJ6_bitCount_0f7a4_33 : decode cJ6_bitCount_0f7a4 33 = .ok (.istore_n 0, 1) := by decide +kernel
theorem dJ6_bitCount_0f7a4_34 : decode cJ6_bitCount_0f7a4 34 = .ok (.iload_n 0, 1) := by decide +kernel
theorem dJ6_bitCount_0f7a4_35 : decode cJ6_bitCount_0f7a4 35 = .ok (.iload_n 0, 1) := by decide +kernel
theorem dJ6_bitCount_0f7a4_36 : decode cJ6_bitCount_0f7a4 36 = .ok (.bipush 8, 2) := by decide +kernel
theorem dJ6_bitCount_0f7a4_38 : decode cJ6_bitCount_0f7a4 38 = .ok (.iushr, 1) := by decide +kernel
theorem dJ6_bitCount_0f7a4_39 : decode cJ6_bitCount_0f7a4 39 = .ok (.iadd, 1) := by decide +kernel
theorem dJ6_bitCount_0f7a4_40 : decode cJ6_bitCount_0f7a4 40 = .ok (.istore_n 0, 1) := by decide +kernel
theorem dJ6_bitCount_0f7a4_41 : decode cJ6_bitCount_0f7a4 41 = .ok (.iload_n 0, 1) := by decide +kernel
theorem dJ6_bitCount_0f7a4_42 : decode cJ6_bitCount_0f7a4 42 = .ok (.iload_n 0, 1) := by decide +kernel
theorem dJ6_bitCount_0f7a4_43 : decode cJ6_bitCount_0f7a4 43 = .ok (.bipush 16, 2) := by decide +kernel
theorem dJ6_bitCount_0f7a4_45 : decode cJ6_bitCount_0f7a4 45 = .ok (.iushr, 1) := by decide +kernel
theorem dJ6_bitCount_0f7a4_46 : decode cJ6_bitCount_0f7a4 46 = .ok (.iadd, 1) := by decide +kernel
theorem dJ6_bitCount_0f7a4_47 : decode cJ6_bitCount_0f7a4 47 = .ok (.istore_n 0, 1) := by decide +kernel
theorem dJ6_bitCount_0f7a4_48 : decode cJ6_bitCount_0f7a4 48 = .ok (.iload_n 0, 1) := by decide +kernel
theorem dJ6_bitCount_0f7a4_49 : decode cJ6_bitCount_0f7a4 49 = .ok (.bipush 63, 2) := by decide +kernel
theorem dJ6_bitCount_0f7a4_51 : decode cJ6_bitCount_0f7a4 51 = .ok (.iand, 1) := by decide +kernel
theorem dJ6_bitCount_0f7a4_52 : decode cJ6_bitCount_0f7a4 52 = .ok (.ireturn, 1) := by decide +kernel
theorem dJ9_abs_0f7a4_0 : decode cJ9_abs_0f7a4 0 = .ok (.iload_n 0, 1) := by decide +kernel
theorem dJ9_abs_0f7a4_1 : decode cJ9_abs_0f7a4 1 = .ok (.ifCond .ge 8, 3) := by decide +kernel
theorem dJ9_abs_0f7a4_4 : decode cJ9_abs_0f7a4 4 = .ok (.iload_n 0, 1) := by decide +kernel
theorem dJ9_abs_0f7a4_5 : decode cJ9_abs_0f7a4 5 = .ok (.ineg, 1) := by decide +kernel
theorem dJ9_abs_0f7a4_6 : decode cJ9_abs_0f7a4 6 = .ok (.goto 4, 3) := by decide +kernel
theorem dJ9_abs_0f7a4_9 : decode cJ9_abs_0f7a4 9 = .ok (.iload_n 0, 1) := by decide +kernel
theorem dJ9_abs_0f7a4_10 : decode cJ9_abs_0f7a4 10 = .ok (.ireturn, 1) := by decide +kernel
theorem dJ9_max_7cf53_0 : decode cJ9_max_7cf53 0 = .ok (.iload_n 0, 1) := by decide +kernel
theorem dJ9_max_7cf53_1 : decode cJ9_max_7cf53 1 = .ok (.iload_n 1, 1) := by decide +kernel
theorem dJ9_max_7cf53_2 : decode cJ9_max_7cf53 2 = .ok (.if_icmp .lt 7, 3) := by decide +kernel
theorem dJ9_max_7cf53_5 : decode cJ9_max_7cf53 5 = .ok (.iload_n 0, 1) := by decide +kernel
theorem dJ9_max_7cf53_6 : decode cJ9_max_7cf53 6 = .ok (.goto 4, 3) := by decide +kernel
theorem dJ9_max_7cf53_9 : decode cJ9_max_7cf53 9 = .ok (.iload_n 1, 1) := by decide +kernel
theorem dJ9_max_7cf53_10 : decode cJ9_max_7cf53 10 = .ok (.ireturn, 1) := by decide +kernel
theorem dJ9_min_7cf53_0 : decode cJ9_min_7cf53 0 = .ok (.iload_n 0, 1) := by decide +kernel
theorem dJ9_min_7cf53_1 : decode cJ9_min_7cf53 1 = .ok (.iload_n 1, 1) := by decide +kernel
theorem dJ9_min_7cf53_2 : decode cJ9_min_7cf53 2 = .ok (.if_icmp .gt 7, 3) := by decide +kernel
theorem dJ9_min_7cf53_5 : decode cJ9_min_7cf53 5 = .ok (.iload_n 0, 1) := by decide +kernel
theorem dJ9_min_7cf53_6 : decode cJ9_min_7cf53 6 = .ok (.goto 4, 3) := by decide +kernel
theorem dJ9_min_7cf53_9 : decode cJ9_min_7cf53 9 = .ok (.iload_n 1, 1) := by decide +kernel
theorem dJ9_min_7cf53_10 : decode cJ9_min_7cf53 10 = .ok (.ireturn, 1) := by decide +kernel
set_option maxRecDepth 20000 in
theorem ggL_law_X2_init : GoodIn wsL_law wsX2_init := goodIn_r _ [8, 9, 10, 11, 12, 13, 14, 15, 16, 17, 18, 19, 20, 21, 22, 23, 24, 25, 26, 27, 28, 29, 30, 31, 32, 33, 34, 35, 36, 37, 38, 39, 40, 41, 540, 541, 542, 543, 544, 545, 546, 526, 527, 528, 529, 530, 531, 532, 547, 548, 549] (by decide +kernel) (by decide +kernel)
set_option maxRecDepth 20000 in
theorem gL_law_X2_init : GoodIn wsL_law (wsX2_init) := ggL_law_X2_init
set_option maxRecDepth 20000 in
theorem ggL_law_X3_init : GoodIn wsL_law wsX3_init := goodIn_r _ [44, 45, 10, 11, 19, 46, 47, 48, 49, 50, 51, 52, 533, 534, 535, 536, 537, 538, 539] (by decide +kernel) (by decide +kernel)
set_option maxRecDepth 20000 in
theorem gL_law_X3_init : GoodIn wsL_law (wsX3_init) := ggL_law_X3_init
set_option maxRecDepth 20000 in
theorem ggL_law_X2_deep : GoodIn wsL_law wsX2_deep := goodIn_r _ [56, 15, 57, 58, 59, 14, 60, 29, 32, 34, 35, 526, 527, 528, 529, 530, 531, 532, 540, 541, 542, 543, 544, 545, 546] (by decide +kernel) (by decide +kernel)
set_option maxRecDepth 20000 in
theorem gL_law_X2_deep : GoodIn wsL_law (wsV RL 13 RX2 yX2_deep wsX2_deep) := goodIn_app (goodIn_of _ (by decide +kernel)) ggL_law_X2_deep
set_option maxRecDepth 20000 in
theorem ggL_law_X3_deep : GoodIn wsL_law wsX3_deep := goodIn_r _ [64, 46, 65, 66, 5, 67, 533, 534, 535, 536, 537, 538, 539] (by decide +kernel) (by decide +kernel)
set_option maxRecDepth 20000 in
theorem gL_law_X3_deep : GoodIn wsL_law (wsV RL 17 RX3 yX3_deep wsX3_deep) := goodIn_app (goodIn_of _ (by decide +kernel)) ggL_law_X3_deep
set_option maxRecDepth 20000 in
theorem ggL_law_X2_loss : GoodIn wsL_law wsX2_loss := goodIn_r _ [71, 15, 526, 527, 528, 529, 530, 531, 532, 540, 541, 542, 543, 544, 545, 546] (by decide +kernel) (by decide +kernel)
set_option maxRecDepth 20000 in
theorem gL_law_X2_loss : GoodIn wsL_law (wsV RL 18 RX2 yX2_loss wsX2_loss) := goodIn_app (goodIn_of _ (by decide +kernel)) ggL_law_X2_loss
set_option maxRecDepth 20000 in
theorem ggL_law_X3_loss : GoodIn wsL_law wsX3_loss := goodIn_r _ [75, 46, 65, 66, 5, 67, 533, 534, 535, 536, 537, 538, 539] (by decide +kernel) (by decide +kernel)
set_option maxRecDepth 20000 in
theorem gL_law_X3_loss : GoodIn wsL_law (wsV RL 22 RX3 yX3_loss wsX3_loss) := goodIn_app (goodIn_of _ (by decide +kernel)) ggL_law_X3_loss
set_option maxRecDepth 20000 in
theorem ggL_law_X2_split : GoodIn wsL_law wsX2_split := goodIn_r _ [79, 80, 81, 82, 83, 84, 2, 85, 86, 87, 88, 89, 15, 90, 91, 92, 93, 94, 95, 96, 97, 98, 99, 100, 101, 526, 527, 528, 529, 530, 531, 532, 540, 541, 542, 543, 544, 545, 546] (by decide +kernel) (by decide +kernel)
set_option maxRecDepth 20000 in
theorem gL_law_X2_split : GoodIn wsL_law (wsV RL 23 RX2 yX2_split wsX2_split) := goodIn_app (goodIn_of _ (by decide +kernel)) ggL_law_X2_split
set_option maxRecDepth 20000 in
theorem ggL_law_X3_split : GoodIn wsL_law wsX3_split := goodIn_r _ [105, 106, 107, 108, 109, 110, 5, 111, 112, 113, 114, 115, 46, 65, 66, 67, 116, 117, 118, 119, 120, 121, 122, 123, 124, 125, 126, 127, 533, 534, 535, 536, 537, 538, 539] (by decide +kernel) (by decide +kernel)
set_option maxRecDepth 20000 in
theorem gL_law_X3_split : GoodIn wsL_law (wsV RL 27 RX3 yX3_split wsX3_split) := goodIn_app (goodIn_of _ (by decide +kernel)) ggL_law_X3_split
set_option maxRecDepth 20000 in
theorem ggL_law_X2_rank : GoodIn wsL_law wsX2_rank := goodIn_r _ [131, 82, 83, 84, 2, 85, 86, 87, 88, 89, 15, 132, 133, 134, 135, 136, 137, 138, 139, 90, 91, 92, 93, 94, 526, 527, 528, 529, 530, 531, 532, 540, 541, 542, 543, 544, 545, 546] (by decide +kernel) (by decide +kernel)
set_option maxRecDepth 20000 in
theorem gL_law_X2_rank : GoodIn wsL_law (wsV RL 28 RX2 yX2_rank wsX2_rank) := goodIn_app (goodIn_of _ (by decide +kernel)) ggL_law_X2_rank
set_option maxRecDepth 20000 in
theorem ggL_law_X3_rank : GoodIn wsL_law wsX3_rank := goodIn_r _ [143, 108, 109, 110, 5, 111, 112, 113, 114, 115, 46, 65, 66, 67, 144, 145, 146, 147, 148, 149, 150, 151, 116, 117, 118, 119, 120, 533, 534, 535, 536, 537, 538, 539] (by decide +kernel) (by decide +kernel)
set_option maxRecDepth 20000 in
theorem gL_law_X3_rank : GoodIn wsL_law (wsV RL 31 RX3 yX3_rank wsX3_rank) := goodIn_app (goodIn_of _ (by decide +kernel)) ggL_law_X3_rank
set_option maxRecDepth 20000 in
theorem ggL_law_X2_freeze : GoodIn wsL_law wsX2_freeze := goodIn_r _ [155, 15, 156, 157, 158, 2, 159, 86, 87, 88, 89, 160, 161, 162, 163, 164, 165, 166, 167, 168, 169, 170, 526, 527, 528, 529, 530, 531, 532, 540, 541, 542, 543, 544, 545, 546] (by decide +kernel) (by decide +kernel)
set_option maxRecDepth 20000 in
theorem gL_law_X2_freeze : GoodIn wsL_law (wsV RL 32 RX2 yX2_freeze wsX2_freeze) := goodIn_app (goodIn_of _ (by decide +kernel)) ggL_law_X2_freeze
set_option maxRecDepth 20000 in
theorem ggL_law_X3_freeze : GoodIn wsL_law wsX3_freeze := goodIn_r _ [174, 46, 175, 176, 177, 5, 178, 112, 113, 114, 115, 65, 66, 67, 179, 180, 181, 182, 183, 184, 185, 533, 534, 535, 536, 537, 538, 539] (by decide +kernel) (by decide +kernel)
set_option maxRecDepth 20000 in
theorem gL_law_X3_freeze : GoodIn wsL_law (wsV RL 35 RX3 yX3_freeze wsX3_freeze) := goodIn_app (goodIn_of _ (by decide +kernel)) ggL_law_X3_freeze
set_option maxRecDepth 20000 in
theorem ggL_law_X2_best : GoodIn wsL_law wsX2_best := goodIn_r _ [189, 15, 86, 87, 88, 2, 89, 136, 137, 138, 139, 90, 91, 92, 93, 94, 526, 527, 528, 529, 530, 531, 532, 540, 541, 542, 543, 544, 545, 546] (by decide +kernel) (by decide +kernel)
set_option maxRecDepth 20000 in
theorem gL_law_X2_best : GoodIn wsL_law (wsV RL 36 RX2 yX2_best wsX2_best) := goodIn_app (goodIn_of _ (by decide +kernel)) ggL_law_X2_best
set_option maxRecDepth 20000 in
theorem ggL_law_X3_best : GoodIn wsL_law wsX3_best := goodIn_r _ [193, 46, 112, 113, 114, 5, 115, 65, 66, 67, 144, 145, 146, 147, 148, 149, 150, 151, 116, 117, 118, 119, 120, 533, 534, 535, 536, 537, 538, 539] (by decide +kernel) (by decide +kernel)
set_option maxRecDepth 20000 in
theorem gL_law_X3_best : GoodIn wsL_law (wsV RL 39 RX3 yX3_best wsX3_best) := goodIn_app (goodIn_of _ (by decide +kernel)) ggL_law_X3_best
set_option maxRecDepth 20000 in
theorem ggL_law_X2_coded : GoodIn wsL_law wsX2_coded := goodIn_r _ [197, 156, 157, 158, 2, 159, 86, 87, 88, 89, 15, 198, 199, 200, 201, 526, 527, 528, 529, 530, 531, 532, 540, 541, 542, 543, 544, 545, 546] (by decide +kernel) (by decide +kernel)
set_option maxRecDepth 20000 in
theorem gL_law_X2_coded : GoodIn wsL_law (wsV RL 40 RX2 yX2_coded wsX2_coded) := goodIn_app (goodIn_of _ (by decide +kernel)) ggL_law_X2_coded
set_option maxRecDepth 20000 in
theorem ggL_law_X3_coded : GoodIn wsL_law wsX3_coded := goodIn_r _ [205, 175, 176, 177, 5, 178, 112, 113, 114, 115, 46, 65, 66, 67, 206, 207, 208, 209, 210, 211, 212, 533, 534, 535, 536, 537, 538, 539] (by decide +kernel) (by decide +kernel)
set_option maxRecDepth 20000 in
theorem gL_law_X3_coded : GoodIn wsL_law (wsV RL 43 RX3 yX3_coded wsX3_coded) := goodIn_app (goodIn_of _ (by decide +kernel)) ggL_law_X3_coded
set_option maxRecDepth 20000 in
theorem ggL_law_X2_word : GoodIn wsL_law wsX2_word := goodIn_r _ [216, 160, 161, 162, 2, 163, 15, 86, 87, 88, 89, 164, 165, 166, 167, 168, 169, 170, 217, 218, 219, 220, 221, 222, 223, 526, 527, 528, 529, 530, 531, 532, 540, 541, 542, 543, 544, 545, 546] (by decide +kernel) (by decide +kernel)
set_option maxRecDepth 20000 in
theorem gL_law_X2_word : GoodIn wsL_law (wsV RL 44 RX2 yX2_word wsX2_word) := goodIn_app (goodIn_of _ (by decide +kernel)) ggL_law_X2_word
set_option maxRecDepth 20000 in
theorem ggL_law_X3_word : GoodIn wsL_law wsX3_word := goodIn_r _ [227, 179, 180, 181, 5, 182, 46, 112, 113, 114, 115, 183, 184, 185, 65, 66, 67, 228, 229, 230, 231, 533, 534, 535, 536, 537, 538, 539] (by decide +kernel) (by decide +kernel)
set_option maxRecDepth 20000 in
theorem gL_law_X3_word : GoodIn wsL_law (wsV RL 47 RX3 yX3_word wsX3_word) := goodIn_app (goodIn_of _ (by decide +kernel)) ggL_law_X3_word
set_option maxRecDepth 20000 in
theorem ggL_law_X2_light : GoodIn wsL_law wsX2_light := goodIn_r _ [235, 160, 161, 162, 2, 163, 15, 86, 87, 88, 89, 164, 165, 166, 167, 168, 169, 170, 236, 237, 238, 239, 240, 241, 242, 243, 217, 218, 219, 220, 221, 222, 223, 198, 199, 200, 201, 244, 245, 246, 247, 248, 249, 250, 251, 252, 253, 254, 255, 256, 257, 258, 259, 260, 261, 526, 527, 528, 529, 530, 531, 532, 540, 541, 542, 543, 544, 545, 546] (by decide +kernel) (by decide +kernel)
set_option maxRecDepth 20000 in
theorem gL_law_X2_light : GoodIn wsL_law (wsV RL 48 RX2 yX2_light wsX2_light) := goodIn_app (goodIn_of _ (by decide +kernel)) ggL_law_X2_light
set_option maxRecDepth 20000 in
theorem ggL_law_X3_light : GoodIn wsL_law wsX3_light := goodIn_r _ [265, 65, 66, 5, 67, 179, 180, 181, 182, 46, 112, 113, 114, 115, 183, 184, 185, 228, 229, 230, 231, 206, 207, 208, 209, 210, 211, 212, 533, 534, 535, 536, 537, 538, 539] (by decide +kernel) (by decide +kernel)
set_option maxRecDepth 20000 in
theorem gL_law_X3_light : GoodIn wsL_law (wsV RL 51 RX3 yX3_light wsX3_light) := goodIn_app (goodIn_of _ (by decide +kernel)) ggL_law_X3_light
set_option maxRecDepth 20000 in
theorem ggL_law_X2_put : GoodIn wsL_law wsX2_put := goodIn_r _ [269, 270, 271, 15, 82, 83, 84, 2, 85, 86, 87, 88, 89, 526, 527, 528, 529, 530, 531, 532, 540, 541, 542, 543, 544, 545, 546] (by decide +kernel) (by decide +kernel)
set_option maxRecDepth 20000 in
theorem gL_law_X2_put : GoodIn wsL_law (wsV RL 52 RX2 yX2_put wsX2_put) := goodIn_app (goodIn_of _ (by decide +kernel)) ggL_law_X2_put
set_option maxRecDepth 20000 in
theorem ggL_law_X3_put : GoodIn wsL_law wsX3_put := goodIn_r _ [275, 276, 277, 46, 108, 109, 110, 5, 111, 112, 113, 114, 115, 65, 66, 67, 533, 534, 535, 536, 537, 538, 539] (by decide +kernel) (by decide +kernel)
set_option maxRecDepth 20000 in
theorem gL_law_X3_put : GoodIn wsL_law (wsV RL 55 RX3 yX3_put wsX3_put) := goodIn_app (goodIn_of _ (by decide +kernel)) ggL_law_X3_put
set_option maxRecDepth 20000 in
theorem ggL_law_X2_hear : GoodIn wsL_law wsX2_hear := goodIn_r _ [281, 15, 156, 157, 158, 2, 159, 86, 87, 88, 89, 198, 199, 200, 201, 221, 222, 223, 526, 527, 528, 529, 530, 531, 532, 540, 541, 542, 543, 544, 545, 546] (by decide +kernel) (by decide +kernel)
set_option maxRecDepth 20000 in
theorem gL_law_X2_hear : GoodIn wsL_law (wsV RL 56 RX2 yX2_hear wsX2_hear) := goodIn_app (goodIn_of _ (by decide +kernel)) ggL_law_X2_hear
set_option maxRecDepth 20000 in
theorem ggL_law_X3_hear : GoodIn wsL_law wsX3_hear := goodIn_r _ [285, 46, 175, 176, 177, 5, 178, 112, 113, 114, 115, 65, 66, 67, 206, 207, 208, 209, 210, 211, 212, 533, 534, 535, 536, 537, 538, 539] (by decide +kernel) (by decide +kernel)
set_option maxRecDepth 20000 in
theorem gL_law_X3_hear : GoodIn wsL_law (wsV RL 59 RX3 yX3_hear wsX3_hear) := goodIn_app (goodIn_of _ (by decide +kernel)) ggL_law_X3_hear
set_option maxRecDepth 20000 in
theorem ggL_law_X2_spoil : GoodIn wsL_law wsX2_spoil := goodIn_r _ [289, 15, 156, 157, 158, 2, 159, 86, 87, 88, 89, 221, 222, 223, 526, 527, 528, 529, 530, 531, 532, 540, 541, 542, 543, 544, 545, 546] (by decide +kernel) (by decide +kernel)
set_option maxRecDepth 20000 in
theorem gL_law_X2_spoil : GoodIn wsL_law (wsV RL 60 RX2 yX2_spoil wsX2_spoil) := goodIn_app (goodIn_of _ (by decide +kernel)) ggL_law_X2_spoil
set_option maxRecDepth 20000 in
theorem ggL_law_X3_spoil : GoodIn wsL_law wsX3_spoil := goodIn_r _ [293, 46, 175, 176, 177, 5, 178, 112, 113, 114, 115, 65, 66, 67, 533, 534, 535, 536, 537, 538, 539] (by decide +kernel) (by decide +kernel)
set_option maxRecDepth 20000 in
theorem gL_law_X3_spoil : GoodIn wsL_law (wsV RL 63 RX3 yX3_spoil wsX3_spoil) := goodIn_app (goodIn_of _ (by decide +kernel)) ggL_law_X3_spoil
set_option maxRecDepth 20000 in
theorem ggL_law_X2_measure : GoodIn wsL_law wsX2_measure := goodIn_r _ [297, 270, 271, 15, 82, 83, 84, 2, 85, 86, 87, 88, 89, 298, 299, 300, 301, 217, 218, 219, 220, 221, 222, 223, 302, 303, 304, 305, 20, 306, 307, 308, 309, 310, 311, 312, 313, 314, 315, 316, 317, 318, 242, 319, 240, 241, 243, 198, 199, 200, 201, 320, 321, 322, 323, 526, 527, 528, 529, 530, 531, 532, 540, 541, 542, 543, 544, 545, 546] (by decide +kernel) (by decide +kernel)
set_option maxRecDepth 20000 in
theorem gL_law_X2_measure : GoodIn wsL_law (wsV RL 64 RX2 yX2_measure wsX2_measure) := goodIn_app (goodIn_of _ (by decide +kernel)) ggL_law_X2_measure
set_option maxRecDepth 20000 in
theorem ggL_law_X3_measure : GoodIn wsL_law wsX3_measure := goodIn_r _ [327, 276, 277, 46, 108, 109, 110, 5, 111, 112, 113, 114, 115, 65, 66, 67, 328, 329, 330, 331, 179, 180, 181, 182, 332, 333, 334, 335, 50, 210, 211, 212, 336, 337, 338, 339, 340, 341, 533, 534, 535, 536, 537, 538, 539] (by decide +kernel) (by decide +kernel)
set_option maxRecDepth 20000 in
theorem gL_law_X3_measure : GoodIn wsL_law (wsV RL 67 RX3 yX3_measure wsX3_measure) := goodIn_app (goodIn_of _ (by decide +kernel)) ggL_law_X3_measure
set_option maxRecDepth 20000 in
theorem ggL_law_X2_read : GoodIn wsL_law wsX2_read := goodIn_r _ [345, 15, 298, 299, 300, 2, 301, 86, 87, 88, 89, 217, 218, 219, 220, 221, 222, 223, 302, 303, 304, 305, 20, 306, 307, 308, 309, 310, 311, 312, 313, 314, 315, 316, 317, 318, 242, 319, 240, 241, 243, 198, 199, 200, 201, 320, 321, 322, 323, 346, 347, 348, 349, 350, 351, 352, 259, 260, 261, 353, 354, 355, 356, 357, 358, 359, 14, 360, 35, 361, 165, 166, 167, 168, 169, 170, 526, 527, 528, 529, 530, 531, 532, 540, 541, 542, 543, 544, 545, 546] (by decide +kernel) (by decide +kernel)
set_option maxRecDepth 20000 in
theorem gL_law_X2_read : GoodIn wsL_law (wsV RL 68 RX2 yX2_read wsX2_read) := goodIn_app (goodIn_of _ (by decide +kernel)) ggL_law_X2_read
set_option maxRecDepth 20000 in
theorem ggL_law_X3_read : GoodIn wsL_law wsX3_read := goodIn_r _ [365, 65, 66, 5, 67, 328, 329, 330, 331, 112, 113, 114, 115, 46, 179, 180, 181, 182, 332, 333, 334, 335, 50, 210, 211, 212, 336, 337, 338, 339, 340, 341, 366, 367, 368, 369, 370, 371, 372, 373, 374, 375, 376, 377, 206, 207, 208, 209, 378, 379, 380, 381, 183, 184, 185, 533, 534, 535, 536, 537, 538, 539] (by decide +kernel) (by decide +kernel)
set_option maxRecDepth 20000 in
theorem gL_law_X3_read : GoodIn wsL_law (wsV RL 71 RX3 yX3_read wsX3_read) := goodIn_app (goodIn_of _ (by decide +kernel)) ggL_law_X3_read
set_option maxRecDepth 20000 in
theorem ggL_law_X2_most : GoodIn wsL_law wsX2_most := goodIn_r _ [385, 15, 526, 527, 528, 529, 530, 531, 532, 540, 541, 542, 543, 544, 545, 546] (by decide +kernel) (by decide +kernel)
set_option maxRecDepth 20000 in
theorem gL_law_X2_most : GoodIn wsL_law (wsV RL 72 RX2 yX2_most wsX2_most) := goodIn_app (goodIn_of _ (by decide +kernel)) ggL_law_X2_most
set_option maxRecDepth 20000 in
theorem ggL_law_X3_most : GoodIn wsL_law wsX3_most := goodIn_r _ [389, 46, 65, 66, 5, 67, 533, 534, 535, 536, 537, 538, 539] (by decide +kernel) (by decide +kernel)
set_option maxRecDepth 20000 in
theorem gL_law_X3_most : GoodIn wsL_law (wsV RL 75 RX3 yX3_most wsX3_most) := goodIn_app (goodIn_of _ (by decide +kernel)) ggL_law_X3_most
set_option maxRecDepth 20000 in
theorem ggL_law_X2_kept : GoodIn wsL_law wsX2_kept := goodIn_r _ [393, 24, 15, 394, 395, 396, 2, 397, 25, 398, 399, 400, 23, 401, 41, 402, 403, 404, 405, 39, 40, 406, 407, 408, 409, 86, 87, 88, 89, 410, 411, 412, 413, 302, 303, 304, 305, 20, 306, 307, 308, 309, 310, 311, 312, 313, 314, 315, 316, 317, 318, 242, 319, 240, 241, 243, 198, 199, 200, 201, 320, 321, 322, 323, 221, 222, 223, 350, 351, 352, 259, 260, 261, 217, 218, 219, 220, 414, 415, 416, 417, 418, 419, 420, 421, 422, 423, 357, 358, 359, 14, 360, 35, 361, 165, 166, 167, 168, 169, 170, 526, 527, 528, 529, 530, 531, 532, 547, 548, 549, 540, 541, 542, 543, 544, 545, 546] (by decide +kernel) (by decide +kernel)
set_option maxRecDepth 20000 in
theorem gL_law_X2_kept : GoodIn wsL_law (wsV RL 76 RX2 yX2_kept wsX2_kept) := goodIn_app (goodIn_of _ (by decide +kernel)) ggL_law_X2_kept
set_option maxRecDepth 20000 in
theorem ggL_law_X3_kept : GoodIn wsL_law wsX3_kept := goodIn_r _ [427, 428, 51, 52, 65, 66, 5, 67, 429, 430, 431, 432, 46, 112, 113, 114, 115, 179, 180, 181, 182, 370, 371, 372, 373, 332, 333, 334, 335, 50, 210, 211, 212, 336, 337, 338, 339, 340, 341, 433, 434, 435, 436, 437, 438, 439, 440, 441, 442, 443, 444, 378, 379, 380, 381, 183, 184, 185, 533, 534, 535, 536, 537, 538, 539] (by decide +kernel) (by decide +kernel)
set_option maxRecDepth 20000 in
theorem gL_law_X3_kept : GoodIn wsL_law (wsV RL 79 RX3 yX3_kept wsX3_kept) := goodIn_app (goodIn_of _ (by decide +kernel)) ggL_law_X3_kept
set_option maxRecDepth 20000 in
theorem ggL_law_X2_chosen : GoodIn wsL_law wsX2_chosen := goodIn_r _ [448, 24, 394, 395, 396, 2, 397, 25, 15, 398, 399, 400, 23, 401, 41, 402, 403, 404, 405, 39, 40, 406, 407, 408, 409, 86, 87, 88, 89, 410, 411, 412, 413, 302, 303, 304, 305, 20, 306, 307, 308, 309, 310, 311, 312, 313, 314, 315, 316, 317, 318, 242, 319, 240, 241, 243, 198, 199, 200, 201, 320, 321, 322, 323, 221, 222, 223, 350, 351, 352, 259, 260, 261, 217, 218, 219, 220, 414, 415, 416, 417, 418, 419, 449, 450, 451, 452, 357, 358, 359, 14, 360, 35, 361, 165, 166, 167, 168, 169, 170, 420, 421, 422, 423, 526, 527, 528, 529, 530, 531, 532, 547, 548, 549, 540, 541, 542, 543, 544, 545, 546] (by decide +kernel) (by decide +kernel)
set_option maxRecDepth 20000 in
theorem gL_law_X2_chosen : GoodIn wsL_law (wsV RL 80 RX2 yX2_chosen wsX2_chosen) := goodIn_app (goodIn_of _ (by decide +kernel)) ggL_law_X2_chosen
set_option maxRecDepth 20000 in
theorem ggL_law_X3_chosen : GoodIn wsL_law wsX3_chosen := goodIn_r _ [456, 428, 51, 52, 65, 66, 5, 67, 429, 430, 431, 432, 46, 112, 113, 114, 115, 179, 180, 181, 182, 370, 371, 372, 373, 332, 333, 334, 335, 50, 210, 211, 212, 336, 337, 338, 339, 340, 341, 433, 434, 435, 436, 437, 438, 439, 440, 441, 442, 443, 444, 378, 379, 380, 381, 183, 184, 185, 533, 534, 535, 536, 537, 538, 539] (by decide +kernel) (by decide +kernel)
set_option maxRecDepth 20000 in
theorem gL_law_X3_chosen : GoodIn wsL_law (wsV RL 83 RX3 yX3_chosen wsX3_chosen) := goodIn_app (goodIn_of _ (by decide +kernel)) ggL_law_X3_chosen
set_option maxRecDepth 20000 in
theorem ggL_law_X2_check : GoodIn wsL_law wsX2_check := goodIn_r _ [460, 15, 156, 157, 158, 2, 159, 86, 87, 88, 89, 526, 527, 528, 529, 530, 531, 532, 540, 541, 542, 543, 544, 545, 546] (by decide +kernel) (by decide +kernel)
set_option maxRecDepth 20000 in
theorem gL_law_X2_check : GoodIn wsL_law (wsV RL 84 RX2 yX2_check wsX2_check) := goodIn_app (goodIn_of _ (by decide +kernel)) ggL_law_X2_check
set_option maxRecDepth 20000 in
theorem ggL_law_X3_check : GoodIn wsL_law wsX3_check := goodIn_r _ [464, 46, 65, 66, 5, 67, 175, 176, 177, 178, 112, 113, 114, 115, 533, 534, 535, 536, 537, 538, 539] (by decide +kernel) (by decide +kernel)
set_option maxRecDepth 20000 in
theorem gL_law_X3_check : GoodIn wsL_law (wsV RL 87 RX3 yX3_check wsX3_check) := goodIn_app (goodIn_of _ (by decide +kernel)) ggL_law_X3_check
set_option maxRecDepth 20000 in
theorem ggL_law_X2_open : GoodIn wsL_law wsX2_open := goodIn_r _ [468, 156, 157, 158, 2, 159, 86, 87, 88, 89, 15, 252, 253, 254, 255, 201, 164, 165, 166, 167, 168, 169, 170, 526, 527, 528, 529, 530, 531, 532, 540, 541, 542, 543, 544, 545, 546] (by decide +kernel) (by decide +kernel)
set_option maxRecDepth 20000 in
theorem gL_law_X2_open : GoodIn wsL_law (wsV RL 88 RX2 yX2_open wsX2_open) := goodIn_app (goodIn_of _ (by decide +kernel)) ggL_law_X2_open
set_option maxRecDepth 20000 in
theorem ggL_law_X3_open : GoodIn wsL_law wsX3_open := goodIn_r _ [472, 175, 176, 177, 5, 178, 112, 113, 114, 115, 46, 65, 66, 67, 473, 474, 475, 476, 179, 180, 181, 182, 183, 184, 185, 533, 534, 535, 536, 537, 538, 539] (by decide +kernel) (by decide +kernel)
set_option maxRecDepth 20000 in
theorem gL_law_X3_open : GoodIn wsL_law (wsV RL 91 RX3 yX3_open wsX3_open) := goodIn_app (goodIn_of _ (by decide +kernel)) ggL_law_X3_open
set_option maxRecDepth 20000 in
theorem ggL_law_X2_fragile : GoodIn wsL_law wsX2_fragile := goodIn_r _ [480, 160, 161, 162, 2, 163, 15, 86, 87, 88, 89, 164, 165, 166, 167, 168, 169, 170, 236, 237, 238, 239, 240, 241, 242, 243, 217, 218, 219, 220, 221, 222, 223, 198, 199, 200, 201, 244, 245, 246, 247, 248, 249, 250, 251, 252, 253, 254, 255, 256, 257, 258, 259, 260, 261, 481, 482, 483, 484, 526, 527, 528, 529, 530, 531, 532, 540, 541, 542, 543, 544, 545, 546] (by decide +kernel) (by decide +kernel)
set_option maxRecDepth 20000 in
theorem gL_law_X2_fragile : GoodIn wsL_law (wsV RL 92 RX2 yX2_fragile wsX2_fragile) := goodIn_app (goodIn_of _ (by decide +kernel)) ggL_law_X2_fragile
set_option maxRecDepth 20000 in
theorem ggL_law_X3_fragile : GoodIn wsL_law wsX3_fragile := goodIn_r _ [488, 65, 66, 5, 67, 112, 113, 114, 115, 46, 183, 184, 185, 473, 474, 475, 476, 179, 180, 181, 182, 533, 534, 535, 536, 537, 538, 539] (by decide +kernel) (by decide +kernel)
set_option maxRecDepth 20000 in
theorem gL_law_X3_fragile : GoodIn wsL_law (wsV RL 95 RX3 yX3_fragile wsX3_fragile) := goodIn_app (goodIn_of _ (by decide +kernel)) ggL_law_X3_fragile
set_option maxRecDepth 20000 in
theorem ggL_law_X2_image : GoodIn wsL_law wsX2_image := goodIn_r _ [492, 15, 18, 493, 494, 495, 2, 496, 16, 17, 497, 498, 499, 14, 500, 29, 30, 31, 32, 33, 34, 501, 307, 308, 309, 35, 526, 527, 528, 529, 530, 531, 532, 540, 541, 542, 543, 544, 545, 546] (by decide +kernel) (by decide +kernel)
set_option maxRecDepth 20000 in
theorem gL_law_X2_image : GoodIn wsL_law (wsV RL 96 RX2 yX2_image wsX2_image) := goodIn_app (goodIn_of _ (by decide +kernel)) ggL_law_X2_image
set_option maxRecDepth 20000 in
theorem ggL_law_X3_image : GoodIn wsL_law wsX3_image := goodIn_r _ [505, 47, 46, 49, 65, 66, 5, 67, 533, 534, 535, 536, 537, 538, 539] (by decide +kernel) (by decide +kernel)
set_option maxRecDepth 20000 in
theorem gL_law_X3_image : GoodIn wsL_law (wsV RL 99 RX3 yX3_image wsX3_image) := goodIn_app (goodIn_of _ (by decide +kernel)) ggL_law_X3_image
set_option maxRecDepth 20000 in
theorem ggL_law_X2_restore : GoodIn wsL_law wsX2_restore := goodIn_r _ [509, 18, 15, 221, 222, 2, 223, 493, 494, 495, 496, 16, 17, 497, 498, 499, 14, 500, 29, 30, 31, 32, 33, 34, 501, 307, 308, 309, 35, 526, 527, 528, 529, 530, 531, 532, 540, 541, 542, 543, 544, 545, 546] (by decide +kernel) (by decide +kernel)
set_option maxRecDepth 20000 in
theorem gL_law_X2_restore : GoodIn wsL_law (wsV RL 100 RX2 yX2_restore wsX2_restore) := goodIn_app (goodIn_of _ (by decide +kernel)) ggL_law_X2_restore
set_option maxRecDepth 20000 in
theorem ggL_law_X3_restore : GoodIn wsL_law wsX3_restore := goodIn_r _ [513, 49, 46, 47, 65, 66, 5, 67, 533, 534, 535, 536, 537, 538, 539] (by decide +kernel) (by decide +kernel)
set_option maxRecDepth 20000 in
theorem gL_law_X3_restore : GoodIn wsL_law (wsV RL 103 RX3 yX3_restore wsX3_restore) := goodIn_app (goodIn_of _ (by decide +kernel)) ggL_law_X3_restore
set_option maxRecDepth 20000 in
theorem ggL_law_X2_count : GoodIn wsL_law wsX2_count := goodIn_r _ [517, 15, 18, 160, 161, 162, 2, 163, 86, 87, 88, 89, 164, 165, 166, 167, 168, 169, 170, 518, 519, 520, 521, 526, 527, 528, 529, 530, 531, 532, 540, 541, 542, 543, 544, 545, 546] (by decide +kernel) (by decide +kernel)
set_option maxRecDepth 20000 in
theorem gL_law_X2_count : GoodIn wsL_law (wsV RL 104 RX2 yX2_count wsX2_count) := goodIn_app (goodIn_of _ (by decide +kernel)) ggL_law_X2_count
set_option maxRecDepth 20000 in
theorem ggL_law_X3_count : GoodIn wsL_law wsX3_count := goodIn_r _ [525, 46, 49, 65, 66, 5, 67, 179, 180, 181, 182, 112, 113, 114, 115, 183, 184, 185, 533, 534, 535, 536, 537, 538, 539] (by decide +kernel) (by decide +kernel)
set_option maxRecDepth 20000 in
theorem gL_law_X3_count : GoodIn wsL_law (wsV RL 107 RX3 yX3_count wsX3_count) := goodIn_app (goodIn_of _ (by decide +kernel)) ggL_law_X3_count
theorem dL_law_0 : decode cL_law 0 = .ok (.new 7, 3) := by decide +kernel
theorem dL_law_3 : decode cL_law 3 = .ok (.dup, 1) := by decide +kernel
theorem dL_law_4 : decode cL_law 4 = .ok (.invokespecial 9, 3) := by decide +kernel
theorem dL_law_7 : decode cL_law 7 = .ok (.astore_n 1, 1) := by decide +kernel
theorem dL_law_8 : decode cL_law 8 = .ok (.new 10, 3) := by decide +kernel
theorem dL_law_11 : decode cL_law 11 = .ok (.dup, 1) := by decide +kernel
theorem dL_law_12 : decode cL_law 12 = .ok (.invokespecial 12, 3) := by decide +kernel
theorem dL_law_15 : decode cL_law 15 = .ok (.astore_n 2, 1) := by decide +kernel
theorem dL_law_16 : decode cL_law 16 = .ok (.iconst 0, 1) := by decide +kernel
theorem dL_law_17 : decode cL_law 17 = .ok (.istore_n 3, 1) := by decide +kernel
theorem dL_law_18 : decode cL_law 18 = .ok (.iload_n 3, 1) := by decide +kernel
theorem dL_law_19 : decode cL_law 19 = .ok (.aload_n 0, 1) := by decide +kernel
theorem dL_law_20 : decode cL_law 20 = .ok (.arraylength, 1) := by decide +kernel
theorem dL_law_21 : decode cL_law 21 = .ok (.iconst 3, 1) := by decide +kernel
theorem dL_law_22 : decode cL_law 22 = .ok (.isub, 1) := by decide +kernel
theorem dL_law_23 : decode cL_law 23 = .ok (.if_icmp .gt 753, 3) := by decide +kernel
theorem dL_law_26 : decode cL_law 26 = .ok (.aload_n 0, 1) := by decide +kernel
theorem dL_law_27 : decode cL_law 27 = .ok (.iload_n 3, 1) := by decide +kernel
theorem dL_law_28 : decode cL_law 28 = .ok (.iaload, 1) := by decide +kernel
theorem dL_law_29 : decode cL_law 29 = .ok (.bipush 31, 2) := by decide +kernel
theorem dL_law_31 : decode cL_law 31 = .ok (.iand, 1) := by decide +kernel
theorem dL_law_32 : decode cL_law 32 = .ok (.tableswitch 738 0 22 #[108, 131, 164, 198, 231, 254, 277, 300, 323, 346, 379, 412, 445, 478, 501, 524, 557, 580, 613, 646, 669, 692, 715], 108) := by decide +kernel
theorem dL_law_140 : decode cL_law 140 = .ok (.aload_n 1, 1) := by decide +kernel
theorem dL_law_141 : decode cL_law 141 = .ok (.aload_n 0, 1) := by decide +kernel
theorem dL_law_142 : decode cL_law 142 = .ok (.iload_n 3, 1) := by decide +kernel
theorem dL_law_143 : decode cL_law 143 = .ok (.iconst 1, 1) := by decide +kernel
theorem dL_law_144 : decode cL_law 144 = .ok (.iadd, 1) := by decide +kernel
theorem dL_law_145 : decode cL_law 145 = .ok (.iaload, 1) := by decide +kernel
theorem dL_law_146 : decode cL_law 146 = .ok (.invokevirtual 13, 3) := by decide +kernel
theorem dL_law_149 : decode cL_law 149 = .ok (.aload_n 2, 1) := by decide +kernel
theorem dL_law_150 : decode cL_law 150 = .ok (.aload_n 0, 1) := by decide +kernel
theorem dL_law_151 : decode cL_law 151 = .ok (.iload_n 3, 1) := by decide +kernel
theorem dL_law_152 : decode cL_law 152 = .ok (.iconst 1, 1) := by decide +kernel
theorem dL_law_153 : decode cL_law 153 = .ok (.iadd, 1) := by decide +kernel
theorem dL_law_154 : decode cL_law 154 = .ok (.iaload, 1) := by decide +kernel
theorem dL_law_155 : decode cL_law 155 = .ok (.invokevirtual 17, 3) := by decide +kernel
theorem dL_law_158 : decode cL_law 158 = .ok (.if_icmp .eq 612, 3) := by decide +kernel
theorem dL_law_161 : decode cL_law 161 = .ok (.iconst 0, 1) := by decide +kernel
theorem dL_law_162 : decode cL_law 162 = .ok (.ireturn, 1) := by decide +kernel
theorem dL_law_163 : decode cL_law 163 = .ok (.aload_n 1, 1) := by decide +kernel
theorem dL_law_164 : decode cL_law 164 = .ok (.aload_n 0, 1) := by decide +kernel
theorem dL_law_165 : decode cL_law 165 = .ok (.iload_n 3, 1) := by decide +kernel
theorem dL_law_166 : decode cL_law 166 = .ok (.iconst 1, 1) := by decide +kernel
theorem dL_law_167 : decode cL_law 167 = .ok (.iadd, 1) := by decide +kernel
theorem dL_law_168 : decode cL_law 168 = .ok (.iaload, 1) := by decide +kernel
theorem dL_law_169 : decode cL_law 169 = .ok (.aload_n 0, 1) := by decide +kernel
theorem dL_law_170 : decode cL_law 170 = .ok (.iload_n 3, 1) := by decide +kernel
theorem dL_law_171 : decode cL_law 171 = .ok (.iconst 2, 1) := by decide +kernel
theorem dL_law_172 : decode cL_law 172 = .ok (.iadd, 1) := by decide +kernel
theorem dL_law_173 : decode cL_law 173 = .ok (.iaload, 1) := by decide +kernel
theorem dL_law_174 : decode cL_law 174 = .ok (.invokevirtual 18, 3) := by decide +kernel
theorem dL_law_177 : decode cL_law 177 = .ok (.aload_n 2, 1) := by decide +kernel
theorem dL_law_178 : decode cL_law 178 = .ok (.aload_n 0, 1) := by decide +kernel
theorem dL_law_179 : decode cL_law 179 = .ok (.iload_n 3, 1) := by decide +kernel
theorem dL_law_180 : decode cL_law 180 = .ok (.iconst 1, 1) := by decide +kernel
theorem dL_law_181 : decode cL_law 181 = .ok (.iadd, 1) := by decide +kernel
theorem dL_law_182 : decode cL_law 182 = .ok (.iaload, 1) := by decide +kernel
theorem dL_law_183 : decode cL_law 183 = .ok (.aload_n 0, 1) := by decide +kernel
theorem dL_law_184 : decode cL_law 184 = .ok (.iload_n 3, 1) := by decide +kernel
theorem dL_law_185 : decode cL_law 185 = .ok (.iconst 2, 1) := by decide +kernel
theorem dL_law_186 : decode cL_law 186 = .ok (.iadd, 1) := by decide +kernel
theorem dL_law_187 : decode cL_law 187 = .ok (.iaload, 1) := by decide +kernel
theorem dL_law_188 : decode cL_law 188 = .ok (.invokevirtual 22, 3) := by decide +kernel
theorem dL_law_191 : decode cL_law 191 = .ok (.if_icmp .eq 579, 3) := by decide +kernel
theorem dL_law_194 : decode cL_law 194 = .ok (.iconst 0, 1) := by decide +kernel
theorem dL_law_195 : decode cL_law 195 = .ok (.ireturn, 1) := by decide +kernel
theorem dL_law_196 : decode cL_law 196 = .ok (.aload_n 1, 1) := by decide +kernel
theorem dL_law_197 : decode cL_law 197 = .ok (.aload_n 0, 1) := by decide +kernel
theorem dL_law_198 : decode cL_law 198 = .ok (.iload_n 3, 1) := by decide +kernel
theorem dL_law_199 : decode cL_law 199 = .ok (.iconst 1, 1) := by decide +kernel
theorem dL_law_200 : decode cL_law 200 = .ok (.iadd, 1) := by decide +kernel
theorem dL_law_201 : decode cL_law 201 = .ok (.iaload, 1) := by decide +kernel
theorem dL_law_202 : decode cL_law 202 = .ok (.aload_n 0, 1) := by decide +kernel
theorem dL_law_203 : decode cL_law 203 = .ok (.iload_n 3, 1) := by decide +kernel
theorem dL_law_204 : decode cL_law 204 = .ok (.iconst 2, 1) := by decide +kernel
theorem dL_law_205 : decode cL_law 205 = .ok (.iadd, 1) := by decide +kernel
theorem dL_law_206 : decode cL_law 206 = .ok (.iaload, 1) := by decide +kernel
theorem dL_law_207 : decode cL_law 207 = .ok (.invokevirtual 23, 3) := by decide +kernel
theorem dL_law_210 : decode cL_law 210 = .ok (.aload_n 2, 1) := by decide +kernel
theorem dL_law_211 : decode cL_law 211 = .ok (.aload_n 0, 1) := by decide +kernel
theorem dL_law_212 : decode cL_law 212 = .ok (.iload_n 3, 1) := by decide +kernel
theorem dL_law_213 : decode cL_law 213 = .ok (.iconst 1, 1) := by decide +kernel
theorem dL_law_214 : decode cL_law 214 = .ok (.iadd, 1) := by decide +kernel
theorem dL_law_215 : decode cL_law 215 = .ok (.iaload, 1) := by decide +kernel
theorem dL_law_216 : decode cL_law 216 = .ok (.aload_n 0, 1) := by decide +kernel
theorem dL_law_217 : decode cL_law 217 = .ok (.iload_n 3, 1) := by decide +kernel
theorem dL_law_218 : decode cL_law 218 = .ok (.iconst 2, 1) := by decide +kernel
theorem dL_law_219 : decode cL_law 219 = .ok (.iadd, 1) := by decide +kernel
theorem dL_law_220 : decode cL_law 220 = .ok (.iaload, 1) := by decide +kernel
theorem dL_law_221 : decode cL_law 221 = .ok (.invokevirtual 27, 3) := by decide +kernel
theorem dL_law_224 : decode cL_law 224 = .ok (.lcmp, 1) := by decide +kernel
theorem dL_law_225 : decode cL_law 225 = .ok (.ifCond .eq 545, 3) := by decide +kernel
theorem dL_law_228 : decode cL_law 228 = .ok (.iconst 0, 1) := by decide +kernel
theorem dL_law_229 : decode cL_law 229 = .ok (.ireturn, 1) := by decide +kernel
theorem dL_law_230 : decode cL_law 230 = .ok (.aload_n 1, 1) := by decide +kernel
theorem dL_law_231 : decode cL_law 231 = .ok (.aload_n 0, 1) := by decide +kernel
theorem dL_law_232 : decode cL_law 232 = .ok (.iload_n 3, 1) := by decide +kernel
theorem dL_law_233 : decode cL_law 233 = .ok (.iconst 1, 1) := by decide +kernel
theorem dL_law_234 : decode cL_law 234 = .ok (.iadd, 1) := by decide +kernel
theorem dL_law_235 : decode cL_law 235 = .ok (.iaload, 1) := by decide +kernel
theorem dL_law_236 : decode cL_law 236 = .ok (.aload_n 0, 1) := by decide +kernel
theorem dL_law_237 : decode cL_law 237 = .ok (.iload_n 3, 1) := by decide +kernel
theorem dL_law_238 : decode cL_law 238 = .ok (.iconst 2, 1) := by decide +kernel
theorem dL_law_239 : decode cL_law 239 = .ok (.iadd, 1) := by decide +kernel
theorem dL_law_240 : decode cL_law 240 = .ok (.iaload, 1) := by decide +kernel
theorem dL_law_241 : decode cL_law 241 = .ok (.invokevirtual 28, 3) := by decide +kernel
theorem dL_law_244 : decode cL_law 244 = .ok (.aload_n 2, 1) := by decide +kernel
theorem dL_law_245 : decode cL_law 245 = .ok (.aload_n 0, 1) := by decide +kernel
theorem dL_law_246 : decode cL_law 246 = .ok (.iload_n 3, 1) := by decide +kernel
theorem dL_law_247 : decode cL_law 247 = .ok (.iconst 1, 1) := by decide +kernel
theorem dL_law_248 : decode cL_law 248 = .ok (.iadd, 1) := by decide +kernel
theorem dL_law_249 : decode cL_law 249 = .ok (.iaload, 1) := by decide +kernel
theorem dL_law_250 : decode cL_law 250 = .ok (.aload_n 0, 1) := by decide +kernel
theorem dL_law_251 : decode cL_law 251 = .ok (.iload_n 3, 1) := by decide +kernel
theorem dL_law_252 : decode cL_law 252 = .ok (.iconst 2, 1) := by decide +kernel
theorem dL_law_253 : decode cL_law 253 = .ok (.iadd, 1) := by decide +kernel
theorem dL_law_254 : decode cL_law 254 = .ok (.iaload, 1) := by decide +kernel
theorem dL_law_255 : decode cL_law 255 = .ok (.invokevirtual 31, 3) := by decide +kernel
theorem dL_law_258 : decode cL_law 258 = .ok (.if_icmp .eq 512, 3) := by decide +kernel
theorem dL_law_261 : decode cL_law 261 = .ok (.iconst 0, 1) := by decide +kernel
theorem dL_law_262 : decode cL_law 262 = .ok (.ireturn, 1) := by decide +kernel
theorem dL_law_263 : decode cL_law 263 = .ok (.aload_n 1, 1) := by decide +kernel
theorem dL_law_264 : decode cL_law 264 = .ok (.aload_n 0, 1) := by decide +kernel
theorem dL_law_265 : decode cL_law 265 = .ok (.iload_n 3, 1) := by decide +kernel
theorem dL_law_266 : decode cL_law 266 = .ok (.iconst 1, 1) := by decide +kernel
theorem dL_law_267 : decode cL_law 267 = .ok (.iadd, 1) := by decide +kernel
theorem dL_law_268 : decode cL_law 268 = .ok (.iaload, 1) := by decide +kernel
theorem dL_law_269 : decode cL_law 269 = .ok (.invokevirtual 32, 3) := by decide +kernel
theorem dL_law_272 : decode cL_law 272 = .ok (.aload_n 2, 1) := by decide +kernel
theorem dL_law_273 : decode cL_law 273 = .ok (.aload_n 0, 1) := by decide +kernel
theorem dL_law_274 : decode cL_law 274 = .ok (.iload_n 3, 1) := by decide +kernel
theorem dL_law_275 : decode cL_law 275 = .ok (.iconst 1, 1) := by decide +kernel
theorem dL_law_276 : decode cL_law 276 = .ok (.iadd, 1) := by decide +kernel
theorem dL_law_277 : decode cL_law 277 = .ok (.iaload, 1) := by decide +kernel
theorem dL_law_278 : decode cL_law 278 = .ok (.invokevirtual 35, 3) := by decide +kernel
theorem dL_law_281 : decode cL_law 281 = .ok (.if_icmp .eq 489, 3) := by decide +kernel
theorem dL_law_284 : decode cL_law 284 = .ok (.iconst 0, 1) := by decide +kernel
theorem dL_law_285 : decode cL_law 285 = .ok (.ireturn, 1) := by decide +kernel
theorem dL_law_286 : decode cL_law 286 = .ok (.aload_n 1, 1) := by decide +kernel
theorem dL_law_287 : decode cL_law 287 = .ok (.aload_n 0, 1) := by decide +kernel
theorem dL_law_288 : decode cL_law 288 = .ok (.iload_n 3, 1) := by decide +kernel
theorem dL_law_289 : decode cL_law 289 = .ok (.iconst 1, 1) := by decide +kernel
theorem dL_law_290 : decode cL_law 290 = .ok (.iadd, 1) := by decide +kernel
theorem dL_law_291 : decode cL_law 291 = .ok (.iaload, 1) := by decide +kernel
theorem dL_law_292 : decode cL_law 292 = .ok (.invokevirtual 36, 3) := by decide +kernel
theorem dL_law_295 : decode cL_law 295 = .ok (.aload_n 2, 1) := by decide +kernel
theorem dL_law_296 : decode cL_law 296 = .ok (.aload_n 0, 1) := by decide +kernel
theorem dL_law_297 : decode cL_law 297 = .ok (.iload_n 3, 1) := by decide +kernel
theorem dL_law_298 : decode cL_law 298 = .ok (.iconst 1, 1) := by decide +kernel
theorem dL_law_299 : decode cL_law 299 = .ok (.iadd, 1) := by decide +kernel
theorem dL_law_300 : decode cL_law 300 = .ok (.iaload, 1) := by decide +kernel
theorem dL_law_301 : decode cL_law 301 = .ok (.invokevirtual 39, 3) := by decide +kernel
theorem dL_law_304 : decode cL_law 304 = .ok (.if_icmp .eq 466, 3) := by decide +kernel
theorem dL_law_307 : decode cL_law 307 = .ok (.iconst 0, 1) := by decide +kernel
theorem dL_law_308 : decode cL_law 308 = .ok (.ireturn, 1) := by decide +kernel
theorem dL_law_309 : decode cL_law 309 = .ok (.aload_n 1, 1) := by decide +kernel
theorem dL_law_310 : decode cL_law 310 = .ok (.aload_n 0, 1) := by decide +kernel
theorem dL_law_311 : decode cL_law 311 = .ok (.iload_n 3, 1) := by decide +kernel
theorem dL_law_312 : decode cL_law 312 = .ok (.iconst 1, 1) := by decide +kernel
theorem dL_law_313 : decode cL_law 313 = .ok (.iadd, 1) := by decide +kernel
theorem dL_law_314 : decode cL_law 314 = .ok (.iaload, 1) := by decide +kernel
theorem dL_law_315 : decode cL_law 315 = .ok (.invokevirtual 40, 3) := by decide +kernel
theorem dL_law_318 : decode cL_law 318 = .ok (.aload_n 2, 1) := by decide +kernel
theorem dL_law_319 : decode cL_law 319 = .ok (.aload_n 0, 1) := by decide +kernel
theorem dL_law_320 : decode cL_law 320 = .ok (.iload_n 3, 1) := by decide +kernel
theorem dL_law_321 : decode cL_law 321 = .ok (.iconst 1, 1) := by decide +kernel
theorem dL_law_322 : decode cL_law 322 = .ok (.iadd, 1) := by decide +kernel
theorem dL_law_323 : decode cL_law 323 = .ok (.iaload, 1) := by decide +kernel
theorem dL_law_324 : decode cL_law 324 = .ok (.invokevirtual 43, 3) := by decide +kernel
theorem dL_law_327 : decode cL_law 327 = .ok (.if_icmp .eq 443, 3) := by decide +kernel
theorem dL_law_330 : decode cL_law 330 = .ok (.iconst 0, 1) := by decide +kernel
theorem dL_law_331 : decode cL_law 331 = .ok (.ireturn, 1) := by decide +kernel
theorem dL_law_332 : decode cL_law 332 = .ok (.aload_n 1, 1) := by decide +kernel
theorem dL_law_333 : decode cL_law 333 = .ok (.aload_n 0, 1) := by decide +kernel
theorem dL_law_334 : decode cL_law 334 = .ok (.iload_n 3, 1) := by decide +kernel
theorem dL_law_335 : decode cL_law 335 = .ok (.iconst 1, 1) := by decide +kernel
theorem dL_law_336 : decode cL_law 336 = .ok (.iadd, 1) := by decide +kernel
theorem dL_law_337 : decode cL_law 337 = .ok (.iaload, 1) := by decide +kernel
theorem dL_law_338 : decode cL_law 338 = .ok (.invokevirtual 44, 3) := by decide +kernel
theorem dL_law_341 : decode cL_law 341 = .ok (.aload_n 2, 1) := by decide +kernel
theorem dL_law_342 : decode cL_law 342 = .ok (.aload_n 0, 1) := by decide +kernel
theorem dL_law_343 : decode cL_law 343 = .ok (.iload_n 3, 1) := by decide +kernel
theorem dL_law_344 : decode cL_law 344 = .ok (.iconst 1, 1) := by decide +kernel
theorem dL_law_345 : decode cL_law 345 = .ok (.iadd, 1) := by decide +kernel
theorem dL_law_346 : decode cL_law 346 = .ok (.iaload, 1) := by decide +kernel
theorem dL_law_347 : decode cL_law 347 = .ok (.invokevirtual 47, 3) := by decide +kernel
theorem dL_law_350 : decode cL_law 350 = .ok (.if_icmp .eq 420, 3) := by decide +kernel
theorem dL_law_353 : decode cL_law 353 = .ok (.iconst 0, 1) := by decide +kernel
theorem dL_law_354 : decode cL_law 354 = .ok (.ireturn, 1) := by decide +kernel
theorem dL_law_355 : decode cL_law 355 = .ok (.aload_n 1, 1) := by decide +kernel
theorem dL_law_356 : decode cL_law 356 = .ok (.aload_n 0, 1) := by decide +kernel
theorem dL_law_357 : decode cL_law 357 = .ok (.iload_n 3, 1) := by decide +kernel
theorem dL_law_358 : decode cL_law 358 = .ok (.iconst 1, 1) := by decide +kernel
theorem dL_law_359 : decode cL_law 359 = .ok (.iadd, 1) := by decide +kernel
theorem dL_law_360 : decode cL_law 360 = .ok (.iaload, 1) := by decide +kernel
theorem dL_law_361 : decode cL_law 361 = .ok (.invokevirtual 48, 3) := by decide +kernel
theorem dL_law_364 : decode cL_law 364 = .ok (.aload_n 2, 1) := by decide +kernel
theorem dL_law_365 : decode cL_law 365 = .ok (.aload_n 0, 1) := by decide +kernel
theorem dL_law_366 : decode cL_law 366 = .ok (.iload_n 3, 1) := by decide +kernel
theorem dL_law_367 : decode cL_law 367 = .ok (.iconst 1, 1) := by decide +kernel
theorem dL_law_368 : decode cL_law 368 = .ok (.iadd, 1) := by decide +kernel
theorem dL_law_369 : decode cL_law 369 = .ok (.iaload, 1) := by decide +kernel
theorem dL_law_370 : decode cL_law 370 = .ok (.invokevirtual 51, 3) := by decide +kernel
theorem dL_law_373 : decode cL_law 373 = .ok (.if_icmp .eq 397, 3) := by decide +kernel
theorem dL_law_376 : decode cL_law 376 = .ok (.iconst 0, 1) := by decide +kernel
theorem dL_law_377 : decode cL_law 377 = .ok (.ireturn, 1) := by decide +kernel
theorem dL_law_378 : decode cL_law 378 = .ok (.aload_n 1, 1) := by decide +kernel
theorem dL_law_379 : decode cL_law 379 = .ok (.aload_n 0, 1) := by decide +kernel
theorem dL_law_380 : decode cL_law 380 = .ok (.iload_n 3, 1) := by decide +kernel
theorem dL_law_381 : decode cL_law 381 = .ok (.iconst 1, 1) := by decide +kernel
theorem dL_law_382 : decode cL_law 382 = .ok (.iadd, 1) := by decide +kernel
theorem dL_law_383 : decode cL_law 383 = .ok (.iaload, 1) := by decide +kernel
theorem dL_law_384 : decode cL_law 384 = .ok (.aload_n 0, 1) := by decide +kernel
theorem dL_law_385 : decode cL_law 385 = .ok (.iload_n 3, 1) := by decide +kernel
theorem dL_law_386 : decode cL_law 386 = .ok (.iconst 2, 1) := by decide +kernel
theorem dL_law_387 : decode cL_law 387 = .ok (.iadd, 1) := by decide +kernel
theorem dL_law_388 : decode cL_law 388 = .ok (.iaload, 1) := by decide +kernel
theorem dL_law_389 : decode cL_law 389 = .ok (.invokevirtual 52, 3) := by decide +kernel
theorem dL_law_392 : decode cL_law 392 = .ok (.aload_n 2, 1) := by decide +kernel
theorem dL_law_393 : decode cL_law 393 = .ok (.aload_n 0, 1) := by decide +kernel
theorem dL_law_394 : decode cL_law 394 = .ok (.iload_n 3, 1) := by decide +kernel
theorem dL_law_395 : decode cL_law 395 = .ok (.iconst 1, 1) := by decide +kernel
theorem dL_law_396 : decode cL_law 396 = .ok (.iadd, 1) := by decide +kernel
theorem dL_law_397 : decode cL_law 397 = .ok (.iaload, 1) := by decide +kernel
theorem dL_law_398 : decode cL_law 398 = .ok (.aload_n 0, 1) := by decide +kernel
theorem dL_law_399 : decode cL_law 399 = .ok (.iload_n 3, 1) := by decide +kernel
theorem dL_law_400 : decode cL_law 400 = .ok (.iconst 2, 1) := by decide +kernel
theorem dL_law_401 : decode cL_law 401 = .ok (.iadd, 1) := by decide +kernel
theorem dL_law_402 : decode cL_law 402 = .ok (.iaload, 1) := by decide +kernel
theorem dL_law_403 : decode cL_law 403 = .ok (.invokevirtual 55, 3) := by decide +kernel
theorem dL_law_406 : decode cL_law 406 = .ok (.if_icmp .eq 364, 3) := by decide +kernel
theorem dL_law_409 : decode cL_law 409 = .ok (.iconst 0, 1) := by decide +kernel
theorem dL_law_410 : decode cL_law 410 = .ok (.ireturn, 1) := by decide +kernel
theorem dL_law_411 : decode cL_law 411 = .ok (.aload_n 1, 1) := by decide +kernel
theorem dL_law_412 : decode cL_law 412 = .ok (.aload_n 0, 1) := by decide +kernel
theorem dL_law_413 : decode cL_law 413 = .ok (.iload_n 3, 1) := by decide +kernel
theorem dL_law_414 : decode cL_law 414 = .ok (.iconst 1, 1) := by decide +kernel
theorem dL_law_415 : decode cL_law 415 = .ok (.iadd, 1) := by decide +kernel
theorem dL_law_416 : decode cL_law 416 = .ok (.iaload, 1) := by decide +kernel
theorem dL_law_417 : decode cL_law 417 = .ok (.aload_n 0, 1) := by decide +kernel
theorem dL_law_418 : decode cL_law 418 = .ok (.iload_n 3, 1) := by decide +kernel
theorem dL_law_419 : decode cL_law 419 = .ok (.iconst 2, 1) := by decide +kernel
theorem dL_law_420 : decode cL_law 420 = .ok (.iadd, 1) := by decide +kernel
theorem dL_law_421 : decode cL_law 421 = .ok (.iaload, 1) := by decide +kernel
theorem dL_law_422 : decode cL_law 422 = .ok (.invokevirtual 56, 3) := by decide +kernel
theorem dL_law_425 : decode cL_law 425 = .ok (.aload_n 2, 1) := by decide +kernel
theorem dL_law_426 : decode cL_law 426 = .ok (.aload_n 0, 1) := by decide +kernel
theorem dL_law_427 : decode cL_law 427 = .ok (.iload_n 3, 1) := by decide +kernel
theorem dL_law_428 : decode cL_law 428 = .ok (.iconst 1, 1) := by decide +kernel
theorem dL_law_429 : decode cL_law 429 = .ok (.iadd, 1) := by decide +kernel
theorem dL_law_430 : decode cL_law 430 = .ok (.iaload, 1) := by decide +kernel
theorem dL_law_431 : decode cL_law 431 = .ok (.aload_n 0, 1) := by decide +kernel
theorem dL_law_432 : decode cL_law 432 = .ok (.iload_n 3, 1) := by decide +kernel
theorem dL_law_433 : decode cL_law 433 = .ok (.iconst 2, 1) := by decide +kernel
theorem dL_law_434 : decode cL_law 434 = .ok (.iadd, 1) := by decide +kernel
theorem dL_law_435 : decode cL_law 435 = .ok (.iaload, 1) := by decide +kernel
theorem dL_law_436 : decode cL_law 436 = .ok (.invokevirtual 59, 3) := by decide +kernel
theorem dL_law_439 : decode cL_law 439 = .ok (.if_icmp .eq 331, 3) := by decide +kernel
theorem dL_law_442 : decode cL_law 442 = .ok (.iconst 0, 1) := by decide +kernel
theorem dL_law_443 : decode cL_law 443 = .ok (.ireturn, 1) := by decide +kernel
theorem dL_law_444 : decode cL_law 444 = .ok (.aload_n 1, 1) := by decide +kernel
theorem dL_law_445 : decode cL_law 445 = .ok (.aload_n 0, 1) := by decide +kernel
theorem dL_law_446 : decode cL_law 446 = .ok (.iload_n 3, 1) := by decide +kernel
theorem dL_law_447 : decode cL_law 447 = .ok (.iconst 1, 1) := by decide +kernel
theorem dL_law_448 : decode cL_law 448 = .ok (.iadd, 1) := by decide +kernel
theorem dL_law_449 : decode cL_law 449 = .ok (.iaload, 1) := by decide +kernel
theorem dL_law_450 : decode cL_law 450 = .ok (.aload_n 0, 1) := by decide +kernel
theorem dL_law_451 : decode cL_law 451 = .ok (.iload_n 3, 1) := by decide +kernel
theorem dL_law_452 : decode cL_law 452 = .ok (.iconst 2, 1) := by decide +kernel
theorem dL_law_453 : decode cL_law 453 = .ok (.iadd, 1) := by decide +kernel
theorem dL_law_454 : decode cL_law 454 = .ok (.iaload, 1) := by decide +kernel
theorem dL_law_455 : decode cL_law 455 = .ok (.invokevirtual 60, 3) := by decide +kernel
theorem dL_law_458 : decode cL_law 458 = .ok (.aload_n 2, 1) := by decide +kernel
theorem dL_law_459 : decode cL_law 459 = .ok (.aload_n 0, 1) := by decide +kernel
theorem dL_law_460 : decode cL_law 460 = .ok (.iload_n 3, 1) := by decide +kernel
theorem dL_law_461 : decode cL_law 461 = .ok (.iconst 1, 1) := by decide +kernel
theorem dL_law_462 : decode cL_law 462 = .ok (.iadd, 1) := by decide +kernel
theorem dL_law_463 : decode cL_law 463 = .ok (.iaload, 1) := by decide +kernel
theorem dL_law_464 : decode cL_law 464 = .ok (.aload_n 0, 1) := by decide +kernel
theorem dL_law_465 : decode cL_law 465 = .ok (.iload_n 3, 1) := by decide +kernel
theorem dL_law_466 : decode cL_law 466 = .ok (.iconst 2, 1) := by decide +kernel
theorem dL_law_467 : decode cL_law 467 = .ok (.iadd, 1) := by decide +kernel
theorem dL_law_468 : decode cL_law 468 = .ok (.iaload, 1) := by decide +kernel
theorem dL_law_469 : decode cL_law 469 = .ok (.invokevirtual 63, 3) := by decide +kernel
theorem dL_law_472 : decode cL_law 472 = .ok (.if_icmp .eq 298, 3) := by decide +kernel
theorem dL_law_475 : decode cL_law 475 = .ok (.iconst 0, 1) := by decide +kernel
theorem dL_law_476 : decode cL_law 476 = .ok (.ireturn, 1) := by decide +kernel
theorem dL_law_477 : decode cL_law 477 = .ok (.aload_n 1, 1) := by decide +kernel
theorem dL_law_478 : decode cL_law 478 = .ok (.aload_n 0, 1) := by decide +kernel
theorem dL_law_479 : decode cL_law 479 = .ok (.iload_n 3, 1) := by decide +kernel
theorem dL_law_480 : decode cL_law 480 = .ok (.iconst 1, 1) := by decide +kernel
theorem dL_law_481 : decode cL_law 481 = .ok (.iadd, 1) := by decide +kernel
theorem dL_law_482 : decode cL_law 482 = .ok (.iaload, 1) := by decide +kernel
theorem dL_law_483 : decode cL_law 483 = .ok (.aload_n 0, 1) := by decide +kernel
theorem dL_law_484 : decode cL_law 484 = .ok (.iload_n 3, 1) := by decide +kernel
theorem dL_law_485 : decode cL_law 485 = .ok (.iconst 2, 1) := by decide +kernel
theorem dL_law_486 : decode cL_law 486 = .ok (.iadd, 1) := by decide +kernel
theorem dL_law_487 : decode cL_law 487 = .ok (.iaload, 1) := by decide +kernel
theorem dL_law_488 : decode cL_law 488 = .ok (.invokevirtual 64, 3) := by decide +kernel
theorem dL_law_491 : decode cL_law 491 = .ok (.aload_n 2, 1) := by decide +kernel
theorem dL_law_492 : decode cL_law 492 = .ok (.aload_n 0, 1) := by decide +kernel
theorem dL_law_493 : decode cL_law 493 = .ok (.iload_n 3, 1) := by decide +kernel
theorem dL_law_494 : decode cL_law 494 = .ok (.iconst 1, 1) := by decide +kernel
theorem dL_law_495 : decode cL_law 495 = .ok (.iadd, 1) := by decide +kernel
theorem dL_law_496 : decode cL_law 496 = .ok (.iaload, 1) := by decide +kernel
theorem dL_law_497 : decode cL_law 497 = .ok (.aload_n 0, 1) := by decide +kernel
theorem dL_law_498 : decode cL_law 498 = .ok (.iload_n 3, 1) := by decide +kernel
theorem dL_law_499 : decode cL_law 499 = .ok (.iconst 2, 1) := by decide +kernel
theorem dL_law_500 : decode cL_law 500 = .ok (.iadd, 1) := by decide +kernel
theorem dL_law_501 : decode cL_law 501 = .ok (.iaload, 1) := by decide +kernel
theorem dL_law_502 : decode cL_law 502 = .ok (.invokevirtual 67, 3) := by decide +kernel
theorem dL_law_505 : decode cL_law 505 = .ok (.if_icmp .eq 265, 3) := by decide +kernel
theorem dL_law_508 : decode cL_law 508 = .ok (.iconst 0, 1) := by decide +kernel
theorem dL_law_509 : decode cL_law 509 = .ok (.ireturn, 1) := by decide +kernel
theorem dL_law_510 : decode cL_law 510 = .ok (.aload_n 1, 1) := by decide +kernel
theorem dL_law_511 : decode cL_law 511 = .ok (.aload_n 0, 1) := by decide +kernel
theorem dL_law_512 : decode cL_law 512 = .ok (.iload_n 3, 1) := by decide +kernel
theorem dL_law_513 : decode cL_law 513 = .ok (.iconst 1, 1) := by decide +kernel
theorem dL_law_514 : decode cL_law 514 = .ok (.iadd, 1) := by decide +kernel
theorem dL_law_515 : decode cL_law 515 = .ok (.iaload, 1) := by decide +kernel
theorem dL_law_516 : decode cL_law 516 = .ok (.invokevirtual 68, 3) := by decide +kernel
theorem dL_law_519 : decode cL_law 519 = .ok (.aload_n 2, 1) := by decide +kernel
theorem dL_law_520 : decode cL_law 520 = .ok (.aload_n 0, 1) := by decide +kernel
theorem dL_law_521 : decode cL_law 521 = .ok (.iload_n 3, 1) := by decide +kernel
theorem dL_law_522 : decode cL_law 522 = .ok (.iconst 1, 1) := by decide +kernel
theorem dL_law_523 : decode cL_law 523 = .ok (.iadd, 1) := by decide +kernel
theorem dL_law_524 : decode cL_law 524 = .ok (.iaload, 1) := by decide +kernel
theorem dL_law_525 : decode cL_law 525 = .ok (.invokevirtual 71, 3) := by decide +kernel
theorem dL_law_528 : decode cL_law 528 = .ok (.if_icmp .eq 242, 3) := by decide +kernel
theorem dL_law_531 : decode cL_law 531 = .ok (.iconst 0, 1) := by decide +kernel
theorem dL_law_532 : decode cL_law 532 = .ok (.ireturn, 1) := by decide +kernel
theorem dL_law_533 : decode cL_law 533 = .ok (.aload_n 1, 1) := by decide +kernel
theorem dL_law_534 : decode cL_law 534 = .ok (.aload_n 0, 1) := by decide +kernel
theorem dL_law_535 : decode cL_law 535 = .ok (.iload_n 3, 1) := by decide +kernel
theorem dL_law_536 : decode cL_law 536 = .ok (.iconst 1, 1) := by decide +kernel
theorem dL_law_537 : decode cL_law 537 = .ok (.iadd, 1) := by decide +kernel
theorem dL_law_538 : decode cL_law 538 = .ok (.iaload, 1) := by decide +kernel
theorem dL_law_539 : decode cL_law 539 = .ok (.invokevirtual 72, 3) := by decide +kernel
theorem dL_law_542 : decode cL_law 542 = .ok (.aload_n 2, 1) := by decide +kernel
theorem dL_law_543 : decode cL_law 543 = .ok (.aload_n 0, 1) := by decide +kernel
theorem dL_law_544 : decode cL_law 544 = .ok (.iload_n 3, 1) := by decide +kernel
theorem dL_law_545 : decode cL_law 545 = .ok (.iconst 1, 1) := by decide +kernel
theorem dL_law_546 : decode cL_law 546 = .ok (.iadd, 1) := by decide +kernel
theorem dL_law_547 : decode cL_law 547 = .ok (.iaload, 1) := by decide +kernel
theorem dL_law_548 : decode cL_law 548 = .ok (.invokevirtual 75, 3) := by decide +kernel
theorem dL_law_551 : decode cL_law 551 = .ok (.if_icmp .eq 219, 3) := by decide +kernel
theorem dL_law_554 : decode cL_law 554 = .ok (.iconst 0, 1) := by decide +kernel
theorem dL_law_555 : decode cL_law 555 = .ok (.ireturn, 1) := by decide +kernel
theorem dL_law_556 : decode cL_law 556 = .ok (.aload_n 1, 1) := by decide +kernel
theorem dL_law_557 : decode cL_law 557 = .ok (.aload_n 0, 1) := by decide +kernel
theorem dL_law_558 : decode cL_law 558 = .ok (.iload_n 3, 1) := by decide +kernel
theorem dL_law_559 : decode cL_law 559 = .ok (.iconst 1, 1) := by decide +kernel
theorem dL_law_560 : decode cL_law 560 = .ok (.iadd, 1) := by decide +kernel
theorem dL_law_561 : decode cL_law 561 = .ok (.iaload, 1) := by decide +kernel
theorem dL_law_562 : decode cL_law 562 = .ok (.aload_n 0, 1) := by decide +kernel
theorem dL_law_563 : decode cL_law 563 = .ok (.iload_n 3, 1) := by decide +kernel
theorem dL_law_564 : decode cL_law 564 = .ok (.iconst 2, 1) := by decide +kernel
theorem dL_law_565 : decode cL_law 565 = .ok (.iadd, 1) := by decide +kernel
theorem dL_law_566 : decode cL_law 566 = .ok (.iaload, 1) := by decide +kernel
theorem dL_law_567 : decode cL_law 567 = .ok (.invokevirtual 76, 3) := by decide +kernel
theorem dL_law_570 : decode cL_law 570 = .ok (.aload_n 2, 1) := by decide +kernel
theorem dL_law_571 : decode cL_law 571 = .ok (.aload_n 0, 1) := by decide +kernel
theorem dL_law_572 : decode cL_law 572 = .ok (.iload_n 3, 1) := by decide +kernel
theorem dL_law_573 : decode cL_law 573 = .ok (.iconst 1, 1) := by decide +kernel
theorem dL_law_574 : decode cL_law 574 = .ok (.iadd, 1) := by decide +kernel
theorem dL_law_575 : decode cL_law 575 = .ok (.iaload, 1) := by decide +kernel
theorem dL_law_576 : decode cL_law 576 = .ok (.aload_n 0, 1) := by decide +kernel
theorem dL_law_577 : decode cL_law 577 = .ok (.iload_n 3, 1) := by decide +kernel
theorem dL_law_578 : decode cL_law 578 = .ok (.iconst 2, 1) := by decide +kernel
theorem dL_law_579 : decode cL_law 579 = .ok (.iadd, 1) := by decide +kernel
theorem dL_law_580 : decode cL_law 580 = .ok (.iaload, 1) := by decide +kernel
theorem dL_law_581 : decode cL_law 581 = .ok (.invokevirtual 79, 3) := by decide +kernel
theorem dL_law_584 : decode cL_law 584 = .ok (.if_icmp .eq 186, 3) := by decide +kernel
theorem dL_law_587 : decode cL_law 587 = .ok (.iconst 0, 1) := by decide +kernel
theorem dL_law_588 : decode cL_law 588 = .ok (.ireturn, 1) := by decide +kernel
theorem dL_law_589 : decode cL_law 589 = .ok (.aload_n 1, 1) := by decide +kernel
theorem dL_law_590 : decode cL_law 590 = .ok (.aload_n 0, 1) := by decide +kernel
theorem dL_law_591 : decode cL_law 591 = .ok (.iload_n 3, 1) := by decide +kernel
theorem dL_law_592 : decode cL_law 592 = .ok (.iconst 1, 1) := by decide +kernel
theorem dL_law_593 : decode cL_law 593 = .ok (.iadd, 1) := by decide +kernel
theorem dL_law_594 : decode cL_law 594 = .ok (.iaload, 1) := by decide +kernel
theorem dL_law_595 : decode cL_law 595 = .ok (.invokevirtual 80, 3) := by decide +kernel
theorem dL_law_598 : decode cL_law 598 = .ok (.aload_n 2, 1) := by decide +kernel
theorem dL_law_599 : decode cL_law 599 = .ok (.aload_n 0, 1) := by decide +kernel
theorem dL_law_600 : decode cL_law 600 = .ok (.iload_n 3, 1) := by decide +kernel
theorem dL_law_601 : decode cL_law 601 = .ok (.iconst 1, 1) := by decide +kernel
theorem dL_law_602 : decode cL_law 602 = .ok (.iadd, 1) := by decide +kernel
theorem dL_law_603 : decode cL_law 603 = .ok (.iaload, 1) := by decide +kernel
theorem dL_law_604 : decode cL_law 604 = .ok (.invokevirtual 83, 3) := by decide +kernel
theorem dL_law_607 : decode cL_law 607 = .ok (.if_icmp .eq 163, 3) := by decide +kernel
theorem dL_law_610 : decode cL_law 610 = .ok (.iconst 0, 1) := by decide +kernel
theorem dL_law_611 : decode cL_law 611 = .ok (.ireturn, 1) := by decide +kernel
theorem dL_law_612 : decode cL_law 612 = .ok (.aload_n 1, 1) := by decide +kernel
theorem dL_law_613 : decode cL_law 613 = .ok (.aload_n 0, 1) := by decide +kernel
theorem dL_law_614 : decode cL_law 614 = .ok (.iload_n 3, 1) := by decide +kernel
theorem dL_law_615 : decode cL_law 615 = .ok (.iconst 1, 1) := by decide +kernel
theorem dL_law_616 : decode cL_law 616 = .ok (.iadd, 1) := by decide +kernel
theorem dL_law_617 : decode cL_law 617 = .ok (.iaload, 1) := by decide +kernel
theorem dL_law_618 : decode cL_law 618 = .ok (.aload_n 0, 1) := by decide +kernel
theorem dL_law_619 : decode cL_law 619 = .ok (.iload_n 3, 1) := by decide +kernel
theorem dL_law_620 : decode cL_law 620 = .ok (.iconst 2, 1) := by decide +kernel
theorem dL_law_621 : decode cL_law 621 = .ok (.iadd, 1) := by decide +kernel
theorem dL_law_622 : decode cL_law 622 = .ok (.iaload, 1) := by decide +kernel
theorem dL_law_623 : decode cL_law 623 = .ok (.invokevirtual 84, 3) := by decide +kernel
theorem dL_law_626 : decode cL_law 626 = .ok (.aload_n 2, 1) := by decide +kernel
theorem dL_law_627 : decode cL_law 627 = .ok (.aload_n 0, 1) := by decide +kernel
theorem dL_law_628 : decode cL_law 628 = .ok (.iload_n 3, 1) := by decide +kernel
theorem dL_law_629 : decode cL_law 629 = .ok (.iconst 1, 1) := by decide +kernel
theorem dL_law_630 : decode cL_law 630 = .ok (.iadd, 1) := by decide +kernel
theorem dL_law_631 : decode cL_law 631 = .ok (.iaload, 1) := by decide +kernel
theorem dL_law_632 : decode cL_law 632 = .ok (.aload_n 0, 1) := by decide +kernel
theorem dL_law_633 : decode cL_law 633 = .ok (.iload_n 3, 1) := by decide +kernel
theorem dL_law_634 : decode cL_law 634 = .ok (.iconst 2, 1) := by decide +kernel
theorem dL_law_635 : decode cL_law 635 = .ok (.iadd, 1) := by decide +kernel
theorem dL_law_636 : decode cL_law 636 = .ok (.iaload, 1) := by decide +kernel
theorem dL_law_637 : decode cL_law 637 = .ok (.invokevirtual 87, 3) := by decide +kernel
theorem dL_law_640 : decode cL_law 640 = .ok (.if_icmp .eq 130, 3) := by decide +kernel
theorem dL_law_643 : decode cL_law 643 = .ok (.iconst 0, 1) := by decide +kernel
theorem dL_law_644 : decode cL_law 644 = .ok (.ireturn, 1) := by decide +kernel
theorem dL_law_645 : decode cL_law 645 = .ok (.aload_n 1, 1) := by decide +kernel
theorem dL_law_646 : decode cL_law 646 = .ok (.aload_n 0, 1) := by decide +kernel
theorem dL_law_647 : decode cL_law 647 = .ok (.iload_n 3, 1) := by decide +kernel
theorem dL_law_648 : decode cL_law 648 = .ok (.iconst 1, 1) := by decide +kernel
theorem dL_law_649 : decode cL_law 649 = .ok (.iadd, 1) := by decide +kernel
theorem dL_law_650 : decode cL_law 650 = .ok (.iaload, 1) := by decide +kernel
theorem dL_law_651 : decode cL_law 651 = .ok (.aload_n 0, 1) := by decide +kernel
theorem dL_law_652 : decode cL_law 652 = .ok (.iload_n 3, 1) := by decide +kernel
theorem dL_law_653 : decode cL_law 653 = .ok (.iconst 2, 1) := by decide +kernel
theorem dL_law_654 : decode cL_law 654 = .ok (.iadd, 1) := by decide +kernel
theorem dL_law_655 : decode cL_law 655 = .ok (.iaload, 1) := by decide +kernel
theorem dL_law_656 : decode cL_law 656 = .ok (.invokevirtual 88, 3) := by decide +kernel
theorem dL_law_659 : decode cL_law 659 = .ok (.aload_n 2, 1) := by decide +kernel
theorem dL_law_660 : decode cL_law 660 = .ok (.aload_n 0, 1) := by decide +kernel
theorem dL_law_661 : decode cL_law 661 = .ok (.iload_n 3, 1) := by decide +kernel
theorem dL_law_662 : decode cL_law 662 = .ok (.iconst 1, 1) := by decide +kernel
theorem dL_law_663 : decode cL_law 663 = .ok (.iadd, 1) := by decide +kernel
theorem dL_law_664 : decode cL_law 664 = .ok (.iaload, 1) := by decide +kernel
theorem dL_law_665 : decode cL_law 665 = .ok (.aload_n 0, 1) := by decide +kernel
theorem dL_law_666 : decode cL_law 666 = .ok (.iload_n 3, 1) := by decide +kernel
theorem dL_law_667 : decode cL_law 667 = .ok (.iconst 2, 1) := by decide +kernel
theorem dL_law_668 : decode cL_law 668 = .ok (.iadd, 1) := by decide +kernel
theorem dL_law_669 : decode cL_law 669 = .ok (.iaload, 1) := by decide +kernel
theorem dL_law_670 : decode cL_law 670 = .ok (.invokevirtual 91, 3) := by decide +kernel
theorem dL_law_673 : decode cL_law 673 = .ok (.if_icmp .eq 97, 3) := by decide +kernel
theorem dL_law_676 : decode cL_law 676 = .ok (.iconst 0, 1) := by decide +kernel
theorem dL_law_677 : decode cL_law 677 = .ok (.ireturn, 1) := by decide +kernel
theorem dL_law_678 : decode cL_law 678 = .ok (.aload_n 1, 1) := by decide +kernel
theorem dL_law_679 : decode cL_law 679 = .ok (.aload_n 0, 1) := by decide +kernel
theorem dL_law_680 : decode cL_law 680 = .ok (.iload_n 3, 1) := by decide +kernel
theorem dL_law_681 : decode cL_law 681 = .ok (.iconst 1, 1) := by decide +kernel
theorem dL_law_682 : decode cL_law 682 = .ok (.iadd, 1) := by decide +kernel
theorem dL_law_683 : decode cL_law 683 = .ok (.iaload, 1) := by decide +kernel
theorem dL_law_684 : decode cL_law 684 = .ok (.invokevirtual 92, 3) := by decide +kernel
theorem dL_law_687 : decode cL_law 687 = .ok (.aload_n 2, 1) := by decide +kernel
theorem dL_law_688 : decode cL_law 688 = .ok (.aload_n 0, 1) := by decide +kernel
theorem dL_law_689 : decode cL_law 689 = .ok (.iload_n 3, 1) := by decide +kernel
theorem dL_law_690 : decode cL_law 690 = .ok (.iconst 1, 1) := by decide +kernel
theorem dL_law_691 : decode cL_law 691 = .ok (.iadd, 1) := by decide +kernel
theorem dL_law_692 : decode cL_law 692 = .ok (.iaload, 1) := by decide +kernel
theorem dL_law_693 : decode cL_law 693 = .ok (.invokevirtual 95, 3) := by decide +kernel
theorem dL_law_696 : decode cL_law 696 = .ok (.if_icmp .eq 74, 3) := by decide +kernel
theorem dL_law_699 : decode cL_law 699 = .ok (.iconst 0, 1) := by decide +kernel
theorem dL_law_700 : decode cL_law 700 = .ok (.ireturn, 1) := by decide +kernel
theorem dL_law_701 : decode cL_law 701 = .ok (.aload_n 1, 1) := by decide +kernel
theorem dL_law_702 : decode cL_law 702 = .ok (.aload_n 0, 1) := by decide +kernel
theorem dL_law_703 : decode cL_law 703 = .ok (.iload_n 3, 1) := by decide +kernel
theorem dL_law_704 : decode cL_law 704 = .ok (.iconst 1, 1) := by decide +kernel
theorem dL_law_705 : decode cL_law 705 = .ok (.iadd, 1) := by decide +kernel
theorem dL_law_706 : decode cL_law 706 = .ok (.iaload, 1) := by decide +kernel
theorem dL_law_707 : decode cL_law 707 = .ok (.invokevirtual 96, 3) := by decide +kernel
theorem dL_law_710 : decode cL_law 710 = .ok (.aload_n 2, 1) := by decide +kernel
theorem dL_law_711 : decode cL_law 711 = .ok (.aload_n 0, 1) := by decide +kernel
theorem dL_law_712 : decode cL_law 712 = .ok (.iload_n 3, 1) := by decide +kernel
theorem dL_law_713 : decode cL_law 713 = .ok (.iconst 1, 1) := by decide +kernel
theorem dL_law_714 : decode cL_law 714 = .ok (.iadd, 1) := by decide +kernel
theorem dL_law_715 : decode cL_law 715 = .ok (.iaload, 1) := by decide +kernel
theorem dL_law_716 : decode cL_law 716 = .ok (.invokevirtual 99, 3) := by decide +kernel
theorem dL_law_719 : decode cL_law 719 = .ok (.if_icmp .eq 51, 3) := by decide +kernel
theorem dL_law_722 : decode cL_law 722 = .ok (.iconst 0, 1) := by decide +kernel
theorem dL_law_723 : decode cL_law 723 = .ok (.ireturn, 1) := by decide +kernel
theorem dL_law_724 : decode cL_law 724 = .ok (.aload_n 1, 1) := by decide +kernel
theorem dL_law_725 : decode cL_law 725 = .ok (.aload_n 0, 1) := by decide +kernel
theorem dL_law_726 : decode cL_law 726 = .ok (.iload_n 3, 1) := by decide +kernel
theorem dL_law_727 : decode cL_law 727 = .ok (.iconst 1, 1) := by decide +kernel
theorem dL_law_728 : decode cL_law 728 = .ok (.iadd, 1) := by decide +kernel
theorem dL_law_729 : decode cL_law 729 = .ok (.iaload, 1) := by decide +kernel
theorem dL_law_730 : decode cL_law 730 = .ok (.invokevirtual 100, 3) := by decide +kernel
theorem dL_law_733 : decode cL_law 733 = .ok (.aload_n 2, 1) := by decide +kernel
theorem dL_law_734 : decode cL_law 734 = .ok (.aload_n 0, 1) := by decide +kernel
theorem dL_law_735 : decode cL_law 735 = .ok (.iload_n 3, 1) := by decide +kernel
theorem dL_law_736 : decode cL_law 736 = .ok (.iconst 1, 1) := by decide +kernel
theorem dL_law_737 : decode cL_law 737 = .ok (.iadd, 1) := by decide +kernel
theorem dL_law_738 : decode cL_law 738 = .ok (.iaload, 1) := by decide +kernel
theorem dL_law_739 : decode cL_law 739 = .ok (.invokevirtual 103, 3) := by decide +kernel
theorem dL_law_742 : decode cL_law 742 = .ok (.if_icmp .eq 28, 3) := by decide +kernel
theorem dL_law_745 : decode cL_law 745 = .ok (.iconst 0, 1) := by decide +kernel
theorem dL_law_746 : decode cL_law 746 = .ok (.ireturn, 1) := by decide +kernel
theorem dL_law_747 : decode cL_law 747 = .ok (.aload_n 1, 1) := by decide +kernel
theorem dL_law_748 : decode cL_law 748 = .ok (.aload_n 0, 1) := by decide +kernel
theorem dL_law_749 : decode cL_law 749 = .ok (.iload_n 3, 1) := by decide +kernel
theorem dL_law_750 : decode cL_law 750 = .ok (.iconst 1, 1) := by decide +kernel
theorem dL_law_751 : decode cL_law 751 = .ok (.iadd, 1) := by decide +kernel
theorem dL_law_752 : decode cL_law 752 = .ok (.iaload, 1) := by decide +kernel
theorem dL_law_753 : decode cL_law 753 = .ok (.invokevirtual 104, 3) := by decide +kernel
theorem dL_law_756 : decode cL_law 756 = .ok (.aload_n 2, 1) := by decide +kernel
theorem dL_law_757 : decode cL_law 757 = .ok (.aload_n 0, 1) := by decide +kernel
theorem dL_law_758 : decode cL_law 758 = .ok (.iload_n 3, 1) := by decide +kernel
theorem dL_law_759 : decode cL_law 759 = .ok (.iconst 1, 1) := by decide +kernel
theorem dL_law_760 : decode cL_law 760 = .ok (.iadd, 1) := by decide +kernel
theorem dL_law_761 : decode cL_law 761 = .ok (.iaload, 1) := by decide +kernel
theorem dL_law_762 : decode cL_law 762 = .ok (.invokevirtual 107, 3) := by decide +kernel
theorem dL_law_765 : decode cL_law 765 = .ok (.if_icmp .eq 5, 3) := by decide +kernel
theorem dL_law_768 : decode cL_law 768 = .ok (.iconst 0, 1) := by decide +kernel
theorem dL_law_769 : decode cL_law 769 = .ok (.ireturn, 1) := by decide +kernel
theorem dL_law_770 : decode cL_law 770 = .ok (.iinc 3 3, 3) := by decide +kernel
theorem dL_law_773 : decode cL_law 773 = .ok (.goto (-755), 3) := by decide +kernel
theorem dL_law_776 : decode cL_law 776 = .ok (.iconst 1, 1) := by decide +kernel
theorem dL_law_777 : decode cL_law 777 = .ok (.ireturn, 1) := by decide +kernel
abbrev vwCl : List vw_C := [(RX0, TX0, 7), (RX1, TX1, 3), (RX2, TX2, 7), (RX3, TX3, 7)]

