theorem dX2_howManyFree_1 : decode cX2_howManyFree 1 = .ok (.invokevirtual 90, 3) := by decide +kernel
theorem dX2_howManyFree_4 : decode cX2_howManyFree 4 = .ok (.aload_n 0, 1) := by decide +kernel
theorem dX2_howManyFree_5 : decode cX2_howManyFree 5 = .ok (.getfield 10, 3) := by decide +kernel
theorem dX2_howManyFree_8 : decode cX2_howManyFree 8 = .ok (.getfield 83, 3) := by decide +kernel
theorem dX2_howManyFree_11 : decode cX2_howManyFree 11 = .ok (.invokestatic 158, 3) := by decide +kernel
theorem dX2_howManyFree_14 : decode cX2_howManyFree 14 = .ok (.isub, 1) := by decide +kernel
theorem dX2_howManyFree_15 : decode cX2_howManyFree 15 = .ok (.ireturn, 1) := by decide +kernel
theorem dX2_nextOfSize_0 : decode cX2_nextOfSize 0 = .ok (.iload_n 0, 1) := by decide +kernel
theorem dX2_nextOfSize_1 : decode cX2_nextOfSize 1 = .ok (.iload_n 0, 1) := by decide +kernel
theorem dX2_nextOfSize_2 : decode cX2_nextOfSize 2 = .ok (.ineg, 1) := by decide +kernel
theorem dX2_nextOfSize_3 : decode cX2_nextOfSize 3 = .ok (.iand, 1) := by decide +kernel
theorem dX2_nextOfSize_4 : decode cX2_nextOfSize 4 = .ok (.iconst 1, 1) := by decide +kernel
theorem dX2_nextOfSize_5 : decode cX2_nextOfSize 5 = .ok (.invokestatic 177, 3) := by decide +kernel
theorem dX2_nextOfSize_8 : decode cX2_nextOfSize 8 = .ok (.istore_n 1, 1) := by decide +kernel
theorem dX2_nextOfSize_9 : decode cX2_nextOfSize 9 = .ok (.iload_n 0, 1) := by decide +kernel
theorem dX2_nextOfSize_10 : decode cX2_nextOfSize 10 = .ok (.iload_n 1, 1) := by decide +kernel
theorem dX2_nextOfSize_11 : decode cX2_nextOfSize 11 = .ok (.iadd, 1) := by decide +kernel
theorem dX2_nextOfSize_12 : decode cX2_nextOfSize 12 = .ok (.istore_n 2, 1) := by decide +kernel
theorem dX2_nextOfSize_13 : decode cX2_nextOfSize 13 = .ok (.iload_n 0, 1) := by decide +kernel
theorem dX2_nextOfSize_14 : decode cX2_nextOfSize 14 = .ok (.iload_n 2, 1) := by decide +kernel
theorem dX2_nextOfSize_15 : decode cX2_nextOfSize 15 = .ok (.ixor, 1) := by decide +kernel
theorem dX2_nextOfSize_16 : decode cX2_nextOfSize 16 = .ok (.iconst 2, 1) := by decide +kernel
theorem dX2_nextOfSize_17 : decode cX2_nextOfSize 17 = .ok (.ishr, 1) := by decide +kernel
theorem dX2_nextOfSize_18 : decode cX2_nextOfSize 18 = .ok (.iload_n 1, 1) := by decide +kernel
theorem dX2_nextOfSize_19 : decode cX2_nextOfSize 19 = .ok (.idiv, 1) := by decide +kernel
theorem dX2_nextOfSize_20 : decode cX2_nextOfSize 20 = .ok (.istore_n 3, 1) := by decide +kernel
theorem dX2_nextOfSize_21 : decode cX2_nextOfSize 21 = .ok (.iload_n 2, 1) := by decide +kernel
theorem dX2_nextOfSize_22 : decode cX2_nextOfSize 22 = .ok (.iload_n 3, 1) := by decide +kernel
theorem dX2_nextOfSize_23 : decode cX2_nextOfSize 23 = .ok (.ior, 1) := by decide +kernel
theorem dX2_nextOfSize_24 : decode cX2_nextOfSize 24 = .ok (.ireturn, 1) := by decide +kernel
set_option maxRecDepth 20000 in
theorem ggX2_upperLoss_X2_places : GoodIn wsX2_upperLoss wsX2_places := goodIn_r _ [7, 1, 8, 9, 10, 11, 12, 13, 14, 15, 16, 17, 18, 19, 20, 21] (by decide +kernel) (by decide +kernel)
set_option maxRecDepth 20000 in
theorem gX2_upperLoss_X2_places : GoodIn wsX2_upperLoss (wsV RX2 90 RX2 yX2_places wsX2_places) := goodIn_app (goodIn_of _ (by decide +kernel)) ggX2_upperLoss_X2_places
theorem dX2_upperLoss_0 : decode cX2_upperLoss 0 = .ok (.aload_n 0, 1) := by decide +kernel
theorem dX2_upperLoss_1 : decode cX2_upperLoss 1 = .ok (.getfield 10, 3) := by decide +kernel
theorem dX2_upperLoss_4 : decode cX2_upperLoss 4 = .ok (.getfield 50, 3) := by decide +kernel
theorem dX2_upperLoss_7 : decode cX2_upperLoss 7 = .ok (.i2l, 1) := by decide +kernel
theorem dX2_upperLoss_8 : decode cX2_upperLoss 8 = .ok (.lstore_n 2, 1) := by decide +kernel
theorem dX2_upperLoss_9 : decode cX2_upperLoss 9 = .ok (.aload_n 0, 1) := by decide +kernel
theorem dX2_upperLoss_10 : decode cX2_upperLoss 10 = .ok (.getfield 10, 3) := by decide +kernel
theorem dX2_upperLoss_13 : decode cX2_upperLoss 13 = .ok (.getfield 47, 3) := by decide +kernel
theorem dX2_upperLoss_16 : decode cX2_upperLoss 16 = .ok (.i2l, 1) := by decide +kernel
theorem dX2_upperLoss_17 : decode cX2_upperLoss 17 = .ok (.lstore 4, 2) := by decide +kernel
theorem dX2_upperLoss_19 : decode cX2_upperLoss 19 = .ok (.aload_n 0, 1) := by decide +kernel
theorem dX2_upperLoss_20 : decode cX2_upperLoss 20 = .ok (.invokevirtual 90, 3) := by decide +kernel
theorem dX2_upperLoss_23 : decode cX2_upperLoss 23 = .ok (.iconst 1, 1) := by decide +kernel
theorem dX2_upperLoss_24 : decode cX2_upperLoss 24 = .ok (.ishr, 1) := by decide +kernel
theorem dX2_upperLoss_25 : decode cX2_upperLoss 25 = .ok (.istore 6, 2) := by decide +kernel
theorem dX2_upperLoss_27 : decode cX2_upperLoss 27 = .ok (.iload 6, 2) := by decide +kernel
theorem dX2_upperLoss_29 : decode cX2_upperLoss 29 = .ok (.ifCond .le 57, 3) := by decide +kernel
theorem dX2_upperLoss_32 : decode cX2_upperLoss 32 = .ok (.iload_n 1, 1) := by decide +kernel
theorem dX2_upperLoss_33 : decode cX2_upperLoss 33 = .ok (.iload 6, 2) := by decide +kernel
theorem dX2_upperLoss_35 : decode cX2_upperLoss 35 = .ok (.iand, 1) := by decide +kernel
theorem dX2_upperLoss_36 : decode cX2_upperLoss 36 = .ok (.ifCond .eq 7, 3) := by decide +kernel
theorem dX2_upperLoss_39 : decode cX2_upperLoss 39 = .ok (.iconst 1, 1) := by decide +kernel
theorem dX2_upperLoss_40 : decode cX2_upperLoss 40 = .ok (.goto 4, 3) := by decide +kernel
theorem dX2_upperLoss_43 : decode cX2_upperLoss 43 = .ok (.iconst 0, 1) := by decide +kernel
theorem dX2_upperLoss_44 : decode cX2_upperLoss 44 = .ok (.istore 7, 2) := by decide +kernel
theorem dX2_upperLoss_46 : decode cX2_upperLoss 46 = .ok (.iload 7, 2) := by decide +kernel
theorem dX2_upperLoss_48 : decode cX2_upperLoss 48 = .ok (.ifCond .eq 9, 3) := by decide +kernel
theorem dX2_upperLoss_51 : decode cX2_upperLoss 51 = .ok (.lload_n 2, 1) := by decide +kernel
theorem dX2_upperLoss_52 : decode cX2_upperLoss 52 = .ok (.lload_n 2, 1) := by decide +kernel
theorem dX2_upperLoss_53 : decode cX2_upperLoss 53 = .ok (.lmul, 1) := by decide +kernel
theorem dX2_upperLoss_54 : decode cX2_upperLoss 54 = .ok (.goto 15, 3) := by decide +kernel
theorem dX2_upperLoss_57 : decode cX2_upperLoss 57 = .ok (.ldc2_w 182, 3) := by decide +kernel
theorem dX2_upperLoss_60 : decode cX2_upperLoss 60 = .ok (.lload_n 2, 1) := by decide +kernel
theorem dX2_upperLoss_61 : decode cX2_upperLoss 61 = .ok (.lmul, 1) := by decide +kernel
theorem dX2_upperLoss_62 : decode cX2_upperLoss 62 = .ok (.lload 4, 2) := by decide +kernel
theorem dX2_upperLoss_64 : decode cX2_upperLoss 64 = .ok (.lmul, 1) := by decide +kernel
theorem dX2_upperLoss_65 : decode cX2_upperLoss 65 = .ok (.lload_n 2, 1) := by decide +kernel
theorem dX2_upperLoss_66 : decode cX2_upperLoss 66 = .ok (.lload_n 2, 1) := by decide +kernel
theorem dX2_upperLoss_67 : decode cX2_upperLoss 67 = .ok (.lmul, 1) := by decide +kernel
theorem dX2_upperLoss_68 : decode cX2_upperLoss 68 = .ok (.lsub, 1) := by decide +kernel
theorem dX2_upperLoss_69 : decode cX2_upperLoss 69 = .ok (.lstore_n 2, 1) := by decide +kernel
theorem dX2_upperLoss_70 : decode cX2_upperLoss 70 = .ok (.lload 4, 2) := by decide +kernel
theorem dX2_upperLoss_72 : decode cX2_upperLoss 72 = .ok (.lload 4, 2) := by decide +kernel
theorem dX2_upperLoss_74 : decode cX2_upperLoss 74 = .ok (.lmul, 1) := by decide +kernel
theorem dX2_upperLoss_75 : decode cX2_upperLoss 75 = .ok (.lstore 4, 2) := by decide +kernel
theorem dX2_upperLoss_77 : decode cX2_upperLoss 77 = .ok (.iload 6, 2) := by decide +kernel
theorem dX2_upperLoss_79 : decode cX2_upperLoss 79 = .ok (.iconst 1, 1) := by decide +kernel
theorem dX2_upperLoss_80 : decode cX2_upperLoss 80 = .ok (.ishr, 1) := by decide +kernel
theorem dX2_upperLoss_81 : decode cX2_upperLoss 81 = .ok (.istore 6, 2) := by decide +kernel
theorem dX2_upperLoss_83 : decode cX2_upperLoss 83 = .ok (.goto (-56), 3) := by decide +kernel
theorem dX2_upperLoss_86 : decode cX2_upperLoss 86 = .ok (.lload_n 2, 1) := by decide +kernel
theorem dX2_upperLoss_87 : decode cX2_upperLoss 87 = .ok (.lreturn, 1) := by decide +kernel
theorem dX2_lowerLoss_0 : decode cX2_lowerLoss 0 = .ok (.aload_n 0, 1) := by decide +kernel
theorem dX2_lowerLoss_1 : decode cX2_lowerLoss 1 = .ok (.getfield 10, 3) := by decide +kernel
theorem dX2_lowerLoss_4 : decode cX2_lowerLoss 4 = .ok (.getfield 47, 3) := by decide +kernel
theorem dX2_lowerLoss_7 : decode cX2_lowerLoss 7 = .ok (.i2l, 1) := by decide +kernel
theorem dX2_lowerLoss_8 : decode cX2_lowerLoss 8 = .ok (.lstore_n 1, 1) := by decide +kernel
theorem dX2_lowerLoss_9 : decode cX2_lowerLoss 9 = .ok (.iconst 0, 1) := by decide +kernel
theorem dX2_lowerLoss_10 : decode cX2_lowerLoss 10 = .ok (.istore_n 3, 1) := by decide +kernel
theorem dX2_lowerLoss_11 : decode cX2_lowerLoss 11 = .ok (.iload_n 3, 1) := by decide +kernel
theorem dX2_lowerLoss_12 : decode cX2_lowerLoss 12 = .ok (.aload_n 0, 1) := by decide +kernel
theorem dX2_lowerLoss_13 : decode cX2_lowerLoss 13 = .ok (.getfield 10, 3) := by decide +kernel
theorem dX2_lowerLoss_16 : decode cX2_lowerLoss 16 = .ok (.getfield 40, 3) := by decide +kernel
theorem dX2_lowerLoss_19 : decode cX2_lowerLoss 19 = .ok (.if_icmp .ge 13, 3) := by decide +kernel
theorem dX2_lowerLoss_22 : decode cX2_lowerLoss 22 = .ok (.lload_n 1, 1) := by decide +kernel
theorem dX2_lowerLoss_23 : decode cX2_lowerLoss 23 = .ok (.lload_n 1, 1) := by decide +kernel
theorem dX2_lowerLoss_24 : decode cX2_lowerLoss 24 = .ok (.lmul, 1) := by decide +kernel
theorem dX2_lowerLoss_25 : decode cX2_lowerLoss 25 = .ok (.lstore_n 1, 1) := by decide +kernel
theorem dX2_lowerLoss_26 : decode cX2_lowerLoss 26 = .ok (.iinc 3 1, 3) := by decide +kernel
theorem dX2_lowerLoss_29 : decode cX2_lowerLoss 29 = .ok (.goto (-18), 3) := by decide +kernel
theorem dX2_lowerLoss_32 : decode cX2_lowerLoss 32 = .ok (.lload_n 1, 1) := by decide +kernel
theorem dX2_lowerLoss_33 : decode cX2_lowerLoss 33 = .ok (.lreturn, 1) := by decide +kernel
theorem dX2_commonDivisor_0 : decode cX2_commonDivisor 0 = .ok (.lload_n 2, 1) := by decide +kernel
theorem dX2_commonDivisor_1 : decode cX2_commonDivisor 1 = .ok (.lstore 4, 2) := by decide +kernel
theorem dX2_commonDivisor_3 : decode cX2_commonDivisor 3 = .ok (.lload_n 0, 1) := by decide +kernel
theorem dX2_commonDivisor_4 : decode cX2_commonDivisor 4 = .ok (.lstore 6, 2) := by decide +kernel
theorem dX2_commonDivisor_6 : decode cX2_commonDivisor 6 = .ok (.iconst 0, 1) := by decide +kernel
theorem dX2_commonDivisor_7 : decode cX2_commonDivisor 7 = .ok (.istore 8, 2) := by decide +kernel
theorem dX2_commonDivisor_9 : decode cX2_commonDivisor 9 = .ok (.iload 8, 2) := by decide +kernel
theorem dX2_commonDivisor_11 : decode cX2_commonDivisor 11 = .ok (.bipush 100, 2) := by decide +kernel
theorem dX2_commonDivisor_13 : decode cX2_commonDivisor 13 = .ok (.if_icmp .ge 31, 3) := by decide +kernel
theorem dX2_commonDivisor_16 : decode cX2_commonDivisor 16 = .ok (.lload 6, 2) := by decide +kernel
theorem dX2_commonDivisor_18 : decode cX2_commonDivisor 18 = .ok (.lconst 0, 1) := by decide +kernel
theorem dX2_commonDivisor_19 : decode cX2_commonDivisor 19 = .ok (.lcmp, 1) := by decide +kernel
theorem dX2_commonDivisor_20 : decode cX2_commonDivisor 20 = .ok (.ifCond .eq 24, 3) := by decide +kernel
theorem dX2_commonDivisor_23 : decode cX2_commonDivisor 23 = .ok (.lload 4, 2) := by decide +kernel
theorem dX2_commonDivisor_25 : decode cX2_commonDivisor 25 = .ok (.lload 6, 2) := by decide +kernel
theorem dX2_commonDivisor_27 : decode cX2_commonDivisor 27 = .ok (.lrem, 1) := by decide +kernel
theorem dX2_commonDivisor_28 : decode cX2_commonDivisor 28 = .ok (.lstore 9, 2) := by decide +kernel
theorem dX2_commonDivisor_30 : decode cX2_commonDivisor 30 = .ok (.lload 6, 2) := by decide +kernel
theorem dX2_commonDivisor_32 : decode cX2_commonDivisor 32 = .ok (.lstore 4, 2) := by decide +kernel
theorem dX2_commonDivisor_34 : decode cX2_commonDivisor 34 = .ok (.lload 9, 2) := by decide +kernel
theorem dX2_commonDivisor_36 : decode cX2_commonDivisor 36 = .ok (.lstore 6, 2) := by decide +kernel
theorem dX2_commonDivisor_38 : decode cX2_commonDivisor 38 = .ok (.iinc 8 1, 3) := by decide +kernel
theorem dX2_commonDivisor_41 : decode cX2_commonDivisor 41 = .ok (.goto (-32), 3) := by decide +kernel
theorem dX2_commonDivisor_44 : decode cX2_commonDivisor 44 = .ok (.lload 4, 2) := by decide +kernel
theorem dX2_commonDivisor_46 : decode cX2_commonDivisor 46 = .ok (.lreturn, 1) := by decide +kernel
set_option maxRecDepth 20000 in
theorem ggX2_howManyBetter_X2_upperLoss : GoodIn wsX2_howManyBetter wsX2_upperLoss := goodIn_r _ [5, 6, 7, 8, 9, 10, 4, 11, 12, 13, 14, 15, 16, 17, 18, 19, 20, 21, 22, 23, 24, 25] (by decide +kernel) (by decide +kernel)
set_option maxRecDepth 20000 in
theorem gX2_howManyBetter_X2_upperLoss : GoodIn wsX2_howManyBetter (wsV RX2 61 RX2 yX2_upperLoss wsX2_upperLoss) := goodIn_app (goodIn_of _ (by decide +kernel)) ggX2_howManyBetter_X2_upperLoss
set_option maxRecDepth 20000 in
theorem ggX2_howManyBetter_X2_places : GoodIn wsX2_howManyBetter wsX2_places := goodIn_r _ [11, 6, 12, 13, 14, 15, 16, 17, 18, 19, 20, 21, 22, 23, 24, 25] (by decide +kernel) (by decide +kernel)
set_option maxRecDepth 20000 in
theorem gX2_howManyBetter_X2_places : GoodIn wsX2_howManyBetter (wsV RX2 90 RX2 yX2_places wsX2_places) := goodIn_app (goodIn_of _ (by decide +kernel)) ggX2_howManyBetter_X2_places
theorem dX2_howManyBetter_0 : decode cX2_howManyBetter 0 = .ok (.aload_n 0, 1) := by decide +kernel
theorem dX2_howManyBetter_1 : decode cX2_howManyBetter 1 = .ok (.iload_n 1, 1) := by decide +kernel
theorem dX2_howManyBetter_2 : decode cX2_howManyBetter 2 = .ok (.invokevirtual 61, 3) := by decide +kernel
theorem dX2_howManyBetter_5 : decode cX2_howManyBetter 5 = .ok (.lstore_n 2, 1) := by decide +kernel
theorem dX2_howManyBetter_6 : decode cX2_howManyBetter 6 = .ok (.iconst 0, 1) := by decide +kernel
theorem dX2_howManyBetter_7 : decode cX2_howManyBetter 7 = .ok (.istore 4, 2) := by decide +kernel
theorem dX2_howManyBetter_9 : decode cX2_howManyBetter 9 = .ok (.iconst 0, 1) := by decide +kernel
theorem dX2_howManyBetter_10 : decode cX2_howManyBetter 10 = .ok (.istore 5, 2) := by decide +kernel
theorem dX2_howManyBetter_12 : decode cX2_howManyBetter 12 = .ok (.iload 5, 2) := by decide +kernel
theorem dX2_howManyBetter_14 : decode cX2_howManyBetter 14 = .ok (.aload_n 0, 1) := by decide +kernel
theorem dX2_howManyBetter_15 : decode cX2_howManyBetter 15 = .ok (.invokevirtual 90, 3) := by decide +kernel
theorem dX2_howManyBetter_18 : decode cX2_howManyBetter 18 = .ok (.if_icmp .ge 40, 3) := by decide +kernel
theorem dX2_howManyBetter_21 : decode cX2_howManyBetter 21 = .ok (.aload_n 0, 1) := by decide +kernel
theorem dX2_howManyBetter_22 : decode cX2_howManyBetter 22 = .ok (.iload 5, 2) := by decide +kernel
theorem dX2_howManyBetter_24 : decode cX2_howManyBetter 24 = .ok (.invokevirtual 61, 3) := by decide +kernel
theorem dX2_howManyBetter_27 : decode cX2_howManyBetter 27 = .ok (.lstore 6, 2) := by decide +kernel
theorem dX2_howManyBetter_29 : decode cX2_howManyBetter 29 = .ok (.lload 6, 2) := by decide +kernel
theorem dX2_howManyBetter_31 : decode cX2_howManyBetter 31 = .ok (.lload_n 2, 1) := by decide +kernel
theorem dX2_howManyBetter_32 : decode cX2_howManyBetter 32 = .ok (.lcmp, 1) := by decide +kernel
theorem dX2_howManyBetter_33 : decode cX2_howManyBetter 33 = .ok (.ifCond .lt 16, 3) := by decide +kernel
theorem dX2_howManyBetter_36 : decode cX2_howManyBetter 36 = .ok (.lload 6, 2) := by decide +kernel
theorem dX2_howManyBetter_38 : decode cX2_howManyBetter 38 = .ok (.lload_n 2, 1) := by decide +kernel
theorem dX2_howManyBetter_39 : decode cX2_howManyBetter 39 = .ok (.lcmp, 1) := by decide +kernel
theorem dX2_howManyBetter_40 : decode cX2_howManyBetter 40 = .ok (.ifCond .ne 12, 3) := by decide +kernel
theorem dX2_howManyBetter_43 : decode cX2_howManyBetter 43 = .ok (.iload 5, 2) := by decide +kernel
theorem dX2_howManyBetter_45 : decode cX2_howManyBetter 45 = .ok (.iload_n 1, 1) := by decide +kernel
theorem dX2_howManyBetter_46 : decode cX2_howManyBetter 46 = .ok (.if_icmp .le 6, 3) := by decide +kernel
theorem dX2_howManyBetter_49 : decode cX2_howManyBetter 49 = .ok (.iinc 4 1, 3) := by decide +kernel
theorem dX2_howManyBetter_52 : decode cX2_howManyBetter 52 = .ok (.iinc 5 1, 3) := by decide +kernel
theorem dX2_howManyBetter_55 : decode cX2_howManyBetter 55 = .ok (.goto (-43), 3) := by decide +kernel
theorem dX2_howManyBetter_58 : decode cX2_howManyBetter 58 = .ok (.iload 4, 2) := by decide +kernel
theorem dX2_howManyBetter_60 : decode cX2_howManyBetter 60 = .ok (.ireturn, 1) := by decide +kernel
set_option maxRecDepth 20000 in
theorem ggX2_bitOfRank_X2_places : GoodIn wsX2_bitOfRank wsX2_places := goodIn_r _ [5, 6, 16, 17, 18, 19, 20, 21, 22, 23, 24, 25, 26, 27, 28, 29] (by decide +kernel) (by decide +kernel)
set_option maxRecDepth 20000 in
theorem gX2_bitOfRank_X2_places : GoodIn wsX2_bitOfRank (wsV RX2 90 RX2 yX2_places wsX2_places) := goodIn_app (goodIn_of _ (by decide +kernel)) ggX2_bitOfRank_X2_places
set_option maxRecDepth 20000 in
theorem ggX2_bitOfRank_X2_howManyBetter : GoodIn wsX2_bitOfRank wsX2_howManyBetter := goodIn_r _ [10, 11, 12, 13, 4, 14, 6, 15, 1, 2, 3, 5, 16, 17, 18, 19, 20, 21, 22, 23, 24, 25, 26, 27, 28, 29] (by decide +kernel) (by decide +kernel)
set_option maxRecDepth 20000 in
theorem gX2_bitOfRank_X2_howManyBetter : GoodIn wsX2_bitOfRank (wsV RX2 77 RX2 yX2_howManyBetter wsX2_howManyBetter) := goodIn_app (goodIn_of _ (by decide +kernel)) ggX2_bitOfRank_X2_howManyBetter
theorem dX2_bitOfRank_0 : decode cX2_bitOfRank 0 = .ok (.iconst 0, 1) := by decide +kernel
theorem dX2_bitOfRank_1 : decode cX2_bitOfRank 1 = .ok (.istore_n 2, 1) := by decide +kernel
theorem dX2_bitOfRank_2 : decode cX2_bitOfRank 2 = .ok (.iload_n 2, 1) := by decide +kernel
theorem dX2_bitOfRank_3 : decode cX2_bitOfRank 3 = .ok (.aload_n 0, 1) := by decide +kernel
theorem dX2_bitOfRank_4 : decode cX2_bitOfRank 4 = .ok (.invokevirtual 90, 3) := by decide +kernel
theorem dX2_bitOfRank_7 : decode cX2_bitOfRank 7 = .ok (.if_icmp .ge 20, 3) := by decide +kernel
theorem dX2_bitOfRank_10 : decode cX2_bitOfRank 10 = .ok (.aload_n 0, 1) := by decide +kernel
theorem dX2_bitOfRank_11 : decode cX2_bitOfRank 11 = .ok (.iload_n 2, 1) := by decide +kernel
theorem dX2_bitOfRank_12 : decode cX2_bitOfRank 12 = .ok (.invokevirtual 77, 3) := by decide +kernel
theorem dX2_bitOfRank_15 : decode cX2_bitOfRank 15 = .ok (.iload_n 1, 1) := by decide +kernel
theorem dX2_bitOfRank_16 : decode cX2_bitOfRank 16 = .ok (.if_icmp .ne 5, 3) := by decide +kernel
theorem dX2_bitOfRank_19 : decode cX2_bitOfRank 19 = .ok (.iload_n 2, 1) := by decide +kernel
theorem dX2_bitOfRank_20 : decode cX2_bitOfRank 20 = .ok (.ireturn, 1) := by decide +kernel
theorem dX2_bitOfRank_21 : decode cX2_bitOfRank 21 = .ok (.iinc 2 1, 3) := by decide +kernel
theorem dX2_bitOfRank_24 : decode cX2_bitOfRank 24 = .ok (.goto (-22), 3) := by decide +kernel
theorem dX2_bitOfRank_27 : decode cX2_bitOfRank 27 = .ok (.iconst (-1), 1) := by decide +kernel
theorem dX2_bitOfRank_28 : decode cX2_bitOfRank 28 = .ok (.ireturn, 1) := by decide +kernel
theorem dX2_codedOf_0 : decode cX2_codedOf 0 = .ok (.iload_n 0, 1) := by decide +kernel
theorem dX2_codedOf_1 : decode cX2_codedOf 1 = .ok (.istore_n 1, 1) := by decide +kernel
theorem dX2_codedOf_2 : decode cX2_codedOf 2 = .ok (.iconst 0, 1) := by decide +kernel
theorem dX2_codedOf_3 : decode cX2_codedOf 3 = .ok (.istore_n 2, 1) := by decide +kernel
theorem dX2_codedOf_4 : decode cX2_codedOf 4 = .ok (.iload_n 2, 1) := by decide +kernel
theorem dX2_codedOf_5 : decode cX2_codedOf 5 = .ok (.getstatic 184, 3) := by decide +kernel
theorem dX2_codedOf_8 : decode cX2_codedOf 8 = .ok (.arraylength, 1) := by decide +kernel
theorem dX2_codedOf_9 : decode cX2_codedOf 9 = .ok (.if_icmp .ge 23, 3) := by decide +kernel
theorem dX2_codedOf_12 : decode cX2_codedOf 12 = .ok (.iload_n 1, 1) := by decide +kernel
theorem dX2_codedOf_13 : decode cX2_codedOf 13 = .ok (.iload_n 1, 1) := by decide +kernel
theorem dX2_codedOf_14 : decode cX2_codedOf 14 = .ok (.iconst 1, 1) := by decide +kernel
theorem dX2_codedOf_15 : decode cX2_codedOf 15 = .ok (.iload_n 2, 1) := by decide +kernel
theorem dX2_codedOf_16 : decode cX2_codedOf 16 = .ok (.ishl, 1) := by decide +kernel
theorem dX2_codedOf_17 : decode cX2_codedOf 17 = .ok (.ishr, 1) := by decide +kernel
theorem dX2_codedOf_18 : decode cX2_codedOf 18 = .ok (.getstatic 184, 3) := by decide +kernel
theorem dX2_codedOf_21 : decode cX2_codedOf 21 = .ok (.iload_n 2, 1) := by decide +kernel
theorem dX2_codedOf_22 : decode cX2_codedOf 22 = .ok (.iaload, 1) := by decide +kernel
theorem dX2_codedOf_23 : decode cX2_codedOf 23 = .ok (.iand, 1) := by decide +kernel
theorem dX2_codedOf_24 : decode cX2_codedOf 24 = .ok (.ixor, 1) := by decide +kernel
theorem dX2_codedOf_25 : decode cX2_codedOf 25 = .ok (.istore_n 1, 1) := by decide +kernel
theorem dX2_codedOf_26 : decode cX2_codedOf 26 = .ok (.iinc 2 1, 3) := by decide +kernel
theorem dX2_codedOf_29 : decode cX2_codedOf 29 = .ok (.goto (-25), 3) := by decide +kernel
theorem dX2_codedOf_32 : decode cX2_codedOf 32 = .ok (.iload_n 1, 1) := by decide +kernel
theorem dX2_codedOf_33 : decode cX2_codedOf 33 = .ok (.ireturn, 1) := by decide +kernel
set_option maxRecDepth 20000 in
theorem ggX2_leastWeight_X2_places : GoodIn wsX2_leastWeight wsX2_places := goodIn_r _ [9, 10, 29, 30, 31, 32, 33, 34, 35, 36, 37, 38, 39, 40, 41, 42] (by decide +kernel) (by decide +kernel)
set_option maxRecDepth 20000 in
theorem gX2_leastWeight_X2_places : GoodIn wsX2_leastWeight (wsV RX2 90 RX2 yX2_places wsX2_places) := goodIn_app (goodIn_of _ (by decide +kernel)) ggX2_leastWeight_X2_places
set_option maxRecDepth 20000 in
theorem ggX2_leastWeight_X2_isFree : GoodIn wsX2_leastWeight wsX2_isFree := goodIn_r _ [14, 10, 15, 16, 8, 17, 29, 30, 31, 32, 33, 34, 35, 36, 37, 38, 39, 40, 41, 42] (by decide +kernel) (by decide +kernel)
set_option maxRecDepth 20000 in
theorem gX2_leastWeight_X2_isFree : GoodIn wsX2_leastWeight (wsV RX2 96 RX2 yX2_isFree wsX2_isFree) := goodIn_app (goodIn_of _ (by decide +kernel)) ggX2_leastWeight_X2_isFree
set_option maxRecDepth 20000 in
theorem ggX2_leastWeight_X2_codedOf : GoodIn wsX2_leastWeight wsX2_codedOf := goodIn_r _ [20, 21] (by decide +kernel) (by decide +kernel)
set_option maxRecDepth 20000 in
theorem gX2_leastWeight_X2_codedOf : GoodIn wsX2_leastWeight (va_wsS RX2 93 yX2_codedOf wsX2_codedOf) := goodIn_app (goodIn_of _ (by decide +kernel)) ggX2_leastWeight_X2_codedOf
set_option maxRecDepth 20000 in
theorem ggX2_leastWeight_J6_bitCount_0f7a4 : GoodIn wsX2_leastWeight wsJ6_bitCount_0f7a4 := goodIn_r _ [25, 26, 27, 28] (by decide +kernel) (by decide +kernel)
set_option maxRecDepth 20000 in
theorem gX2_leastWeight_J6_bitCount_0f7a4 : GoodIn wsX2_leastWeight (va_wsS RX2 158 yJ6_bitCount_0f7a4 wsJ6_bitCount_0f7a4) := goodIn_app (goodIn_of _ (by decide +kernel)) ggX2_leastWeight_J6_bitCount_0f7a4
theorem dX2_leastWeight_0 : decode cX2_leastWeight 0 = .ok (.bipush 16, 2) := by decide +kernel
theorem dX2_leastWeight_2 : decode cX2_leastWeight 2 = .ok (.istore_n 1, 1) := by decide +kernel
theorem dX2_leastWeight_3 : decode cX2_leastWeight 3 = .ok (.iconst 0, 1) := by decide +kernel
theorem dX2_leastWeight_4 : decode cX2_leastWeight 4 = .ok (.istore_n 2, 1) := by decide +kernel
theorem dX2_leastWeight_5 : decode cX2_leastWeight 5 = .ok (.iload_n 2, 1) := by decide +kernel
theorem dX2_leastWeight_6 : decode cX2_leastWeight 6 = .ok (.aload_n 0, 1) := by decide +kernel
theorem dX2_leastWeight_7 : decode cX2_leastWeight 7 = .ok (.invokevirtual 90, 3) := by decide +kernel
theorem dX2_leastWeight_10 : decode cX2_leastWeight 10 = .ok (.if_icmp .ge 31, 3) := by decide +kernel
theorem dX2_leastWeight_13 : decode cX2_leastWeight 13 = .ok (.aload_n 0, 1) := by decide +kernel
theorem dX2_leastWeight_14 : decode cX2_leastWeight 14 = .ok (.iload_n 2, 1) := by decide +kernel
theorem dX2_leastWeight_15 : decode cX2_leastWeight 15 = .ok (.invokevirtual 96, 3) := by decide +kernel
theorem dX2_leastWeight_18 : decode cX2_leastWeight 18 = .ok (.ifCond .eq 17, 3) := by decide +kernel
theorem dX2_leastWeight_21 : decode cX2_leastWeight 21 = .ok (.iload_n 1, 1) := by decide +kernel
theorem dX2_leastWeight_22 : decode cX2_leastWeight 22 = .ok (.iconst 1, 1) := by decide +kernel
theorem dX2_leastWeight_23 : decode cX2_leastWeight 23 = .ok (.iload_n 2, 1) := by decide +kernel
theorem dX2_leastWeight_24 : decode cX2_leastWeight 24 = .ok (.ishl, 1) := by decide +kernel
theorem dX2_leastWeight_25 : decode cX2_leastWeight 25 = .ok (.invokestatic 93, 3) := by decide +kernel
theorem dX2_leastWeight_28 : decode cX2_leastWeight 28 = .ok (.invokestatic 158, 3) := by decide +kernel
theorem dX2_leastWeight_31 : decode cX2_leastWeight 31 = .ok (.invokestatic 187, 3) := by decide +kernel
theorem dX2_leastWeight_34 : decode cX2_leastWeight 34 = .ok (.istore_n 1, 1) := by decide +kernel
theorem dX2_leastWeight_35 : decode cX2_leastWeight 35 = .ok (.iinc 2 1, 3) := by decide +kernel
theorem dX2_leastWeight_38 : decode cX2_leastWeight 38 = .ok (.goto (-33), 3) := by decide +kernel
theorem dX2_leastWeight_41 : decode cX2_leastWeight 41 = .ok (.iload_n 1, 1) := by decide +kernel
theorem dX2_leastWeight_42 : decode cX2_leastWeight 42 = .ok (.ireturn, 1) := by decide +kernel
set_option maxRecDepth 20000 in
theorem ggX2_isSentAsWord_X2_codedOf : GoodIn wsX2_isSentAsWord wsX2_codedOf := goodIn_r _ [5, 6] (by decide +kernel) (by decide +kernel)
set_option maxRecDepth 20000 in
theorem gX2_isSentAsWord_X2_codedOf : GoodIn wsX2_isSentAsWord (va_wsS RX2 93 yX2_codedOf wsX2_codedOf) := goodIn_app (goodIn_of _ (by decide +kernel)) ggX2_isSentAsWord_X2_codedOf
theorem dX2_isSentAsWord_0 : decode cX2_isSentAsWord 0 = .ok (.iload_n 1, 1) := by decide +kernel
theorem dX2_isSentAsWord_1 : decode cX2_isSentAsWord 1 = .ok (.invokestatic 93, 3) := by decide +kernel
theorem dX2_isSentAsWord_4 : decode cX2_isSentAsWord 4 = .ok (.aload_n 0, 1) := by decide +kernel
theorem dX2_isSentAsWord_5 : decode cX2_isSentAsWord 5 = .ok (.getfield 10, 3) := by decide +kernel
theorem dX2_isSentAsWord_8 : decode cX2_isSentAsWord 8 = .ok (.getfield 83, 3) := by decide +kernel
theorem dX2_isSentAsWord_11 : decode cX2_isSentAsWord 11 = .ok (.iand, 1) := by decide +kernel
theorem dX2_isSentAsWord_12 : decode cX2_isSentAsWord 12 = .ok (.ifCond .ne 7, 3) := by decide +kernel
theorem dX2_isSentAsWord_15 : decode cX2_isSentAsWord 15 = .ok (.iconst 1, 1) := by decide +kernel
theorem dX2_isSentAsWord_16 : decode cX2_isSentAsWord 16 = .ok (.goto 4, 3) := by decide +kernel
theorem dX2_isSentAsWord_19 : decode cX2_isSentAsWord 19 = .ok (.iconst 0, 1) := by decide +kernel
theorem dX2_isSentAsWord_20 : decode cX2_isSentAsWord 20 = .ok (.ireturn, 1) := by decide +kernel
set_option maxRecDepth 20000 in
theorem ggX2_howManySets_X2_places : GoodIn wsX2_howManySets wsX2_places := goodIn_r _ [5, 6, 26, 27, 28, 29, 30, 31, 32, 33, 34, 35, 36, 37, 38, 39] (by decide +kernel) (by decide +kernel)
set_option maxRecDepth 20000 in
theorem gX2_howManySets_X2_places : GoodIn wsX2_howManySets (wsV RX2 90 RX2 yX2_places wsX2_places) := goodIn_app (goodIn_of _ (by decide +kernel)) ggX2_howManySets_X2_places
set_option maxRecDepth 20000 in
theorem ggX2_howManySets_X2_isSentAsWord : GoodIn wsX2_howManySets wsX2_isSentAsWord := goodIn_r _ [10, 6, 11, 12, 4, 13, 14, 26, 27, 28, 29, 30, 31, 32, 33, 34, 35, 36, 37, 38, 39] (by decide +kernel) (by decide +kernel)
set_option maxRecDepth 20000 in
theorem gX2_howManySets_X2_isSentAsWord : GoodIn wsX2_howManySets (wsV RX2 190 RX2 yX2_isSentAsWord wsX2_isSentAsWord) := goodIn_app (goodIn_of _ (by decide +kernel)) ggX2_howManySets_X2_isSentAsWord
set_option maxRecDepth 20000 in
theorem ggX2_howManySets_X2_openFor : GoodIn wsX2_howManySets wsX2_openFor := goodIn_r _ [18, 14, 6, 26, 27, 28, 29, 30, 31, 32, 33, 34, 35, 36, 37, 38, 39] (by decide +kernel) (by decide +kernel)
set_option maxRecDepth 20000 in
theorem gX2_howManySets_X2_openFor : GoodIn wsX2_howManySets (wsV RX2 155 RX2 yX2_openFor wsX2_openFor) := goodIn_app (goodIn_of _ (by decide +kernel)) ggX2_howManySets_X2_openFor
set_option maxRecDepth 20000 in
theorem ggX2_howManySets_X2_nextOfSize : GoodIn wsX2_howManySets wsX2_nextOfSize := goodIn_r _ [21, 22, 23, 24, 25] (by decide +kernel) (by decide +kernel)
set_option maxRecDepth 20000 in
theorem gX2_howManySets_X2_nextOfSize : GoodIn wsX2_howManySets (va_wsS RX2 193 yX2_nextOfSize wsX2_nextOfSize) := goodIn_app (goodIn_of _ (by decide +kernel)) ggX2_howManySets_X2_nextOfSize
theorem dX2_howManySets_0 : decode cX2_howManySets 0 = .ok (.iconst 1, 1) := by decide +kernel
theorem dX2_howManySets_1 : decode cX2_howManySets 1 = .ok (.aload_n 0, 1) := by decide +kernel
theorem dX2_howManySets_2 : decode cX2_howManySets 2 = .ok (.invokevirtual 90, 3) := by decide +kernel
theorem dX2_howManySets_5 : decode cX2_howManySets 5 = .ok (.ishl, 1) := by decide +kernel
theorem dX2_howManySets_6 : decode cX2_howManySets 6 = .ok (.istore_n 3, 1) := by decide +kernel
theorem dX2_howManySets_7 : decode cX2_howManySets 7 = .ok (.iconst 0, 1) := by decide +kernel
theorem dX2_howManySets_8 : decode cX2_howManySets 8 = .ok (.istore 4, 2) := by decide +kernel
theorem dX2_howManySets_10 : decode cX2_howManySets 10 = .ok (.iconst 1, 1) := by decide +kernel
theorem dX2_howManySets_11 : decode cX2_howManySets 11 = .ok (.iload_n 1, 1) := by decide +kernel
theorem dX2_howManySets_12 : decode cX2_howManySets 12 = .ok (.ishl, 1) := by decide +kernel
theorem dX2_howManySets_13 : decode cX2_howManySets 13 = .ok (.iconst 1, 1) := by decide +kernel
theorem dX2_howManySets_14 : decode cX2_howManySets 14 = .ok (.isub, 1) := by decide +kernel
theorem dX2_howManySets_15 : decode cX2_howManySets 15 = .ok (.istore 5, 2) := by decide +kernel
theorem dX2_howManySets_17 : decode cX2_howManySets 17 = .ok (.iconst 0, 1) := by decide +kernel
theorem dX2_howManySets_18 : decode cX2_howManySets 18 = .ok (.istore 6, 2) := by decide +kernel
theorem dX2_howManySets_20 : decode cX2_howManySets 20 = .ok (.iload 6, 2) := by decide +kernel
theorem dX2_howManySets_22 : decode cX2_howManySets 22 = .ok (.iload_n 3, 1) := by decide +kernel
theorem dX2_howManySets_23 : decode cX2_howManySets 23 = .ok (.if_icmp .ge 50, 3) := by decide +kernel
theorem dX2_howManySets_26 : decode cX2_howManySets 26 = .ok (.iload 5, 2) := by decide +kernel
theorem dX2_howManySets_28 : decode cX2_howManySets 28 = .ok (.iload_n 3, 1) := by decide +kernel
theorem dX2_howManySets_29 : decode cX2_howManySets 29 = .ok (.if_icmp .ge 44, 3) := by decide +kernel
theorem dX2_howManySets_32 : decode cX2_howManySets 32 = .ok (.iload_n 2, 1) := by decide +kernel
theorem dX2_howManySets_33 : decode cX2_howManySets 33 = .ok (.ifCond .eq 15, 3) := by decide +kernel
theorem dX2_howManySets_36 : decode cX2_howManySets 36 = .ok (.aload_n 0, 1) := by decide +kernel
theorem dX2_howManySets_37 : decode cX2_howManySets 37 = .ok (.iload 5, 2) := by decide +kernel
theorem dX2_howManySets_39 : decode cX2_howManySets 39 = .ok (.invokevirtual 190, 3) := by decide +kernel
theorem dX2_howManySets_42 : decode cX2_howManySets 42 = .ok (.ifCond .eq 18, 3) := by decide +kernel
theorem dX2_howManySets_45 : decode cX2_howManySets 45 = .ok (.goto 12, 3) := by decide +kernel
theorem dX2_howManySets_48 : decode cX2_howManySets 48 = .ok (.aload_n 0, 1) := by decide +kernel
theorem dX2_howManySets_49 : decode cX2_howManySets 49 = .ok (.iload 5, 2) := by decide +kernel
theorem dX2_howManySets_51 : decode cX2_howManySets 51 = .ok (.invokevirtual 155, 3) := by decide +kernel
theorem dX2_howManySets_54 : decode cX2_howManySets 54 = .ok (.ifCond .eq 6, 3) := by decide +kernel
theorem dX2_howManySets_57 : decode cX2_howManySets 57 = .ok (.iinc 4 1, 3) := by decide +kernel
theorem dX2_howManySets_60 : decode cX2_howManySets 60 = .ok (.iload 5, 2) := by decide +kernel
theorem dX2_howManySets_62 : decode cX2_howManySets 62 = .ok (.invokestatic 193, 3) := by decide +kernel
theorem dX2_howManySets_65 : decode cX2_howManySets 65 = .ok (.istore 5, 2) := by decide +kernel
theorem dX2_howManySets_67 : decode cX2_howManySets 67 = .ok (.iinc 6 1, 3) := by decide +kernel
theorem dX2_howManySets_70 : decode cX2_howManySets 70 = .ok (.goto (-50), 3) := by decide +kernel
theorem dX2_howManySets_73 : decode cX2_howManySets 73 = .ok (.iload 4, 2) := by decide +kernel
theorem dX2_howManySets_75 : decode cX2_howManySets 75 = .ok (.ireturn, 1) := by decide +kernel
set_option maxRecDepth 20000 in
theorem ggX2_seenOf_X2_places : GoodIn wsX2_seenOf wsX2_places := goodIn_r _ [11, 1, 37, 38, 39, 40, 41, 42, 43, 44, 45, 46, 47, 48, 49, 50] (by decide +kernel) (by decide +kernel)
set_option maxRecDepth 20000 in
theorem gX2_seenOf_X2_places : GoodIn wsX2_seenOf (wsV RX2 90 RX2 yX2_places wsX2_places) := goodIn_app (goodIn_of _ (by decide +kernel)) ggX2_seenOf_X2_places
set_option maxRecDepth 20000 in
theorem ggX2_seenOf_X2_goFirst : GoodIn wsX2_seenOf wsX2_goFirst := goodIn_r _ [15, 2, 16, 17, 10, 18, 19, 20, 21, 22, 23, 24, 25, 37, 38, 39, 40, 41, 42, 43] (by decide +kernel) (by decide +kernel)
set_option maxRecDepth 20000 in
theorem gX2_seenOf_X2_goFirst : GoodIn wsX2_seenOf (wsV RX2 202 RX2 yX2_goFirst wsX2_goFirst) := goodIn_app (goodIn_of _ (by decide +kernel)) ggX2_seenOf_X2_goFirst
set_option maxRecDepth 20000 in
theorem ggX2_seenOf_X2_codedOf : GoodIn wsX2_seenOf wsX2_codedOf := goodIn_r _ [28, 29] (by decide +kernel) (by decide +kernel)
set_option maxRecDepth 20000 in
theorem gX2_seenOf_X2_codedOf : GoodIn wsX2_seenOf (va_wsS RX2 93 yX2_codedOf wsX2_codedOf) := goodIn_app (goodIn_of _ (by decide +kernel)) ggX2_seenOf_X2_codedOf
set_option maxRecDepth 20000 in
theorem ggX2_seenOf_X2_goSecond : GoodIn wsX2_seenOf wsX2_goSecond := goodIn_r _ [33, 2, 34, 35, 10, 36, 37, 38, 39, 40, 41, 42, 43] (by decide +kernel) (by decide +kernel)
set_option maxRecDepth 20000 in
theorem gX2_seenOf_X2_goSecond : GoodIn wsX2_seenOf (wsV RX2 205 RX2 yX2_goSecond wsX2_goSecond) := goodIn_app (goodIn_of _ (by decide +kernel)) ggX2_seenOf_X2_goSecond
theorem dX2_seenOf_0 : decode cX2_seenOf 0 = .ok (.aload_n 0, 1) := by decide +kernel
theorem dX2_seenOf_1 : decode cX2_seenOf 1 = .ok (.getfield 10, 3) := by decide +kernel
theorem dX2_seenOf_4 : decode cX2_seenOf 4 = .ok (.getfield 108, 3) := by decide +kernel
theorem dX2_seenOf_7 : decode cX2_seenOf 7 = .ok (.iconst 0, 1) := by decide +kernel
theorem dX2_seenOf_8 : decode cX2_seenOf 8 = .ok (.aload_n 0, 1) := by decide +kernel
theorem dX2_seenOf_9 : decode cX2_seenOf 9 = .ok (.getfield 26, 3) := by decide +kernel
theorem dX2_seenOf_12 : decode cX2_seenOf 12 = .ok (.iconst 0, 1) := by decide +kernel
theorem dX2_seenOf_13 : decode cX2_seenOf 13 = .ok (.bipush 16, 2) := by decide +kernel
theorem dX2_seenOf_15 : decode cX2_seenOf 15 = .ok (.invokestatic 196, 3) := by decide +kernel
theorem dX2_seenOf_18 : decode cX2_seenOf 18 = .ok (.iconst 0, 1) := by decide +kernel
theorem dX2_seenOf_19 : decode cX2_seenOf 19 = .ok (.istore_n 3, 1) := by decide +kernel
theorem dX2_seenOf_20 : decode cX2_seenOf 20 = .ok (.aload_n 0, 1) := by decide +kernel
theorem dX2_seenOf_21 : decode cX2_seenOf 21 = .ok (.invokevirtual 90, 3) := by decide +kernel
theorem dX2_seenOf_24 : decode cX2_seenOf 24 = .ok (.iconst 1, 1) := by decide +kernel
theorem dX2_seenOf_25 : decode cX2_seenOf 25 = .ok (.ishr, 1) := by decide +kernel
theorem dX2_seenOf_26 : decode cX2_seenOf 26 = .ok (.istore 4, 2) := by decide +kernel
theorem dX2_seenOf_28 : decode cX2_seenOf 28 = .ok (.iload 4, 2) := by decide +kernel
theorem dX2_seenOf_30 : decode cX2_seenOf 30 = .ok (.ifCond .le 52, 3) := by decide +kernel
theorem dX2_seenOf_33 : decode cX2_seenOf 33 = .ok (.iload_n 1, 1) := by decide +kernel
theorem dX2_seenOf_34 : decode cX2_seenOf 34 = .ok (.iload 4, 2) := by decide +kernel
theorem dX2_seenOf_36 : decode cX2_seenOf 36 = .ok (.iand, 1) := by decide +kernel
theorem dX2_seenOf_37 : decode cX2_seenOf 37 = .ok (.ifCond .ne 12, 3) := by decide +kernel
theorem dX2_seenOf_40 : decode cX2_seenOf 40 = .ok (.aload_n 0, 1) := by decide +kernel
theorem dX2_seenOf_41 : decode cX2_seenOf 41 = .ok (.iload 4, 2) := by decide +kernel
theorem dX2_seenOf_43 : decode cX2_seenOf 43 = .ok (.invokevirtual 202, 3) := by decide +kernel
theorem dX2_seenOf_46 : decode cX2_seenOf 46 = .ok (.goto 27, 3) := by decide +kernel
theorem dX2_seenOf_49 : decode cX2_seenOf 49 = .ok (.aload_n 0, 1) := by decide +kernel
theorem dX2_seenOf_50 : decode cX2_seenOf 50 = .ok (.iload 4, 2) := by decide +kernel
theorem dX2_seenOf_52 : decode cX2_seenOf 52 = .ok (.iload_n 2, 1) := by decide +kernel
theorem dX2_seenOf_53 : decode cX2_seenOf 53 = .ok (.iload_n 3, 1) := by decide +kernel
theorem dX2_seenOf_54 : decode cX2_seenOf 54 = .ok (.ishr, 1) := by decide +kernel
theorem dX2_seenOf_55 : decode cX2_seenOf 55 = .ok (.iconst 1, 1) := by decide +kernel
theorem dX2_seenOf_56 : decode cX2_seenOf 56 = .ok (.iload 4, 2) := by decide +kernel
theorem dX2_seenOf_58 : decode cX2_seenOf 58 = .ok (.ishl, 1) := by decide +kernel
theorem dX2_seenOf_59 : decode cX2_seenOf 59 = .ok (.iconst 1, 1) := by decide +kernel
theorem dX2_seenOf_60 : decode cX2_seenOf 60 = .ok (.isub, 1) := by decide +kernel
theorem dX2_seenOf_61 : decode cX2_seenOf 61 = .ok (.iand, 1) := by decide +kernel
theorem dX2_seenOf_62 : decode cX2_seenOf 62 = .ok (.invokestatic 93, 3) := by decide +kernel
theorem dX2_seenOf_65 : decode cX2_seenOf 65 = .ok (.invokevirtual 205, 3) := by decide +kernel
theorem dX2_seenOf_68 : decode cX2_seenOf 68 = .ok (.iload_n 3, 1) := by decide +kernel
theorem dX2_seenOf_69 : decode cX2_seenOf 69 = .ok (.iload 4, 2) := by decide +kernel
theorem dX2_seenOf_71 : decode cX2_seenOf 71 = .ok (.iadd, 1) := by decide +kernel
theorem dX2_seenOf_72 : decode cX2_seenOf 72 = .ok (.istore_n 3, 1) := by decide +kernel
theorem dX2_seenOf_73 : decode cX2_seenOf 73 = .ok (.iload 4, 2) := by decide +kernel
theorem dX2_seenOf_75 : decode cX2_seenOf 75 = .ok (.iconst 1, 1) := by decide +kernel
theorem dX2_seenOf_76 : decode cX2_seenOf 76 = .ok (.ishr, 1) := by decide +kernel
theorem dX2_seenOf_77 : decode cX2_seenOf 77 = .ok (.istore 4, 2) := by decide +kernel
theorem dX2_seenOf_79 : decode cX2_seenOf 79 = .ok (.goto (-51), 3) := by decide +kernel
theorem dX2_seenOf_82 : decode cX2_seenOf 82 = .ok (.aload_n 0, 1) := by decide +kernel
theorem dX2_seenOf_83 : decode cX2_seenOf 83 = .ok (.getfield 26, 3) := by decide +kernel
theorem dX2_seenOf_86 : decode cX2_seenOf 86 = .ok (.iconst 0, 1) := by decide +kernel
theorem dX2_seenOf_87 : decode cX2_seenOf 87 = .ok (.iaload, 1) := by decide +kernel
theorem dX2_seenOf_88 : decode cX2_seenOf 88 = .ok (.ireturn, 1) := by decide +kernel
set_option maxRecDepth 20000 in
theorem ggX2_goFirst_X2_weaker : GoodIn wsX2_goFirst wsX2_weaker := goodIn_r _ [5, 6, 7, 8, 9, 10, 11, 12] (by decide +kernel) (by decide +kernel)
set_option maxRecDepth 20000 in
theorem gX2_goFirst_X2_weaker : GoodIn wsX2_goFirst (va_wsS RX2 209 yX2_weaker wsX2_weaker) := goodIn_app (goodIn_of _ (by decide +kernel)) ggX2_goFirst_X2_weaker
theorem dX2_goFirst_0 : decode cX2_goFirst 0 = .ok (.iconst 0, 1) := by decide +kernel
theorem dX2_goFirst_1 : decode cX2_goFirst 1 = .ok (.istore_n 2, 1) := by decide +kernel
theorem dX2_goFirst_2 : decode cX2_goFirst 2 = .ok (.iload_n 2, 1) := by decide +kernel
theorem dX2_goFirst_3 : decode cX2_goFirst 3 = .ok (.iload_n 1, 1) := by decide +kernel
theorem dX2_goFirst_4 : decode cX2_goFirst 4 = .ok (.if_icmp .ge 32, 3) := by decide +kernel
theorem dX2_goFirst_7 : decode cX2_goFirst 7 = .ok (.aload_n 0, 1) := by decide +kernel
theorem dX2_goFirst_8 : decode cX2_goFirst 8 = .ok (.getfield 26, 3) := by decide +kernel
theorem dX2_goFirst_11 : decode cX2_goFirst 11 = .ok (.iload_n 2, 1) := by decide +kernel
theorem dX2_goFirst_12 : decode cX2_goFirst 12 = .ok (.aload_n 0, 1) := by decide +kernel
theorem dX2_goFirst_13 : decode cX2_goFirst 13 = .ok (.getfield 26, 3) := by decide +kernel
theorem dX2_goFirst_16 : decode cX2_goFirst 16 = .ok (.iload_n 2, 1) := by decide +kernel
theorem dX2_goFirst_17 : decode cX2_goFirst 17 = .ok (.iaload, 1) := by decide +kernel
theorem dX2_goFirst_18 : decode cX2_goFirst 18 = .ok (.aload_n 0, 1) := by decide +kernel
theorem dX2_goFirst_19 : decode cX2_goFirst 19 = .ok (.getfield 26, 3) := by decide +kernel
theorem dX2_goFirst_22 : decode cX2_goFirst 22 = .ok (.iload_n 2, 1) := by decide +kernel
theorem dX2_goFirst_23 : decode cX2_goFirst 23 = .ok (.iload_n 1, 1) := by decide +kernel
theorem dX2_goFirst_24 : decode cX2_goFirst 24 = .ok (.iadd, 1) := by decide +kernel
theorem dX2_goFirst_25 : decode cX2_goFirst 25 = .ok (.iaload, 1) := by decide +kernel
theorem dX2_goFirst_26 : decode cX2_goFirst 26 = .ok (.invokestatic 209, 3) := by decide +kernel
theorem dX2_goFirst_29 : decode cX2_goFirst 29 = .ok (.iastore, 1) := by decide +kernel
theorem dX2_goFirst_30 : decode cX2_goFirst 30 = .ok (.iinc 2 1, 3) := by decide +kernel
theorem dX2_goFirst_33 : decode cX2_goFirst 33 = .ok (.goto (-31), 3) := by decide +kernel
theorem dX2_goFirst_36 : decode cX2_goFirst 36 = .ok (.return_, 1) := by decide +kernel
set_option maxRecDepth 20000 in
theorem ggX2_goSecond_X2_has : GoodIn wsX2_goSecond wsX2_has := goodIn_r _ [5] (by decide +kernel) (by decide +kernel)
set_option maxRecDepth 20000 in
theorem gX2_goSecond_X2_has : GoodIn wsX2_goSecond (va_wsS RX2 111 yX2_has wsX2_has) := goodIn_app (goodIn_of _ (by decide +kernel)) ggX2_goSecond_X2_has
theorem dX2_goSecond_0 : decode cX2_goSecond 0 = .ok (.iconst 0, 1) := by decide +kernel
theorem dX2_goSecond_1 : decode cX2_goSecond 1 = .ok (.istore_n 3, 1) := by decide +kernel
theorem dX2_goSecond_2 : decode cX2_goSecond 2 = .ok (.iload_n 3, 1) := by decide +kernel
theorem dX2_goSecond_3 : decode cX2_goSecond 3 = .ok (.iload_n 1, 1) := by decide +kernel
theorem dX2_goSecond_4 : decode cX2_goSecond 4 = .ok (.if_icmp .ge 52, 3) := by decide +kernel
theorem dX2_goSecond_7 : decode cX2_goSecond 7 = .ok (.iload_n 2, 1) := by decide +kernel
theorem dX2_goSecond_8 : decode cX2_goSecond 8 = .ok (.iload_n 3, 1) := by decide +kernel
theorem dX2_goSecond_9 : decode cX2_goSecond 9 = .ok (.invokestatic 111, 3) := by decide +kernel
theorem dX2_goSecond_12 : decode cX2_goSecond 12 = .ok (.ifCond .eq 13, 3) := by decide +kernel
theorem dX2_goSecond_15 : decode cX2_goSecond 15 = .ok (.aload_n 0, 1) := by decide +kernel
theorem dX2_goSecond_16 : decode cX2_goSecond 16 = .ok (.getfield 26, 3) := by decide +kernel
theorem dX2_goSecond_19 : decode cX2_goSecond 19 = .ok (.iload_n 3, 1) := by decide +kernel
theorem dX2_goSecond_20 : decode cX2_goSecond 20 = .ok (.iaload, 1) := by decide +kernel
theorem dX2_goSecond_21 : decode cX2_goSecond 21 = .ok (.ineg, 1) := by decide +kernel
theorem dX2_goSecond_22 : decode cX2_goSecond 22 = .ok (.goto 9, 3) := by decide +kernel
theorem dX2_goSecond_25 : decode cX2_goSecond 25 = .ok (.aload_n 0, 1) := by decide +kernel
theorem dX2_goSecond_26 : decode cX2_goSecond 26 = .ok (.getfield 26, 3) := by decide +kernel
theorem dX2_goSecond_29 : decode cX2_goSecond 29 = .ok (.iload_n 3, 1) := by decide +kernel
theorem dX2_goSecond_30 : decode cX2_goSecond 30 = .ok (.iaload, 1) := by decide +kernel
theorem dX2_goSecond_31 : decode cX2_goSecond 31 = .ok (.istore 4, 2) := by decide +kernel
theorem dX2_goSecond_33 : decode cX2_goSecond 33 = .ok (.aload_n 0, 1) := by decide +kernel
theorem dX2_goSecond_34 : decode cX2_goSecond 34 = .ok (.getfield 26, 3) := by decide +kernel
theorem dX2_goSecond_37 : decode cX2_goSecond 37 = .ok (.iload_n 3, 1) := by decide +kernel
theorem dX2_goSecond_38 : decode cX2_goSecond 38 = .ok (.aload_n 0, 1) := by decide +kernel
theorem dX2_goSecond_39 : decode cX2_goSecond 39 = .ok (.getfield 26, 3) := by decide +kernel
theorem dX2_goSecond_42 : decode cX2_goSecond 42 = .ok (.iload_n 3, 1) := by decide +kernel
theorem dX2_goSecond_43 : decode cX2_goSecond 43 = .ok (.iload_n 1, 1) := by decide +kernel
theorem dX2_goSecond_44 : decode cX2_goSecond 44 = .ok (.iadd, 1) := by decide +kernel
theorem dX2_goSecond_45 : decode cX2_goSecond 45 = .ok (.iaload, 1) := by decide +kernel
theorem dX2_goSecond_46 : decode cX2_goSecond 46 = .ok (.iload 4, 2) := by decide +kernel
theorem dX2_goSecond_48 : decode cX2_goSecond 48 = .ok (.iadd, 1) := by decide +kernel
theorem dX2_goSecond_49 : decode cX2_goSecond 49 = .ok (.iastore, 1) := by decide +kernel
theorem dX2_goSecond_50 : decode cX2_goSecond 50 = .ok (.iinc 3 1, 3) := by decide +kernel
theorem dX2_goSecond_53 : decode cX2_goSecond 53 = .ok (.goto (-51), 3) := by decide +kernel
theorem dX2_goSecond_56 : decode cX2_goSecond 56 = .ok (.return_, 1) := by decide +kernel
theorem dX2_weaker_0 : decode cX2_weaker 0 = .ok (.iload_n 0, 1) := by decide +kernel
theorem dX2_weaker_1 : decode cX2_weaker 1 = .ok (.invokestatic 212, 3) := by decide +kernel
theorem dX2_weaker_4 : decode cX2_weaker 4 = .ok (.iload_n 1, 1) := by decide +kernel
theorem dX2_weaker_5 : decode cX2_weaker 5 = .ok (.invokestatic 212, 3) := by decide +kernel
theorem dX2_weaker_8 : decode cX2_weaker 8 = .ok (.invokestatic 187, 3) := by decide +kernel
theorem dX2_weaker_11 : decode cX2_weaker 11 = .ok (.istore_n 2, 1) := by decide +kernel
theorem dX2_weaker_12 : decode cX2_weaker 12 = .ok (.iload_n 0, 1) := by decide +kernel
theorem dX2_weaker_13 : decode cX2_weaker 13 = .ok (.ifCond .ge 7, 3) := by decide +kernel
theorem dX2_weaker_16 : decode cX2_weaker 16 = .ok (.iconst 1, 1) := by decide +kernel
theorem dX2_weaker_17 : decode cX2_weaker 17 = .ok (.goto 4, 3) := by decide +kernel
theorem dX2_weaker_20 : decode cX2_weaker 20 = .ok (.iconst 0, 1) := by decide +kernel
theorem dX2_weaker_21 : decode cX2_weaker 21 = .ok (.iload_n 1, 1) := by decide +kernel
theorem dX2_weaker_22 : decode cX2_weaker 22 = .ok (.ifCond .ge 7, 3) := by decide +kernel
theorem dX2_weaker_25 : decode cX2_weaker 25 = .ok (.iconst 1, 1) := by decide +kernel
theorem dX2_weaker_26 : decode cX2_weaker 26 = .ok (.goto 4, 3) := by decide +kernel
theorem dX2_weaker_29 : decode cX2_weaker 29 = .ok (.iconst 0, 1) := by decide +kernel
theorem dX2_weaker_30 : decode cX2_weaker 30 = .ok (.if_icmp .eq 8, 3) := by decide +kernel
theorem dX2_weaker_33 : decode cX2_weaker 33 = .ok (.iload_n 2, 1) := by decide +kernel
theorem dX2_weaker_34 : decode cX2_weaker 34 = .ok (.ineg, 1) := by decide +kernel
theorem dX2_weaker_35 : decode cX2_weaker 35 = .ok (.goto 4, 3) := by decide +kernel
theorem dX2_weaker_38 : decode cX2_weaker 38 = .ok (.iload_n 2, 1) := by decide +kernel
theorem dX2_weaker_39 : decode cX2_weaker 39 = .ok (.ireturn, 1) := by decide +kernel
set_option maxRecDepth 20000 in
theorem ggX2_rowRead_X2_places : GoodIn wsX2_rowRead wsX2_places := goodIn_r _ [5, 6, 45, 46, 47, 48, 49, 50, 51, 52, 53, 54, 55, 56, 57, 58] (by decide +kernel) (by decide +kernel)
set_option maxRecDepth 20000 in
theorem gX2_rowRead_X2_places : GoodIn wsX2_rowRead (wsV RX2 90 RX2 yX2_places wsX2_places) := goodIn_app (goodIn_of _ (by decide +kernel)) ggX2_rowRead_X2_places
set_option maxRecDepth 20000 in
theorem ggX2_rowRead_X2_isFree : GoodIn wsX2_rowRead wsX2_isFree := goodIn_r _ [10, 6, 11, 12, 4, 13, 45, 46, 47, 48, 49, 50, 51, 52, 53, 54, 55, 56, 57, 58] (by decide +kernel) (by decide +kernel)
set_option maxRecDepth 20000 in
theorem gX2_rowRead_X2_isFree : GoodIn wsX2_rowRead (wsV RX2 96 RX2 yX2_isFree wsX2_isFree) := goodIn_app (goodIn_of _ (by decide +kernel)) ggX2_rowRead_X2_isFree
set_option maxRecDepth 20000 in
theorem ggX2_rowRead_X2_seenOf : GoodIn wsX2_rowRead wsX2_seenOf := goodIn_r _ [17, 6, 18, 19, 20, 21, 22, 1, 2, 3, 4, 5, 23, 24, 25, 26, 27, 28, 29, 30, 31, 32, 33, 34, 35, 36, 37, 38, 39, 40, 41, 42, 43, 44, 11, 12, 13, 45, 46, 47, 48, 49, 50, 51, 52, 53, 54, 55, 56, 57, 58] (by decide +kernel) (by decide +kernel)
set_option maxRecDepth 20000 in
theorem gX2_rowRead_X2_seenOf : GoodIn wsX2_rowRead (wsV RX2 118 RX2 yX2_seenOf wsX2_seenOf) := goodIn_app (goodIn_of _ (by decide +kernel)) ggX2_rowRead_X2_seenOf
theorem dX2_rowRead_0 : decode cX2_rowRead 0 = .ok (.iconst 0, 1) := by decide +kernel
theorem dX2_rowRead_1 : decode cX2_rowRead 1 = .ok (.istore_n 1, 1) := by decide +kernel
theorem dX2_rowRead_2 : decode cX2_rowRead 2 = .ok (.iconst 0, 1) := by decide +kernel
theorem dX2_rowRead_3 : decode cX2_rowRead 3 = .ok (.istore_n 2, 1) := by decide +kernel
theorem dX2_rowRead_4 : decode cX2_rowRead 4 = .ok (.iload_n 2, 1) := by decide +kernel
theorem dX2_rowRead_5 : decode cX2_rowRead 5 = .ok (.aload_n 0, 1) := by decide +kernel
theorem dX2_rowRead_6 : decode cX2_rowRead 6 = .ok (.invokevirtual 90, 3) := by decide +kernel
theorem dX2_rowRead_9 : decode cX2_rowRead 9 = .ok (.if_icmp .ge 32, 3) := by decide +kernel
theorem dX2_rowRead_12 : decode cX2_rowRead 12 = .ok (.aload_n 0, 1) := by decide +kernel
theorem dX2_rowRead_13 : decode cX2_rowRead 13 = .ok (.iload_n 2, 1) := by decide +kernel
theorem dX2_rowRead_14 : decode cX2_rowRead 14 = .ok (.invokevirtual 96, 3) := by decide +kernel
theorem dX2_rowRead_17 : decode cX2_rowRead 17 = .ok (.ifCond .eq 18, 3) := by decide +kernel
theorem dX2_rowRead_20 : decode cX2_rowRead 20 = .ok (.aload_n 0, 1) := by decide +kernel
theorem dX2_rowRead_21 : decode cX2_rowRead 21 = .ok (.iload_n 2, 1) := by decide +kernel
theorem dX2_rowRead_22 : decode cX2_rowRead 22 = .ok (.iload_n 1, 1) := by decide +kernel
theorem dX2_rowRead_23 : decode cX2_rowRead 23 = .ok (.invokevirtual 118, 3) := by decide +kernel
theorem dX2_rowRead_26 : decode cX2_rowRead 26 = .ok (.ifCond .ge 9, 3) := by decide +kernel
theorem dX2_rowRead_29 : decode cX2_rowRead 29 = .ok (.iload_n 1, 1) := by decide +kernel
theorem dX2_rowRead_30 : decode cX2_rowRead 30 = .ok (.iconst 1, 1) := by decide +kernel
theorem dX2_rowRead_31 : decode cX2_rowRead 31 = .ok (.iload_n 2, 1) := by decide +kernel
theorem dX2_rowRead_32 : decode cX2_rowRead 32 = .ok (.ishl, 1) := by decide +kernel
theorem dX2_rowRead_33 : decode cX2_rowRead 33 = .ok (.ior, 1) := by decide +kernel
theorem dX2_rowRead_34 : decode cX2_rowRead 34 = .ok (.istore_n 1, 1) := by decide +kernel
theorem dX2_rowRead_35 : decode cX2_rowRead 35 = .ok (.iinc 2 1, 3) := by decide +kernel
theorem dX2_rowRead_38 : decode cX2_rowRead 38 = .ok (.goto (-34), 3) := by decide +kernel
theorem dX2_rowRead_41 : decode cX2_rowRead 41 = .ok (.iload_n 1, 1) := by decide +kernel
theorem dX2_rowRead_42 : decode cX2_rowRead 42 = .ok (.ireturn, 1) := by decide +kernel
set_option maxRecDepth 20000 in
theorem ggX2_fineOf_X2_places : GoodIn wsX2_fineOf wsX2_places := goodIn_r _ [5, 6, 47, 48, 49, 50, 51, 52, 53, 54, 55, 56, 57, 58, 59, 60] (by decide +kernel) (by decide +kernel)
set_option maxRecDepth 20000 in
theorem gX2_fineOf_X2_places : GoodIn wsX2_fineOf (wsV RX2 90 RX2 yX2_places wsX2_places) := goodIn_app (goodIn_of _ (by decide +kernel)) ggX2_fineOf_X2_places
set_option maxRecDepth 20000 in
theorem ggX2_fineOf_X2_seenOf : GoodIn wsX2_fineOf wsX2_seenOf := goodIn_r _ [10, 6, 11, 12, 13, 14, 15, 1, 2, 3, 4, 5, 16, 17, 18, 19, 20, 21, 22, 23, 24, 25, 26, 27, 28, 29, 30, 31, 32, 33, 34, 35, 36, 37, 38, 39, 40, 47, 48, 49, 50, 51, 52, 53, 54, 55, 56, 57, 58, 59, 60] (by decide +kernel) (by decide +kernel)
set_option maxRecDepth 20000 in
theorem gX2_fineOf_X2_seenOf : GoodIn wsX2_fineOf (wsV RX2 118 RX2 yX2_seenOf wsX2_seenOf) := goodIn_app (goodIn_of _ (by decide +kernel)) ggX2_fineOf_X2_seenOf
set_option maxRecDepth 20000 in
theorem ggX2_fineOf_X2_has : GoodIn wsX2_fineOf wsX2_has := goodIn_r _ [40] (by decide +kernel) (by decide +kernel)
set_option maxRecDepth 20000 in
theorem gX2_fineOf_X2_has : GoodIn wsX2_fineOf (va_wsS RX2 111 yX2_has wsX2_has) := goodIn_app (goodIn_of _ (by decide +kernel)) ggX2_fineOf_X2_has
set_option maxRecDepth 20000 in
theorem ggX2_fineOf_X2_fineOfBit : GoodIn wsX2_fineOf wsX2_fineOfBit := goodIn_r _ [43, 44, 45, 25, 46] (by decide +kernel) (by decide +kernel)
set_option maxRecDepth 20000 in
theorem gX2_fineOf_X2_fineOfBit : GoodIn wsX2_fineOf (va_wsS RX2 215 yX2_fineOfBit wsX2_fineOfBit) := goodIn_app (goodIn_of _ (by decide +kernel)) ggX2_fineOf_X2_fineOfBit
theorem dX2_fineOf_0 : decode cX2_fineOf 0 = .ok (.iconst 0, 1) := by decide +kernel
theorem dX2_fineOf_1 : decode cX2_fineOf 1 = .ok (.istore_n 2, 1) := by decide +kernel
theorem dX2_fineOf_2 : decode cX2_fineOf 2 = .ok (.iconst 0, 1) := by decide +kernel
theorem dX2_fineOf_3 : decode cX2_fineOf 3 = .ok (.istore_n 3, 1) := by decide +kernel
theorem dX2_fineOf_4 : decode cX2_fineOf 4 = .ok (.iload_n 3, 1) := by decide +kernel
theorem dX2_fineOf_5 : decode cX2_fineOf 5 = .ok (.aload_n 0, 1) := by decide +kernel
theorem dX2_fineOf_6 : decode cX2_fineOf 6 = .ok (.invokevirtual 90, 3) := by decide +kernel
theorem dX2_fineOf_9 : decode cX2_fineOf 9 = .ok (.if_icmp .ge 26, 3) := by decide +kernel
theorem dX2_fineOf_12 : decode cX2_fineOf 12 = .ok (.iload_n 2, 1) := by decide +kernel
theorem dX2_fineOf_13 : decode cX2_fineOf 13 = .ok (.aload_n 0, 1) := by decide +kernel
theorem dX2_fineOf_14 : decode cX2_fineOf 14 = .ok (.iload_n 3, 1) := by decide +kernel
theorem dX2_fineOf_15 : decode cX2_fineOf 15 = .ok (.iload_n 1, 1) := by decide +kernel
theorem dX2_fineOf_16 : decode cX2_fineOf 16 = .ok (.invokevirtual 118, 3) := by decide +kernel
theorem dX2_fineOf_19 : decode cX2_fineOf 19 = .ok (.iload_n 1, 1) := by decide +kernel
theorem dX2_fineOf_20 : decode cX2_fineOf 20 = .ok (.iload_n 3, 1) := by decide +kernel
theorem dX2_fineOf_21 : decode cX2_fineOf 21 = .ok (.invokestatic 111, 3) := by decide +kernel
theorem dX2_fineOf_24 : decode cX2_fineOf 24 = .ok (.invokestatic 215, 3) := by decide +kernel
theorem dX2_fineOf_27 : decode cX2_fineOf 27 = .ok (.iadd, 1) := by decide +kernel
theorem dX2_fineOf_28 : decode cX2_fineOf 28 = .ok (.istore_n 2, 1) := by decide +kernel
theorem dX2_fineOf_29 : decode cX2_fineOf 29 = .ok (.iinc 3 1, 3) := by decide +kernel
theorem dX2_fineOf_32 : decode cX2_fineOf 32 = .ok (.goto (-28), 3) := by decide +kernel
theorem dX2_fineOf_35 : decode cX2_fineOf 35 = .ok (.iload_n 2, 1) := by decide +kernel
theorem dX2_fineOf_36 : decode cX2_fineOf 36 = .ok (.ireturn, 1) := by decide +kernel
theorem dX2_fineOfBit_0 : decode cX2_fineOfBit 0 = .ok (.iload_n 1, 1) := by decide +kernel
theorem dX2_fineOfBit_1 : decode cX2_fineOfBit 1 = .ok (.ifCond .eq 11, 3) := by decide +kernel
theorem dX2_fineOfBit_4 : decode cX2_fineOfBit 4 = .ok (.iload_n 0, 1) := by decide +kernel
theorem dX2_fineOfBit_5 : decode cX2_fineOfBit 5 = .ok (.iconst 0, 1) := by decide +kernel
theorem dX2_fineOfBit_6 : decode cX2_fineOfBit 6 = .ok (.invokestatic 177, 3) := by decide +kernel
theorem dX2_fineOfBit_9 : decode cX2_fineOfBit 9 = .ok (.goto 9, 3) := by decide +kernel
theorem dX2_fineOfBit_12 : decode cX2_fineOfBit 12 = .ok (.iload_n 0, 1) := by decide +kernel
theorem dX2_fineOfBit_13 : decode cX2_fineOfBit 13 = .ok (.ineg, 1) := by decide +kernel
theorem dX2_fineOfBit_14 : decode cX2_fineOfBit 14 = .ok (.iconst 0, 1) := by decide +kernel
theorem dX2_fineOfBit_15 : decode cX2_fineOfBit 15 = .ok (.invokestatic 177, 3) := by decide +kernel
theorem dX2_fineOfBit_18 : decode cX2_fineOfBit 18 = .ok (.ireturn, 1) := by decide +kernel
set_option maxRecDepth 20000 in
theorem ggX2_howManyToldOtherwise_X2_places : GoodIn wsX2_howManyToldOtherwise wsX2_places := goodIn_r _ [6, 1, 10, 11, 12, 13, 14, 15, 16, 17, 18, 19, 20, 21, 22, 23] (by decide +kernel) (by decide +kernel)
set_option maxRecDepth 20000 in
theorem gX2_howManyToldOtherwise_X2_places : GoodIn wsX2_howManyToldOtherwise (wsV RX2 90 RX2 yX2_places wsX2_places) := goodIn_app (goodIn_of _ (by decide +kernel)) ggX2_howManyToldOtherwise_X2_places
set_option maxRecDepth 20000 in
theorem ggX2_howManyToldOtherwise_X2_has : GoodIn wsX2_howManyToldOtherwise wsX2_has := goodIn_r _ [9] (by decide +kernel) (by decide +kernel)
set_option maxRecDepth 20000 in
theorem gX2_howManyToldOtherwise_X2_has : GoodIn wsX2_howManyToldOtherwise (va_wsS RX2 111 yX2_has wsX2_has) := goodIn_app (goodIn_of _ (by decide +kernel)) ggX2_howManyToldOtherwise_X2_has
theorem dX2_howManyToldOtherwise_0 : decode cX2_howManyToldOtherwise 0 = .ok (.iconst 0, 1) := by decide +kernel
theorem dX2_howManyToldOtherwise_1 : decode cX2_howManyToldOtherwise 1 = .ok (.istore_n 2, 1) := by decide +kernel
theorem dX2_howManyToldOtherwise_2 : decode cX2_howManyToldOtherwise 2 = .ok (.iconst 0, 1) := by decide +kernel
theorem dX2_howManyToldOtherwise_3 : decode cX2_howManyToldOtherwise 3 = .ok (.istore_n 3, 1) := by decide +kernel
theorem dX2_howManyToldOtherwise_4 : decode cX2_howManyToldOtherwise 4 = .ok (.iload_n 3, 1) := by decide +kernel
theorem dX2_howManyToldOtherwise_5 : decode cX2_howManyToldOtherwise 5 = .ok (.aload_n 0, 1) := by decide +kernel
theorem dX2_howManyToldOtherwise_6 : decode cX2_howManyToldOtherwise 6 = .ok (.invokevirtual 90, 3) := by decide +kernel
theorem dX2_howManyToldOtherwise_9 : decode cX2_howManyToldOtherwise 9 = .ok (.if_icmp .ge 46, 3) := by decide +kernel
theorem dX2_howManyToldOtherwise_12 : decode cX2_howManyToldOtherwise 12 = .ok (.aload_n 0, 1) := by decide +kernel
theorem dX2_howManyToldOtherwise_13 : decode cX2_howManyToldOtherwise 13 = .ok (.getfield 10, 3) := by decide +kernel
theorem dX2_howManyToldOtherwise_16 : decode cX2_howManyToldOtherwise 16 = .ok (.getfield 108, 3) := by decide +kernel
theorem dX2_howManyToldOtherwise_19 : decode cX2_howManyToldOtherwise 19 = .ok (.iload_n 3, 1) := by decide +kernel
theorem dX2_howManyToldOtherwise_20 : decode cX2_howManyToldOtherwise 20 = .ok (.iaload, 1) := by decide +kernel
theorem dX2_howManyToldOtherwise_21 : decode cX2_howManyToldOtherwise 21 = .ok (.istore 4, 2) := by decide +kernel
theorem dX2_howManyToldOtherwise_23 : decode cX2_howManyToldOtherwise 23 = .ok (.iload 4, 2) := by decide +kernel
theorem dX2_howManyToldOtherwise_25 : decode cX2_howManyToldOtherwise 25 = .ok (.ifCond .eq 24, 3) := by decide +kernel
theorem dX2_howManyToldOtherwise_28 : decode cX2_howManyToldOtherwise 28 = .ok (.iload 4, 2) := by decide +kernel
theorem dX2_howManyToldOtherwise_30 : decode cX2_howManyToldOtherwise 30 = .ok (.ifCond .ge 7, 3) := by decide +kernel
theorem dX2_howManyToldOtherwise_33 : decode cX2_howManyToldOtherwise 33 = .ok (.iconst 1, 1) := by decide +kernel
theorem dX2_howManyToldOtherwise_34 : decode cX2_howManyToldOtherwise 34 = .ok (.goto 4, 3) := by decide +kernel
theorem dX2_howManyToldOtherwise_37 : decode cX2_howManyToldOtherwise 37 = .ok (.iconst 0, 1) := by decide +kernel
theorem dX2_howManyToldOtherwise_38 : decode cX2_howManyToldOtherwise 38 = .ok (.iload_n 1, 1) := by decide +kernel
theorem dX2_howManyToldOtherwise_39 : decode cX2_howManyToldOtherwise 39 = .ok (.iload_n 3, 1) := by decide +kernel
theorem dX2_howManyToldOtherwise_40 : decode cX2_howManyToldOtherwise 40 = .ok (.invokestatic 111, 3) := by decide +kernel
theorem dX2_howManyToldOtherwise_43 : decode cX2_howManyToldOtherwise 43 = .ok (.if_icmp .eq 6, 3) := by decide +kernel
theorem dX2_howManyToldOtherwise_46 : decode cX2_howManyToldOtherwise 46 = .ok (.iinc 2 1, 3) := by decide +kernel
theorem dX2_howManyToldOtherwise_49 : decode cX2_howManyToldOtherwise 49 = .ok (.iinc 3 1, 3) := by decide +kernel
theorem dX2_howManyToldOtherwise_52 : decode cX2_howManyToldOtherwise 52 = .ok (.goto (-48), 3) := by decide +kernel
theorem dX2_howManyToldOtherwise_55 : decode cX2_howManyToldOtherwise 55 = .ok (.iload_n 2, 1) := by decide +kernel
theorem dX2_howManyToldOtherwise_56 : decode cX2_howManyToldOtherwise 56 = .ok (.ireturn, 1) := by decide +kernel
set_option maxRecDepth 20000 in
theorem ggX2_tellKept_X1_clear : GoodIn wsX2_tellKept wsX1_clear := goodIn_r _ [8, 9, 93, 94, 95] (by decide +kernel) (by decide +kernel)
set_option maxRecDepth 20000 in
theorem gX2_tellKept_X1_clear : GoodIn wsX2_tellKept (wsV RX2 218 RX1 yX1_clear wsX1_clear) := goodIn_app (goodIn_of _ (by decide +kernel)) ggX2_tellKept_X1_clear
set_option maxRecDepth 20000 in
theorem ggX2_tellKept_X1_add : GoodIn wsX2_tellKept wsX1_add := goodIn_r _ [13, 9, 14, 15, 16, 17, 18, 7, 19, 93, 94, 95] (by decide +kernel) (by decide +kernel)
set_option maxRecDepth 20000 in
theorem gX2_tellKept_X1_add : GoodIn wsX2_tellKept (wsV RX2 221 RX1 yX1_add wsX1_add) := goodIn_app (goodIn_of _ (by decide +kernel)) ggX2_tellKept_X1_add
set_option maxRecDepth 20000 in
theorem ggX2_tellKept_X2_places : GoodIn wsX2_tellKept wsX2_places := goodIn_r _ [24, 3, 79, 80, 81, 82, 83, 84, 85, 86, 87, 88, 89, 90, 91, 92] (by decide +kernel) (by decide +kernel)
set_option maxRecDepth 20000 in
theorem gX2_tellKept_X2_places : GoodIn wsX2_tellKept (wsV RX2 90 RX2 yX2_places wsX2_places) := goodIn_app (goodIn_of _ (by decide +kernel)) ggX2_tellKept_X2_places
set_option maxRecDepth 20000 in
theorem ggX2_tellKept_X2_growBy : GoodIn wsX2_tellKept wsX2_growBy := goodIn_r _ [28, 2, 1, 4, 5, 6, 7, 8, 9, 29, 30, 31, 23, 32, 3, 33, 34, 35, 36, 37, 20, 21, 22, 24, 38, 39, 40, 41, 42, 43, 44, 45, 46, 47, 48, 49, 50, 51, 52, 53, 54, 55, 56, 57, 58, 59, 60, 61, 62, 63, 64, 65, 66, 67, 68, 10, 11, 12, 13, 14, 15, 16, 17, 18, 19, 69, 70, 71, 72, 79, 80, 81, 82, 83, 84, 85, 93, 94, 95, 86, 87, 88, 89, 90, 91, 92] (by decide +kernel) (by decide +kernel)
set_option maxRecDepth 20000 in
theorem gX2_tellKept_X2_growBy : GoodIn wsX2_tellKept (wsV RX2 224 RX2 yX2_growBy wsX2_growBy) := goodIn_app (goodIn_of _ (by decide +kernel)) ggX2_tellKept_X2_growBy
set_option maxRecDepth 20000 in
theorem ggX2_tellKept_X1_takeFirst : GoodIn wsX2_tellKept wsX1_takeFirst := goodIn_r _ [76, 9, 77, 50, 47, 51, 14, 78, 35, 36, 37, 15, 93, 94, 95] (by decide +kernel) (by decide +kernel)
set_option maxRecDepth 20000 in
theorem gX2_tellKept_X1_takeFirst : GoodIn wsX2_tellKept (wsV RX2 227 RX1 yX1_takeFirst wsX1_takeFirst) := goodIn_app (goodIn_of _ (by decide +kernel)) ggX2_tellKept_X1_takeFirst
theorem dX2_tellKept_0 : decode cX2_tellKept 0 = .ok (.aload_n 0, 1) := by decide +kernel
theorem dX2_tellKept_1 : decode cX2_tellKept 1 = .ok (.getfield 33, 3) := by decide +kernel
theorem dX2_tellKept_4 : decode cX2_tellKept 4 = .ok (.invokevirtual 218, 3) := by decide +kernel
theorem dX2_tellKept_7 : decode cX2_tellKept 7 = .ok (.aload_n 0, 1) := by decide +kernel
theorem dX2_tellKept_8 : decode cX2_tellKept 8 = .ok (.getfield 33, 3) := by decide +kernel
theorem dX2_tellKept_11 : decode cX2_tellKept 11 = .ok (.iconst 0, 1) := by decide +kernel
theorem dX2_tellKept_12 : decode cX2_tellKept 12 = .ok (.iconst 0, 1) := by decide +kernel
theorem dX2_tellKept_13 : decode cX2_tellKept 13 = .ok (.invokevirtual 221, 3) := by decide +kernel
theorem dX2_tellKept_16 : decode cX2_tellKept 16 = .ok (.iconst 0, 1) := by decide +kernel
theorem dX2_tellKept_17 : decode cX2_tellKept 17 = .ok (.istore_n 1, 1) := by decide +kernel
theorem dX2_tellKept_18 : decode cX2_tellKept 18 = .ok (.iload_n 1, 1) := by decide +kernel
theorem dX2_tellKept_19 : decode cX2_tellKept 19 = .ok (.aload_n 0, 1) := by decide +kernel
theorem dX2_tellKept_20 : decode cX2_tellKept 20 = .ok (.invokevirtual 90, 3) := by decide +kernel
theorem dX2_tellKept_23 : decode cX2_tellKept 23 = .ok (.if_icmp .ge 32, 3) := by decide +kernel
theorem dX2_tellKept_26 : decode cX2_tellKept 26 = .ok (.aload_n 0, 1) := by decide +kernel
theorem dX2_tellKept_27 : decode cX2_tellKept 27 = .ok (.iload_n 1, 1) := by decide +kernel
theorem dX2_tellKept_28 : decode cX2_tellKept 28 = .ok (.invokevirtual 224, 3) := by decide +kernel
theorem dX2_tellKept_31 : decode cX2_tellKept 31 = .ok (.aload_n 0, 1) := by decide +kernel
theorem dX2_tellKept_32 : decode cX2_tellKept 32 = .ok (.getfield 33, 3) := by decide +kernel
theorem dX2_tellKept_35 : decode cX2_tellKept 35 = .ok (.aload_n 0, 1) := by decide +kernel
theorem dX2_tellKept_36 : decode cX2_tellKept 36 = .ok (.getfield 37, 3) := by decide +kernel
theorem dX2_tellKept_39 : decode cX2_tellKept 39 = .ok (.aload_n 0, 1) := by decide +kernel
theorem dX2_tellKept_40 : decode cX2_tellKept 40 = .ok (.getfield 10, 3) := by decide +kernel
theorem dX2_tellKept_43 : decode cX2_tellKept 43 = .ok (.getfield 131, 3) := by decide +kernel
theorem dX2_tellKept_46 : decode cX2_tellKept 46 = .ok (.invokevirtual 227, 3) := by decide +kernel
theorem dX2_tellKept_49 : decode cX2_tellKept 49 = .ok (.iinc 1 1, 3) := by decide +kernel
theorem dX2_tellKept_52 : decode cX2_tellKept 52 = .ok (.goto (-34), 3) := by decide +kernel
theorem dX2_tellKept_55 : decode cX2_tellKept 55 = .ok (.return_, 1) := by decide +kernel
set_option maxRecDepth 20000 in
theorem ggX2_growBy_X1_clear : GoodIn wsX2_growBy wsX1_clear := goodIn_r _ [7, 8, 76, 77, 78] (by decide +kernel) (by decide +kernel)
set_option maxRecDepth 20000 in
theorem gX2_growBy_X1_clear : GoodIn wsX2_growBy (wsV RX2 218 RX1 yX1_clear wsX1_clear) := goodIn_app (goodIn_of _ (by decide +kernel)) ggX2_growBy_X1_clear
set_option maxRecDepth 20000 in
theorem ggX2_growBy_X2_seenOf : GoodIn wsX2_growBy wsX2_seenOf := goodIn_r _ [13, 14, 15, 16, 17, 18, 19, 20, 21, 22, 12, 23, 24, 25, 26, 27, 28, 29, 30, 31, 32, 33, 34, 35, 36, 37, 38, 39, 40, 41, 42, 43, 44, 45, 46, 47, 48, 69, 70, 71, 72, 73, 74, 75, 79, 80, 81, 82, 83, 84, 85] (by decide +kernel) (by decide +kernel)
set_option maxRecDepth 20000 in
theorem gX2_growBy_X2_seenOf : GoodIn wsX2_growBy (wsV RX2 118 RX2 yX2_seenOf wsX2_seenOf) := goodIn_app (goodIn_of _ (by decide +kernel)) ggX2_growBy_X2_seenOf
set_option maxRecDepth 20000 in
theorem ggX2_growBy_X2_fineOfBit : GoodIn wsX2_growBy wsX2_fineOfBit := goodIn_r _ [51, 52, 53, 33, 54] (by decide +kernel) (by decide +kernel)
set_option maxRecDepth 20000 in
theorem gX2_growBy_X2_fineOfBit : GoodIn wsX2_growBy (va_wsS RX2 215 yX2_fineOfBit wsX2_fineOfBit) := goodIn_app (goodIn_of _ (by decide +kernel)) ggX2_growBy_X2_fineOfBit
set_option maxRecDepth 20000 in
theorem ggX2_growBy_X1_add : GoodIn wsX2_growBy wsX1_add := goodIn_r _ [58, 8, 59, 60, 61, 62, 63, 6, 64, 76, 77, 78] (by decide +kernel) (by decide +kernel)
set_option maxRecDepth 20000 in
theorem gX2_growBy_X1_add : GoodIn wsX2_growBy (wsV RX2 221 RX1 yX1_add wsX1_add) := goodIn_app (goodIn_of _ (by decide +kernel)) ggX2_growBy_X1_add
set_option maxRecDepth 20000 in
theorem ggX2_growBy_X2_isFree : GoodIn wsX2_growBy wsX2_isFree := goodIn_r _ [68, 14, 46, 47, 12, 48, 69, 70, 71, 72, 73, 74, 75, 79, 80, 81, 82, 83, 84, 85] (by decide +kernel) (by decide +kernel)
set_option maxRecDepth 20000 in
theorem gX2_growBy_X2_isFree : GoodIn wsX2_growBy (wsV RX2 96 RX2 yX2_isFree wsX2_isFree) := goodIn_app (goodIn_of _ (by decide +kernel)) ggX2_growBy_X2_isFree
theorem dX2_growBy_0 : decode cX2_growBy 0 = .ok (.aload_n 0, 1) := by decide +kernel
theorem dX2_growBy_1 : decode cX2_growBy 1 = .ok (.getfield 37, 3) := by decide +kernel
theorem dX2_growBy_4 : decode cX2_growBy 4 = .ok (.invokevirtual 218, 3) := by decide +kernel
theorem dX2_growBy_7 : decode cX2_growBy 7 = .ok (.iconst 0, 1) := by decide +kernel
theorem dX2_growBy_8 : decode cX2_growBy 8 = .ok (.istore_n 2, 1) := by decide +kernel
theorem dX2_growBy_9 : decode cX2_growBy 9 = .ok (.iload_n 2, 1) := by decide +kernel
theorem dX2_growBy_10 : decode cX2_growBy 10 = .ok (.aload_n 0, 1) := by decide +kernel
theorem dX2_growBy_11 : decode cX2_growBy 11 = .ok (.getfield 33, 3) := by decide +kernel
theorem dX2_growBy_14 : decode cX2_growBy 14 = .ok (.getfield 137, 3) := by decide +kernel
theorem dX2_growBy_17 : decode cX2_growBy 17 = .ok (.if_icmp .ge 84, 3) := by decide +kernel
theorem dX2_growBy_20 : decode cX2_growBy 20 = .ok (.aload_n 0, 1) := by decide +kernel
theorem dX2_growBy_21 : decode cX2_growBy 21 = .ok (.getfield 33, 3) := by decide +kernel
theorem dX2_growBy_24 : decode cX2_growBy 24 = .ok (.getfield 143, 3) := by decide +kernel
theorem dX2_growBy_27 : decode cX2_growBy 27 = .ok (.iload_n 2, 1) := by decide +kernel
theorem dX2_growBy_28 : decode cX2_growBy 28 = .ok (.iaload, 1) := by decide +kernel
theorem dX2_growBy_29 : decode cX2_growBy 29 = .ok (.istore_n 3, 1) := by decide +kernel
theorem dX2_growBy_30 : decode cX2_growBy 30 = .ok (.aload_n 0, 1) := by decide +kernel
theorem dX2_growBy_31 : decode cX2_growBy 31 = .ok (.getfield 33, 3) := by decide +kernel
theorem dX2_growBy_34 : decode cX2_growBy 34 = .ok (.getfield 146, 3) := by decide +kernel
theorem dX2_growBy_37 : decode cX2_growBy 37 = .ok (.iload_n 2, 1) := by decide +kernel
theorem dX2_growBy_38 : decode cX2_growBy 38 = .ok (.iaload, 1) := by decide +kernel
theorem dX2_growBy_39 : decode cX2_growBy 39 = .ok (.istore 4, 2) := by decide +kernel
theorem dX2_growBy_41 : decode cX2_growBy 41 = .ok (.aload_n 0, 1) := by decide +kernel
theorem dX2_growBy_42 : decode cX2_growBy 42 = .ok (.iload_n 1, 1) := by decide +kernel
theorem dX2_growBy_43 : decode cX2_growBy 43 = .ok (.iload_n 3, 1) := by decide +kernel
theorem dX2_growBy_44 : decode cX2_growBy 44 = .ok (.invokevirtual 118, 3) := by decide +kernel
theorem dX2_growBy_47 : decode cX2_growBy 47 = .ok (.istore 5, 2) := by decide +kernel
theorem dX2_growBy_49 : decode cX2_growBy 49 = .ok (.aload_n 0, 1) := by decide +kernel
theorem dX2_growBy_50 : decode cX2_growBy 50 = .ok (.getfield 37, 3) := by decide +kernel
theorem dX2_growBy_53 : decode cX2_growBy 53 = .ok (.iload_n 3, 1) := by decide +kernel
theorem dX2_growBy_54 : decode cX2_growBy 54 = .ok (.iload 4, 2) := by decide +kernel
theorem dX2_growBy_56 : decode cX2_growBy 56 = .ok (.iload 5, 2) := by decide +kernel
theorem dX2_growBy_58 : decode cX2_growBy 58 = .ok (.iconst 0, 1) := by decide +kernel
theorem dX2_growBy_59 : decode cX2_growBy 59 = .ok (.invokestatic 215, 3) := by decide +kernel
theorem dX2_growBy_62 : decode cX2_growBy 62 = .ok (.iadd, 1) := by decide +kernel
theorem dX2_growBy_63 : decode cX2_growBy 63 = .ok (.invokevirtual 221, 3) := by decide +kernel
theorem dX2_growBy_66 : decode cX2_growBy 66 = .ok (.aload_n 0, 1) := by decide +kernel
theorem dX2_growBy_67 : decode cX2_growBy 67 = .ok (.iload_n 1, 1) := by decide +kernel
theorem dX2_growBy_68 : decode cX2_growBy 68 = .ok (.invokevirtual 96, 3) := by decide +kernel
theorem dX2_growBy_71 : decode cX2_growBy 71 = .ok (.ifCond .eq 24, 3) := by decide +kernel
theorem dX2_growBy_74 : decode cX2_growBy 74 = .ok (.aload_n 0, 1) := by decide +kernel
theorem dX2_growBy_75 : decode cX2_growBy 75 = .ok (.getfield 37, 3) := by decide +kernel
theorem dX2_growBy_78 : decode cX2_growBy 78 = .ok (.iload_n 3, 1) := by decide +kernel
theorem dX2_growBy_79 : decode cX2_growBy 79 = .ok (.iconst 1, 1) := by decide +kernel
theorem dX2_growBy_80 : decode cX2_growBy 80 = .ok (.iload_n 1, 1) := by decide +kernel
theorem dX2_growBy_81 : decode cX2_growBy 81 = .ok (.ishl, 1) := by decide +kernel
theorem dX2_growBy_82 : decode cX2_growBy 82 = .ok (.ior, 1) := by decide +kernel
theorem dX2_growBy_83 : decode cX2_growBy 83 = .ok (.iload 4, 2) := by decide +kernel
theorem dX2_growBy_85 : decode cX2_growBy 85 = .ok (.iload 5, 2) := by decide +kernel
theorem dX2_growBy_87 : decode cX2_growBy 87 = .ok (.iconst 1, 1) := by decide +kernel
theorem dX2_growBy_88 : decode cX2_growBy 88 = .ok (.invokestatic 215, 3) := by decide +kernel
theorem dX2_growBy_91 : decode cX2_growBy 91 = .ok (.iadd, 1) := by decide +kernel
theorem dX2_growBy_92 : decode cX2_growBy 92 = .ok (.invokevirtual 221, 3) := by decide +kernel
theorem dX2_growBy_95 : decode cX2_growBy 95 = .ok (.iinc 2 1, 3) := by decide +kernel
theorem dX2_growBy_98 : decode cX2_growBy 98 = .ok (.goto (-89), 3) := by decide +kernel
theorem dX2_growBy_101 : decode cX2_growBy 101 = .ok (.return_, 1) := by decide +kernel
set_option maxRecDepth 20000 in
theorem ggX2_firstThatHolds_X0_holds : GoodIn wsX2_firstThatHolds wsX0_holds := goodIn_r _ [7, 8, 9, 10, 11, 12, 13, 14, 15, 26, 27, 28, 29, 30, 31, 32] (by decide +kernel) (by decide +kernel)
set_option maxRecDepth 20000 in
theorem gX2_firstThatHolds_X0_holds : GoodIn wsX2_firstThatHolds (wsV RX2 128 RX0 yX0_holds wsX0_holds) := goodIn_app (goodIn_of _ (by decide +kernel)) ggX2_firstThatHolds_X0_holds
theorem dX2_firstThatHolds_0 : decode cX2_firstThatHolds 0 = .ok (.iconst 0, 1) := by decide +kernel
theorem dX2_firstThatHolds_1 : decode cX2_firstThatHolds 1 = .ok (.istore_n 1, 1) := by decide +kernel
theorem dX2_firstThatHolds_2 : decode cX2_firstThatHolds 2 = .ok (.iload_n 1, 1) := by decide +kernel
theorem dX2_firstThatHolds_3 : decode cX2_firstThatHolds 3 = .ok (.aload_n 0, 1) := by decide +kernel
theorem dX2_firstThatHolds_4 : decode cX2_firstThatHolds 4 = .ok (.getfield 33, 3) := by decide +kernel
theorem dX2_firstThatHolds_7 : decode cX2_firstThatHolds 7 = .ok (.getfield 137, 3) := by decide +kernel
theorem dX2_firstThatHolds_10 : decode cX2_firstThatHolds 10 = .ok (.if_icmp .ge 30, 3) := by decide +kernel
theorem dX2_firstThatHolds_13 : decode cX2_firstThatHolds 13 = .ok (.aload_n 0, 1) := by decide +kernel
theorem dX2_firstThatHolds_14 : decode cX2_firstThatHolds 14 = .ok (.getfield 10, 3) := by decide +kernel
theorem dX2_firstThatHolds_17 : decode cX2_firstThatHolds 17 = .ok (.aload_n 0, 1) := by decide +kernel
theorem dX2_firstThatHolds_18 : decode cX2_firstThatHolds 18 = .ok (.getfield 33, 3) := by decide +kernel
theorem dX2_firstThatHolds_21 : decode cX2_firstThatHolds 21 = .ok (.getfield 143, 3) := by decide +kernel
theorem dX2_firstThatHolds_24 : decode cX2_firstThatHolds 24 = .ok (.iload_n 1, 1) := by decide +kernel
theorem dX2_firstThatHolds_25 : decode cX2_firstThatHolds 25 = .ok (.iaload, 1) := by decide +kernel
theorem dX2_firstThatHolds_26 : decode cX2_firstThatHolds 26 = .ok (.invokevirtual 128, 3) := by decide +kernel
theorem dX2_firstThatHolds_29 : decode cX2_firstThatHolds 29 = .ok (.ifCond .eq 5, 3) := by decide +kernel
theorem dX2_firstThatHolds_32 : decode cX2_firstThatHolds 32 = .ok (.iload_n 1, 1) := by decide +kernel
theorem dX2_firstThatHolds_33 : decode cX2_firstThatHolds 33 = .ok (.ireturn, 1) := by decide +kernel
theorem dX2_firstThatHolds_34 : decode cX2_firstThatHolds 34 = .ok (.iinc 1 1, 3) := by decide +kernel
theorem dX2_firstThatHolds_37 : decode cX2_firstThatHolds 37 = .ok (.goto (-35), 3) := by decide +kernel
theorem dX2_firstThatHolds_40 : decode cX2_firstThatHolds 40 = .ok (.bipush (-6), 2) := by decide +kernel
theorem dX2_firstThatHolds_42 : decode cX2_firstThatHolds 42 = .ok (.ireturn, 1) := by decide +kernel
theorem dX2_openFor_0 : decode cX2_openFor 0 = .ok (.iload_n 1, 1) := by decide +kernel
theorem dX2_openFor_1 : decode cX2_openFor 1 = .ok (.istore_n 2, 1) := by decide +kernel
theorem dX2_openFor_2 : decode cX2_openFor 2 = .ok (.getstatic 184, 3) := by decide +kernel
theorem dX2_openFor_5 : decode cX2_openFor 5 = .ok (.arraylength, 1) := by decide +kernel
theorem dX2_openFor_6 : decode cX2_openFor 6 = .ok (.iconst 1, 1) := by decide +kernel
theorem dX2_openFor_7 : decode cX2_openFor 7 = .ok (.isub, 1) := by decide +kernel
theorem dX2_openFor_8 : decode cX2_openFor 8 = .ok (.istore_n 3, 1) := by decide +kernel
theorem dX2_openFor_9 : decode cX2_openFor 9 = .ok (.iload_n 3, 1) := by decide +kernel
theorem dX2_openFor_10 : decode cX2_openFor 10 = .ok (.ifCond .lt 52, 3) := by decide +kernel
theorem dX2_openFor_13 : decode cX2_openFor 13 = .ok (.iconst 1, 1) := by decide +kernel
theorem dX2_openFor_14 : decode cX2_openFor 14 = .ok (.iload_n 3, 1) := by decide +kernel
theorem dX2_openFor_15 : decode cX2_openFor 15 = .ok (.ishl, 1) := by decide +kernel
theorem dX2_openFor_16 : decode cX2_openFor 16 = .ok (.istore 4, 2) := by decide +kernel
theorem dX2_openFor_18 : decode cX2_openFor 18 = .ok (.getstatic 184, 3) := by decide +kernel
theorem dX2_openFor_21 : decode cX2_openFor 21 = .ok (.iload_n 3, 1) := by decide +kernel
theorem dX2_openFor_22 : decode cX2_openFor 22 = .ok (.iaload, 1) := by decide +kernel
theorem dX2_openFor_23 : decode cX2_openFor 23 = .ok (.istore 5, 2) := by decide +kernel
theorem dX2_openFor_25 : decode cX2_openFor 25 = .ok (.iload_n 2, 1) := by decide +kernel
theorem dX2_openFor_26 : decode cX2_openFor 26 = .ok (.iload_n 2, 1) := by decide +kernel
theorem dX2_openFor_27 : decode cX2_openFor 27 = .ok (.iload 4, 2) := by decide +kernel
theorem dX2_openFor_29 : decode cX2_openFor 29 = .ok (.ishr, 1) := by decide +kernel
theorem dX2_openFor_30 : decode cX2_openFor 30 = .ok (.ior, 1) := by decide +kernel
theorem dX2_openFor_31 : decode cX2_openFor 31 = .ok (.iload 5, 2) := by decide +kernel
theorem dX2_openFor_33 : decode cX2_openFor 33 = .ok (.iand, 1) := by decide +kernel
theorem dX2_openFor_34 : decode cX2_openFor 34 = .ok (.istore 6, 2) := by decide +kernel
theorem dX2_openFor_36 : decode cX2_openFor 36 = .ok (.iload_n 2, 1) := by decide +kernel
theorem dX2_openFor_37 : decode cX2_openFor 37 = .ok (.iload_n 2, 1) := by decide +kernel
theorem dX2_openFor_38 : decode cX2_openFor 38 = .ok (.iload 4, 2) := by decide +kernel
theorem dX2_openFor_40 : decode cX2_openFor 40 = .ok (.ishl, 1) := by decide +kernel
theorem dX2_openFor_41 : decode cX2_openFor 41 = .ok (.iand, 1) := by decide +kernel
theorem dX2_openFor_42 : decode cX2_openFor 42 = .ok (.iload 5, 2) := by decide +kernel
theorem dX2_openFor_44 : decode cX2_openFor 44 = .ok (.iload 4, 2) := by decide +kernel
theorem dX2_openFor_46 : decode cX2_openFor 46 = .ok (.ishl, 1) := by decide +kernel
theorem dX2_openFor_47 : decode cX2_openFor 47 = .ok (.iand, 1) := by decide +kernel
theorem dX2_openFor_48 : decode cX2_openFor 48 = .ok (.istore 7, 2) := by decide +kernel
theorem dX2_openFor_50 : decode cX2_openFor 50 = .ok (.iload 6, 2) := by decide +kernel
theorem dX2_openFor_52 : decode cX2_openFor 52 = .ok (.iload 7, 2) := by decide +kernel
theorem dX2_openFor_54 : decode cX2_openFor 54 = .ok (.ior, 1) := by decide +kernel
theorem dX2_openFor_55 : decode cX2_openFor 55 = .ok (.istore_n 2, 1) := by decide +kernel
theorem dX2_openFor_56 : decode cX2_openFor 56 = .ok (.iinc 3 (-1), 3) := by decide +kernel
theorem dX2_openFor_59 : decode cX2_openFor 59 = .ok (.goto (-50), 3) := by decide +kernel
theorem dX2_openFor_62 : decode cX2_openFor 62 = .ok (.iload_n 2, 1) := by decide +kernel
theorem dX2_openFor_63 : decode cX2_openFor 63 = .ok (.aload_n 0, 1) := by decide +kernel
theorem dX2_openFor_64 : decode cX2_openFor 64 = .ok (.getfield 10, 3) := by decide +kernel
theorem dX2_openFor_67 : decode cX2_openFor 67 = .ok (.getfield 83, 3) := by decide +kernel
theorem dX2_openFor_70 : decode cX2_openFor 70 = .ok (.iconst (-1), 1) := by decide +kernel
theorem dX2_openFor_71 : decode cX2_openFor 71 = .ok (.ixor, 1) := by decide +kernel
theorem dX2_openFor_72 : decode cX2_openFor 72 = .ok (.iand, 1) := by decide +kernel
theorem dX2_openFor_73 : decode cX2_openFor 73 = .ok (.ireturn, 1) := by decide +kernel
set_option maxRecDepth 20000 in
theorem ggX2_leastSetThatOpens_X2_places : GoodIn wsX2_leastSetThatOpens wsX2_places := goodIn_r _ [5, 6, 19, 20, 21, 22, 23, 24, 25, 26, 27, 28, 29, 30, 31, 32] (by decide +kernel) (by decide +kernel)
set_option maxRecDepth 20000 in
theorem gX2_leastSetThatOpens_X2_places : GoodIn wsX2_leastSetThatOpens (wsV RX2 90 RX2 yX2_places wsX2_places) := goodIn_app (goodIn_of _ (by decide +kernel)) ggX2_leastSetThatOpens_X2_places
set_option maxRecDepth 20000 in
theorem ggX2_leastSetThatOpens_X2_openFor : GoodIn wsX2_leastSetThatOpens wsX2_openFor := goodIn_r _ [10, 11, 6, 19, 20, 21, 22, 23, 24, 25, 26, 27, 28, 29, 30, 31, 32] (by decide +kernel) (by decide +kernel)
set_option maxRecDepth 20000 in
theorem gX2_leastSetThatOpens_X2_openFor : GoodIn wsX2_leastSetThatOpens (wsV RX2 155 RX2 yX2_openFor wsX2_openFor) := goodIn_app (goodIn_of _ (by decide +kernel)) ggX2_leastSetThatOpens_X2_openFor
set_option maxRecDepth 20000 in
theorem ggX2_leastSetThatOpens_X2_nextOfSize : GoodIn wsX2_leastSetThatOpens wsX2_nextOfSize := goodIn_r _ [14, 15, 16, 17, 18] (by decide +kernel) (by decide +kernel)
set_option maxRecDepth 20000 in
theorem gX2_leastSetThatOpens_X2_nextOfSize : GoodIn wsX2_leastSetThatOpens (va_wsS RX2 193 yX2_nextOfSize wsX2_nextOfSize) := goodIn_app (goodIn_of _ (by decide +kernel)) ggX2_leastSetThatOpens_X2_nextOfSize
theorem dX2_leastSetThatOpens_0 : decode cX2_leastSetThatOpens 0 = .ok (.iconst 1, 1) := by decide +kernel
theorem dX2_leastSetThatOpens_1 : decode cX2_leastSetThatOpens 1 = .ok (.aload_n 0, 1) := by decide +kernel
theorem dX2_leastSetThatOpens_2 : decode cX2_leastSetThatOpens 2 = .ok (.invokevirtual 90, 3) := by decide +kernel
theorem dX2_leastSetThatOpens_5 : decode cX2_leastSetThatOpens 5 = .ok (.ishl, 1) := by decide +kernel
theorem dX2_leastSetThatOpens_6 : decode cX2_leastSetThatOpens 6 = .ok (.istore_n 2, 1) := by decide +kernel
theorem dX2_leastSetThatOpens_7 : decode cX2_leastSetThatOpens 7 = .ok (.iconst 1, 1) := by decide +kernel
theorem dX2_leastSetThatOpens_8 : decode cX2_leastSetThatOpens 8 = .ok (.iload_n 1, 1) := by decide +kernel
theorem dX2_leastSetThatOpens_9 : decode cX2_leastSetThatOpens 9 = .ok (.ishl, 1) := by decide +kernel
theorem dX2_leastSetThatOpens_10 : decode cX2_leastSetThatOpens 10 = .ok (.iconst 1, 1) := by decide +kernel
theorem dX2_leastSetThatOpens_11 : decode cX2_leastSetThatOpens 11 = .ok (.isub, 1) := by decide +kernel
theorem dX2_leastSetThatOpens_12 : decode cX2_leastSetThatOpens 12 = .ok (.istore_n 3, 1) := by decide +kernel
theorem dX2_leastSetThatOpens_13 : decode cX2_leastSetThatOpens 13 = .ok (.iconst 0, 1) := by decide +kernel
theorem dX2_leastSetThatOpens_14 : decode cX2_leastSetThatOpens 14 = .ok (.istore 4, 2) := by decide +kernel
theorem dX2_leastSetThatOpens_16 : decode cX2_leastSetThatOpens 16 = .ok (.iload 4, 2) := by decide +kernel
theorem dX2_leastSetThatOpens_18 : decode cX2_leastSetThatOpens 18 = .ok (.iload_n 2, 1) := by decide +kernel
theorem dX2_leastSetThatOpens_19 : decode cX2_leastSetThatOpens 19 = .ok (.if_icmp .ge 29, 3) := by decide +kernel
theorem dX2_leastSetThatOpens_22 : decode cX2_leastSetThatOpens 22 = .ok (.iload_n 3, 1) := by decide +kernel
theorem dX2_leastSetThatOpens_23 : decode cX2_leastSetThatOpens 23 = .ok (.iload_n 2, 1) := by decide +kernel
theorem dX2_leastSetThatOpens_24 : decode cX2_leastSetThatOpens 24 = .ok (.if_icmp .ge 24, 3) := by decide +kernel
theorem dX2_leastSetThatOpens_27 : decode cX2_leastSetThatOpens 27 = .ok (.aload_n 0, 1) := by decide +kernel
theorem dX2_leastSetThatOpens_28 : decode cX2_leastSetThatOpens 28 = .ok (.iload_n 3, 1) := by decide +kernel
theorem dX2_leastSetThatOpens_29 : decode cX2_leastSetThatOpens 29 = .ok (.invokevirtual 155, 3) := by decide +kernel
theorem dX2_leastSetThatOpens_32 : decode cX2_leastSetThatOpens 32 = .ok (.ifCond .eq 5, 3) := by decide +kernel
theorem dX2_leastSetThatOpens_35 : decode cX2_leastSetThatOpens 35 = .ok (.iload_n 3, 1) := by decide +kernel
theorem dX2_leastSetThatOpens_36 : decode cX2_leastSetThatOpens 36 = .ok (.ireturn, 1) := by decide +kernel
theorem dX2_leastSetThatOpens_37 : decode cX2_leastSetThatOpens 37 = .ok (.iload_n 3, 1) := by decide +kernel
theorem dX2_leastSetThatOpens_38 : decode cX2_leastSetThatOpens 38 = .ok (.invokestatic 193, 3) := by decide +kernel
theorem dX2_leastSetThatOpens_41 : decode cX2_leastSetThatOpens 41 = .ok (.istore_n 3, 1) := by decide +kernel
theorem dX2_leastSetThatOpens_42 : decode cX2_leastSetThatOpens 42 = .ok (.iinc 4 1, 3) := by decide +kernel
theorem dX2_leastSetThatOpens_45 : decode cX2_leastSetThatOpens 45 = .ok (.goto (-29), 3) := by decide +kernel
theorem dX2_leastSetThatOpens_48 : decode cX2_leastSetThatOpens 48 = .ok (.bipush (-6), 2) := by decide +kernel
theorem dX2_leastSetThatOpens_50 : decode cX2_leastSetThatOpens 50 = .ok (.ireturn, 1) := by decide +kernel
theorem dX2_imageAt_0 : decode cX2_imageAt 0 = .ok (.iload_n 1, 1) := by decide +kernel
theorem dX2_imageAt_1 : decode cX2_imageAt 1 = .ok (.ifCond .ne 10, 3) := by decide +kernel
theorem dX2_imageAt_4 : decode cX2_imageAt 4 = .ok (.aload_n 0, 1) := by decide +kernel
theorem dX2_imageAt_5 : decode cX2_imageAt 5 = .ok (.getfield 16, 3) := by decide +kernel
theorem dX2_imageAt_8 : decode cX2_imageAt 8 = .ok (.goto 7, 3) := by decide +kernel
theorem dX2_imageAt_11 : decode cX2_imageAt 11 = .ok (.aload_n 0, 1) := by decide +kernel
theorem dX2_imageAt_12 : decode cX2_imageAt 12 = .ok (.getfield 19, 3) := by decide +kernel
theorem dX2_imageAt_15 : decode cX2_imageAt 15 = .ok (.areturn, 1) := by decide +kernel
theorem dX2_checkCounted_0 : decode cX2_checkCounted 0 = .ok (.iload_n 1, 1) := by decide +kernel
theorem dX2_checkCounted_1 : decode cX2_checkCounted 1 = .ok (.bipush 10, 2) := by decide +kernel
theorem dX2_checkCounted_3 : decode cX2_checkCounted 3 = .ok (.if_icmp .lt 9, 3) := by decide +kernel
theorem dX2_checkCounted_6 : decode cX2_checkCounted 6 = .ok (.iload_n 1, 1) := by decide +kernel
theorem dX2_checkCounted_7 : decode cX2_checkCounted 7 = .ok (.bipush 13, 2) := by decide +kernel
theorem dX2_checkCounted_9 : decode cX2_checkCounted 9 = .ok (.if_icmp .lt 6, 3) := by decide +kernel
theorem dX2_checkCounted_12 : decode cX2_checkCounted 12 = .ok (.bipush (-2), 2) := by decide +kernel
theorem dX2_checkCounted_14 : decode cX2_checkCounted 14 = .ok (.ireturn, 1) := by decide +kernel
theorem dX2_checkCounted_15 : decode cX2_checkCounted 15 = .ok (.aload_n 0, 1) := by decide +kernel
theorem dX2_checkCounted_16 : decode cX2_checkCounted 16 = .ok (.getfield 10, 3) := by decide +kernel
theorem dX2_checkCounted_19 : decode cX2_checkCounted 19 = .ok (.getfield 152, 3) := by decide +kernel
theorem dX2_checkCounted_22 : decode cX2_checkCounted 22 = .ok (.iload_n 1, 1) := by decide +kernel
theorem dX2_checkCounted_23 : decode cX2_checkCounted 23 = .ok (.bipush 10, 2) := by decide +kernel
theorem dX2_checkCounted_25 : decode cX2_checkCounted 25 = .ok (.isub, 1) := by decide +kernel
theorem dX2_checkCounted_26 : decode cX2_checkCounted 26 = .ok (.iaload, 1) := by decide +kernel
theorem dX2_checkCounted_27 : decode cX2_checkCounted 27 = .ok (.ireturn, 1) := by decide +kernel
theorem dX3_init_0 : decode cX3_init 0 = .ok (.aload_n 0, 1) := by decide +kernel
theorem dX3_init_1 : decode cX3_init 1 = .ok (.invokespecial 1, 3) := by decide +kernel
theorem dX3_init_4 : decode cX3_init 4 = .ok (.aload_n 0, 1) := by decide +kernel
theorem dX3_init_5 : decode cX3_init 5 = .ok (.bipush 24, 2) := by decide +kernel
theorem dX3_init_7 : decode cX3_init 7 = .ok (.newarray .int, 2) := by decide +kernel
theorem dX3_init_9 : decode cX3_init 9 = .ok (.putfield 7, 3) := by decide +kernel
theorem dX3_init_12 : decode cX3_init 12 = .ok (.aload_n 0, 1) := by decide +kernel
theorem dX3_init_13 : decode cX3_init 13 = .ok (.bipush 48, 2) := by decide +kernel
theorem dX3_init_15 : decode cX3_init 15 = .ok (.newarray .int, 2) := by decide +kernel
theorem dX3_init_17 : decode cX3_init 17 = .ok (.putfield 13, 3) := by decide +kernel
theorem dX3_init_20 : decode cX3_init 20 = .ok (.aload_n 0, 1) := by decide +kernel
theorem dX3_init_21 : decode cX3_init 21 = .ok (.iconst 2, 1) := by decide +kernel
theorem dX3_init_22 : decode cX3_init 22 = .ok (.newarray .boolean, 2) := by decide +kernel
theorem dX3_init_24 : decode cX3_init 24 = .ok (.putfield 16, 3) := by decide +kernel
theorem dX3_init_27 : decode cX3_init 27 = .ok (.aload_n 0, 1) := by decide +kernel
theorem dX3_init_28 : decode cX3_init 28 = .ok (.bipush 16, 2) := by decide +kernel
theorem dX3_init_30 : decode cX3_init 30 = .ok (.newarray .int, 2) := by decide +kernel
theorem dX3_init_32 : decode cX3_init 32 = .ok (.putfield 20, 3) := by decide +kernel
theorem dX3_init_35 : decode cX3_init 35 = .ok (.aload_n 0, 1) := by decide +kernel
theorem dX3_init_36 : decode cX3_init 36 = .ok (.bipush 16, 2) := by decide +kernel
theorem dX3_init_38 : decode cX3_init 38 = .ok (.newarray .int, 2) := by decide +kernel
theorem dX3_init_40 : decode cX3_init 40 = .ok (.putfield 23, 3) := by decide +kernel
theorem dX3_init_43 : decode cX3_init 43 = .ok (.aload_n 0, 1) := by decide +kernel
theorem dX3_init_44 : decode cX3_init 44 = .ok (.bipush 16, 2) := by decide +kernel
theorem dX3_init_46 : decode cX3_init 46 = .ok (.newarray .int, 2) := by decide +kernel
theorem dX3_init_48 : decode cX3_init 48 = .ok (.putfield 26, 3) := by decide +kernel
theorem dX3_init_51 : decode cX3_init 51 = .ok (.aload_n 0, 1) := by decide +kernel
theorem dX3_init_52 : decode cX3_init 52 = .ok (.getfield 7, 3) := by decide +kernel
theorem dX3_init_55 : decode cX3_init 55 = .ok (.iconst 0, 1) := by decide +kernel
theorem dX3_init_56 : decode cX3_init 56 = .ok (.iconst 3, 1) := by decide +kernel
theorem dX3_init_57 : decode cX3_init 57 = .ok (.iastore, 1) := by decide +kernel
theorem dX3_init_58 : decode cX3_init 58 = .ok (.aload_n 0, 1) := by decide +kernel
theorem dX3_init_59 : decode cX3_init 59 = .ok (.getfield 7, 3) := by decide +kernel
theorem dX3_init_62 : decode cX3_init 62 = .ok (.iconst 1, 1) := by decide +kernel
theorem dX3_init_63 : decode cX3_init 63 = .ok (.iconst 1, 1) := by decide +kernel
theorem dX3_init_64 : decode cX3_init 64 = .ok (.iastore, 1) := by decide +kernel
theorem dX3_init_65 : decode cX3_init 65 = .ok (.aload_n 0, 1) := by decide +kernel
theorem dX3_init_66 : decode cX3_init 66 = .ok (.getfield 7, 3) := by decide +kernel
theorem dX3_init_69 : decode cX3_init 69 = .ok (.iconst 2, 1) := by decide +kernel
theorem dX3_init_70 : decode cX3_init 70 = .ok (.iconst 2, 1) := by decide +kernel
theorem dX3_init_71 : decode cX3_init 71 = .ok (.iastore, 1) := by decide +kernel
theorem dX3_init_72 : decode cX3_init 72 = .ok (.aload_n 0, 1) := by decide +kernel
theorem dX3_init_73 : decode cX3_init 73 = .ok (.getfield 7, 3) := by decide +kernel
theorem dX3_init_76 : decode cX3_init 76 = .ok (.iconst 4, 1) := by decide +kernel
theorem dX3_init_77 : decode cX3_init 77 = .ok (.iconst 1, 1) := by decide +kernel
theorem dX3_init_78 : decode cX3_init 78 = .ok (.iastore, 1) := by decide +kernel
theorem dX3_init_79 : decode cX3_init 79 = .ok (.return_, 1) := by decide +kernel
theorem dX3_in_0 : decode cX3_in 0 = .ok (.iload_n 0, 1) := by decide +kernel
theorem dX3_in_1 : decode cX3_in 1 = .ok (.iload_n 1, 1) := by decide +kernel
theorem dX3_in_2 : decode cX3_in 2 = .ok (.if_icmp .lt 12, 3) := by decide +kernel
theorem dX3_in_5 : decode cX3_in 5 = .ok (.iload_n 0, 1) := by decide +kernel
theorem dX3_in_6 : decode cX3_in 6 = .ok (.iload_n 2, 1) := by decide +kernel
theorem dX3_in_7 : decode cX3_in 7 = .ok (.if_icmp .gt 7, 3) := by decide +kernel
theorem dX3_in_10 : decode cX3_in 10 = .ok (.iconst 1, 1) := by decide +kernel
theorem dX3_in_11 : decode cX3_in 11 = .ok (.goto 4, 3) := by decide +kernel
theorem dX3_in_14 : decode cX3_in 14 = .ok (.iconst 0, 1) := by decide +kernel
theorem dX3_in_15 : decode cX3_in 15 = .ok (.ireturn, 1) := by decide +kernel
theorem dX3_places_0 : decode cX3_places 0 = .ok (.iconst 1, 1) := by decide +kernel
theorem dX3_places_1 : decode cX3_places 1 = .ok (.aload_n 0, 1) := by decide +kernel
theorem dX3_places_2 : decode cX3_places 2 = .ok (.getfield 7, 3) := by decide +kernel
theorem dX3_places_5 : decode cX3_places 5 = .ok (.iconst 0, 1) := by decide +kernel
theorem dX3_places_6 : decode cX3_places 6 = .ok (.iaload, 1) := by decide +kernel
theorem dX3_places_7 : decode cX3_places 7 = .ok (.ishl, 1) := by decide +kernel
theorem dX3_places_8 : decode cX3_places 8 = .ok (.ireturn, 1) := by decide +kernel
set_option maxRecDepth 20000 in
theorem ggX3_isPlace_X3_places : GoodIn wsX3_isPlace wsX3_places := goodIn_r _ [5, 6, 10, 11, 12, 13, 14, 15, 16] (by decide +kernel) (by decide +kernel)
set_option maxRecDepth 20000 in
theorem gX3_isPlace_X3_places : GoodIn wsX3_isPlace (wsV RX3 29 RX3 yX3_places wsX3_places) := goodIn_app (goodIn_of _ (by decide +kernel)) ggX3_isPlace_X3_places
set_option maxRecDepth 20000 in
theorem ggX3_isPlace_X3_in : GoodIn wsX3_isPlace wsX3_in := goodIn_r _ [9] (by decide +kernel) (by decide +kernel)
set_option maxRecDepth 20000 in
theorem gX3_isPlace_X3_in : GoodIn wsX3_isPlace (va_wsS RX3 33 yX3_in wsX3_in) := goodIn_app (goodIn_of _ (by decide +kernel)) ggX3_isPlace_X3_in
theorem dX3_isPlace_0 : decode cX3_isPlace 0 = .ok (.iload_n 1, 1) := by decide +kernel
theorem dX3_isPlace_1 : decode cX3_isPlace 1 = .ok (.iconst 0, 1) := by decide +kernel
theorem dX3_isPlace_2 : decode cX3_isPlace 2 = .ok (.aload_n 0, 1) := by decide +kernel
theorem dX3_isPlace_3 : decode cX3_isPlace 3 = .ok (.invokevirtual 29, 3) := by decide +kernel
theorem dX3_isPlace_6 : decode cX3_isPlace 6 = .ok (.iconst 1, 1) := by decide +kernel
theorem dX3_isPlace_7 : decode cX3_isPlace 7 = .ok (.isub, 1) := by decide +kernel
theorem dX3_isPlace_8 : decode cX3_isPlace 8 = .ok (.invokestatic 33, 3) := by decide +kernel
theorem dX3_isPlace_11 : decode cX3_isPlace 11 = .ok (.ireturn, 1) := by decide +kernel
set_option maxRecDepth 20000 in
theorem ggX3_isRow_X3_places : GoodIn wsX3_isRow wsX3_places := goodIn_r _ [5, 6, 10, 11, 12, 13, 14, 15, 16] (by decide +kernel) (by decide +kernel)
set_option maxRecDepth 20000 in
theorem gX3_isRow_X3_places : GoodIn wsX3_isRow (wsV RX3 29 RX3 yX3_places wsX3_places) := goodIn_app (goodIn_of _ (by decide +kernel)) ggX3_isRow_X3_places
set_option maxRecDepth 20000 in
theorem ggX3_isRow_X3_in : GoodIn wsX3_isRow wsX3_in := goodIn_r _ [9] (by decide +kernel) (by decide +kernel)
set_option maxRecDepth 20000 in
theorem gX3_isRow_X3_in : GoodIn wsX3_isRow (va_wsS RX3 33 yX3_in wsX3_in) := goodIn_app (goodIn_of _ (by decide +kernel)) ggX3_isRow_X3_in
theorem dX3_isRow_0 : decode cX3_isRow 0 = .ok (.iload_n 1, 1) := by decide +kernel
theorem dX3_isRow_1 : decode cX3_isRow 1 = .ok (.iconst 0, 1) := by decide +kernel
theorem dX3_isRow_2 : decode cX3_isRow 2 = .ok (.iconst 1, 1) := by decide +kernel
theorem dX3_isRow_3 : decode cX3_isRow 3 = .ok (.aload_n 0, 1) := by decide +kernel
theorem dX3_isRow_4 : decode cX3_isRow 4 = .ok (.invokevirtual 29, 3) := by decide +kernel
theorem dX3_isRow_7 : decode cX3_isRow 7 = .ok (.ishl, 1) := by decide +kernel
theorem dX3_isRow_8 : decode cX3_isRow 8 = .ok (.iconst 1, 1) := by decide +kernel
theorem dX3_isRow_9 : decode cX3_isRow 9 = .ok (.isub, 1) := by decide +kernel
theorem dX3_isRow_10 : decode cX3_isRow 10 = .ok (.invokestatic 33, 3) := by decide +kernel
theorem dX3_isRow_13 : decode cX3_isRow 13 = .ok (.ireturn, 1) := by decide +kernel
theorem dX3_size_0 : decode cX3_size 0 = .ok (.iconst 0, 1) := by decide +kernel
theorem dX3_size_1 : decode cX3_size 1 = .ok (.istore_n 1, 1) := by decide +kernel
theorem dX3_size_2 : decode cX3_size 2 = .ok (.iconst 0, 1) := by decide +kernel
theorem dX3_size_3 : decode cX3_size 3 = .ok (.istore_n 2, 1) := by decide +kernel
theorem dX3_size_4 : decode cX3_size 4 = .ok (.iload_n 2, 1) := by decide +kernel
theorem dX3_size_5 : decode cX3_size 5 = .ok (.bipush 16, 2) := by decide +kernel
theorem dX3_size_7 : decode cX3_size 7 = .ok (.if_icmp .ge 17, 3) := by decide +kernel
theorem dX3_size_10 : decode cX3_size 10 = .ok (.iload_n 1, 1) := by decide +kernel
theorem dX3_size_11 : decode cX3_size 11 = .ok (.iload_n 0, 1) := by decide +kernel
theorem dX3_size_12 : decode cX3_size 12 = .ok (.iload_n 2, 1) := by decide +kernel
theorem dX3_size_13 : decode cX3_size 13 = .ok (.ishr, 1) := by decide +kernel
theorem dX3_size_14 : decode cX3_size 14 = .ok (.iconst 1, 1) := by decide +kernel
theorem dX3_size_15 : decode cX3_size 15 = .ok (.iand, 1) := by decide +kernel
theorem dX3_size_16 : decode cX3_size 16 = .ok (.iadd, 1) := by decide +kernel
theorem dX3_size_17 : decode cX3_size 17 = .ok (.istore_n 1, 1) := by decide +kernel
theorem dX3_size_18 : decode cX3_size 18 = .ok (.iinc 2 1, 3) := by decide +kernel
theorem dX3_size_21 : decode cX3_size 21 = .ok (.goto (-17), 3) := by decide +kernel
theorem dX3_size_24 : decode cX3_size 24 = .ok (.iload_n 1, 1) := by decide +kernel
theorem dX3_size_25 : decode cX3_size 25 = .ok (.ireturn, 1) := by decide +kernel
theorem dX3_plain_0 : decode cX3_plain 0 = .ok (.iload_n 0, 1) := by decide +kernel
theorem dX3_plain_1 : decode cX3_plain 1 = .ok (.ifCond .ge 8, 3) := by decide +kernel
theorem dX3_plain_4 : decode cX3_plain 4 = .ok (.iload_n 0, 1) := by decide +kernel
theorem dX3_plain_5 : decode cX3_plain 5 = .ok (.ineg, 1) := by decide +kernel
theorem dX3_plain_6 : decode cX3_plain 6 = .ok (.goto 4, 3) := by decide +kernel
theorem dX3_plain_9 : decode cX3_plain 9 = .ok (.iload_n 0, 1) := by decide +kernel
theorem dX3_plain_10 : decode cX3_plain 10 = .ok (.ireturn, 1) := by decide +kernel
set_option maxRecDepth 20000 in
theorem ggX3_free_X3_places : GoodIn wsX3_free wsX3_places := goodIn_r _ [6, 1, 7, 8, 9, 10, 11, 12, 13] (by decide +kernel) (by decide +kernel)
set_option maxRecDepth 20000 in
theorem gX3_free_X3_places : GoodIn wsX3_free (wsV RX3 29 RX3 yX3_places wsX3_places) := goodIn_app (goodIn_of _ (by decide +kernel)) ggX3_free_X3_places
theorem dX3_free_0 : decode cX3_free 0 = .ok (.iconst 1, 1) := by decide +kernel
theorem dX3_free_1 : decode cX3_free 1 = .ok (.aload_n 0, 1) := by decide +kernel
theorem dX3_free_2 : decode cX3_free 2 = .ok (.invokevirtual 29, 3) := by decide +kernel
theorem dX3_free_5 : decode cX3_free 5 = .ok (.ishl, 1) := by decide +kernel
theorem dX3_free_6 : decode cX3_free 6 = .ok (.iconst 1, 1) := by decide +kernel
theorem dX3_free_7 : decode cX3_free 7 = .ok (.isub, 1) := by decide +kernel
theorem dX3_free_8 : decode cX3_free 8 = .ok (.aload_n 0, 1) := by decide +kernel
theorem dX3_free_9 : decode cX3_free 9 = .ok (.getfield 7, 3) := by decide +kernel
theorem dX3_free_12 : decode cX3_free 12 = .ok (.iconst 3, 1) := by decide +kernel
theorem dX3_free_13 : decode cX3_free 13 = .ok (.iaload, 1) := by decide +kernel
theorem dX3_free_14 : decode cX3_free 14 = .ok (.iconst (-1), 1) := by decide +kernel
theorem dX3_free_15 : decode cX3_free 15 = .ok (.ixor, 1) := by decide +kernel
theorem dX3_free_16 : decode cX3_free 16 = .ok (.iand, 1) := by decide +kernel
theorem dX3_free_17 : decode cX3_free 17 = .ok (.ireturn, 1) := by decide +kernel
set_option maxRecDepth 20000 in
theorem ggX3_deep_X3_in : GoodIn wsX3_deep wsX3_in := goodIn_r _ [5] (by decide +kernel) (by decide +kernel)
set_option maxRecDepth 20000 in
theorem gX3_deep_X3_in : GoodIn wsX3_deep (va_wsS RX3 33 yX3_in wsX3_in) := goodIn_app (goodIn_of _ (by decide +kernel)) ggX3_deep_X3_in
theorem dX3_deep_0 : decode cX3_deep 0 = .ok (.iload_n 1, 1) := by decide +kernel
theorem dX3_deep_1 : decode cX3_deep 1 = .ok (.iconst 1, 1) := by decide +kernel
theorem dX3_deep_2 : decode cX3_deep 2 = .ok (.iconst 4, 1) := by decide +kernel
theorem dX3_deep_3 : decode cX3_deep 3 = .ok (.invokestatic 33, 3) := by decide +kernel
theorem dX3_deep_6 : decode cX3_deep 6 = .ok (.ifCond .ne 6, 3) := by decide +kernel
theorem dX3_deep_9 : decode cX3_deep 9 = .ok (.bipush (-2), 2) := by decide +kernel
theorem dX3_deep_11 : decode cX3_deep 11 = .ok (.ireturn, 1) := by decide +kernel
theorem dX3_deep_12 : decode cX3_deep 12 = .ok (.aload_n 0, 1) := by decide +kernel
theorem dX3_deep_13 : decode cX3_deep 13 = .ok (.getfield 7, 3) := by decide +kernel
theorem dX3_deep_16 : decode cX3_deep 16 = .ok (.iconst 0, 1) := by decide +kernel
theorem dX3_deep_17 : decode cX3_deep 17 = .ok (.iaload, 1) := by decide +kernel
theorem dX3_deep_18 : decode cX3_deep 18 = .ok (.istore_n 2, 1) := by decide +kernel
theorem dX3_deep_19 : decode cX3_deep 19 = .ok (.aload_n 0, 1) := by decide +kernel
theorem dX3_deep_20 : decode cX3_deep 20 = .ok (.getfield 7, 3) := by decide +kernel
theorem dX3_deep_23 : decode cX3_deep 23 = .ok (.iconst 0, 1) := by decide +kernel
theorem dX3_deep_24 : decode cX3_deep 24 = .ok (.iload_n 1, 1) := by decide +kernel
theorem dX3_deep_25 : decode cX3_deep 25 = .ok (.iastore, 1) := by decide +kernel
theorem dX3_deep_26 : decode cX3_deep 26 = .ok (.aload_n 0, 1) := by decide +kernel
theorem dX3_deep_27 : decode cX3_deep 27 = .ok (.getfield 7, 3) := by decide +kernel
theorem dX3_deep_30 : decode cX3_deep 30 = .ok (.iconst 3, 1) := by decide +kernel
theorem dX3_deep_31 : decode cX3_deep 31 = .ok (.iconst 0, 1) := by decide +kernel
theorem dX3_deep_32 : decode cX3_deep 32 = .ok (.iastore, 1) := by decide +kernel
theorem dX3_deep_33 : decode cX3_deep 33 = .ok (.iconst 5, 1) := by decide +kernel
theorem dX3_deep_34 : decode cX3_deep 34 = .ok (.istore_n 3, 1) := by decide +kernel
theorem dX3_deep_35 : decode cX3_deep 35 = .ok (.iload_n 3, 1) := by decide +kernel
theorem dX3_deep_36 : decode cX3_deep 36 = .ok (.bipush 24, 2) := by decide +kernel
theorem dX3_deep_38 : decode cX3_deep 38 = .ok (.if_icmp .ge 16, 3) := by decide +kernel
theorem dX3_deep_41 : decode cX3_deep 41 = .ok (.aload_n 0, 1) := by decide +kernel
theorem dX3_deep_42 : decode cX3_deep 42 = .ok (.getfield 7, 3) := by decide +kernel
theorem dX3_deep_45 : decode cX3_deep 45 = .ok (.iload_n 3, 1) := by decide +kernel
theorem dX3_deep_46 : decode cX3_deep 46 = .ok (.iconst 0, 1) := by decide +kernel
theorem dX3_deep_47 : decode cX3_deep 47 = .ok (.iastore, 1) := by decide +kernel
theorem dX3_deep_48 : decode cX3_deep 48 = .ok (.iinc 3 1, 3) := by decide +kernel
theorem dX3_deep_51 : decode cX3_deep 51 = .ok (.goto (-16), 3) := by decide +kernel
theorem dX3_deep_54 : decode cX3_deep 54 = .ok (.iload_n 2, 1) := by decide +kernel
theorem dX3_deep_55 : decode cX3_deep 55 = .ok (.ireturn, 1) := by decide +kernel
set_option maxRecDepth 20000 in
theorem ggX3_loss_X3_in : GoodIn wsX3_loss wsX3_in := goodIn_r _ [5] (by decide +kernel) (by decide +kernel)
set_option maxRecDepth 20000 in
theorem gX3_loss_X3_in : GoodIn wsX3_loss (va_wsS RX3 33 yX3_in wsX3_in) := goodIn_app (goodIn_of _ (by decide +kernel)) ggX3_loss_X3_in
theorem dX3_loss_0 : decode cX3_loss 0 = .ok (.iload_n 2, 1) := by decide +kernel
theorem dX3_loss_1 : decode cX3_loss 1 = .ok (.iconst 2, 1) := by decide +kernel
theorem dX3_loss_2 : decode cX3_loss 2 = .ok (.bipush 10, 2) := by decide +kernel
theorem dX3_loss_4 : decode cX3_loss 4 = .ok (.invokestatic 33, 3) := by decide +kernel
theorem dX3_loss_7 : decode cX3_loss 7 = .ok (.ifCond .eq 12, 3) := by decide +kernel
theorem dX3_loss_10 : decode cX3_loss 10 = .ok (.iload_n 1, 1) := by decide +kernel
theorem dX3_loss_11 : decode cX3_loss 11 = .ok (.iconst 0, 1) := by decide +kernel
theorem dX3_loss_12 : decode cX3_loss 12 = .ok (.iload_n 2, 1) := by decide +kernel
theorem dX3_loss_13 : decode cX3_loss 13 = .ok (.invokestatic 33, 3) := by decide +kernel
theorem dX3_loss_16 : decode cX3_loss 16 = .ok (.ifCond .ne 6, 3) := by decide +kernel
theorem dX3_loss_19 : decode cX3_loss 19 = .ok (.bipush (-2), 2) := by decide +kernel
theorem dX3_loss_21 : decode cX3_loss 21 = .ok (.ireturn, 1) := by decide +kernel
theorem dX3_loss_22 : decode cX3_loss 22 = .ok (.aload_n 0, 1) := by decide +kernel
theorem dX3_loss_23 : decode cX3_loss 23 = .ok (.getfield 7, 3) := by decide +kernel
theorem dX3_loss_26 : decode cX3_loss 26 = .ok (.iconst 2, 1) := by decide +kernel
theorem dX3_loss_27 : decode cX3_loss 27 = .ok (.iaload, 1) := by decide +kernel
theorem dX3_loss_28 : decode cX3_loss 28 = .ok (.istore_n 3, 1) := by decide +kernel
theorem dX3_loss_29 : decode cX3_loss 29 = .ok (.aload_n 0, 1) := by decide +kernel
theorem dX3_loss_30 : decode cX3_loss 30 = .ok (.getfield 7, 3) := by decide +kernel
theorem dX3_loss_33 : decode cX3_loss 33 = .ok (.iconst 1, 1) := by decide +kernel
theorem dX3_loss_34 : decode cX3_loss 34 = .ok (.iload_n 1, 1) := by decide +kernel
theorem dX3_loss_35 : decode cX3_loss 35 = .ok (.iastore, 1) := by decide +kernel
theorem dX3_loss_36 : decode cX3_loss 36 = .ok (.aload_n 0, 1) := by decide +kernel
theorem dX3_loss_37 : decode cX3_loss 37 = .ok (.getfield 7, 3) := by decide +kernel
theorem dX3_loss_40 : decode cX3_loss 40 = .ok (.iconst 2, 1) := by decide +kernel
theorem dX3_loss_41 : decode cX3_loss 41 = .ok (.iload_n 2, 1) := by decide +kernel
theorem dX3_loss_42 : decode cX3_loss 42 = .ok (.iastore, 1) := by decide +kernel
theorem dX3_loss_43 : decode cX3_loss 43 = .ok (.iload_n 3, 1) := by decide +kernel
theorem dX3_loss_44 : decode cX3_loss 44 = .ok (.ireturn, 1) := by decide +kernel
theorem dX3_lowOfAll_0 : decode cX3_lowOfAll 0 = .ok (.aload_n 0, 1) := by decide +kernel
theorem dX3_lowOfAll_1 : decode cX3_lowOfAll 1 = .ok (.getfield 7, 3) := by decide +kernel
theorem dX3_lowOfAll_4 : decode cX3_lowOfAll 4 = .ok (.iconst 2, 1) := by decide +kernel
theorem dX3_lowOfAll_5 : decode cX3_lowOfAll 5 = .ok (.iaload, 1) := by decide +kernel
theorem dX3_lowOfAll_6 : decode cX3_lowOfAll 6 = .ok (.i2l, 1) := by decide +kernel
theorem dX3_lowOfAll_7 : decode cX3_lowOfAll 7 = .ok (.lstore_n 1, 1) := by decide +kernel
theorem dX3_lowOfAll_8 : decode cX3_lowOfAll 8 = .ok (.iconst 0, 1) := by decide +kernel
theorem dX3_lowOfAll_9 : decode cX3_lowOfAll 9 = .ok (.istore_n 3, 1) := by decide +kernel
theorem dX3_lowOfAll_10 : decode cX3_lowOfAll 10 = .ok (.iload_n 3, 1) := by decide +kernel
theorem dX3_lowOfAll_11 : decode cX3_lowOfAll 11 = .ok (.aload_n 0, 1) := by decide +kernel
theorem dX3_lowOfAll_12 : decode cX3_lowOfAll 12 = .ok (.getfield 7, 3) := by decide +kernel
theorem dX3_lowOfAll_15 : decode cX3_lowOfAll 15 = .ok (.iconst 0, 1) := by decide +kernel
theorem dX3_lowOfAll_16 : decode cX3_lowOfAll 16 = .ok (.iaload, 1) := by decide +kernel
theorem dX3_lowOfAll_17 : decode cX3_lowOfAll 17 = .ok (.if_icmp .ge 13, 3) := by decide +kernel
theorem dX3_lowOfAll_20 : decode cX3_lowOfAll 20 = .ok (.lload_n 1, 1) := by decide +kernel
theorem dX3_lowOfAll_21 : decode cX3_lowOfAll 21 = .ok (.lload_n 1, 1) := by decide +kernel
theorem dX3_lowOfAll_22 : decode cX3_lowOfAll 22 = .ok (.lmul, 1) := by decide +kernel
theorem dX3_lowOfAll_23 : decode cX3_lowOfAll 23 = .ok (.lstore_n 1, 1) := by decide +kernel
theorem dX3_lowOfAll_24 : decode cX3_lowOfAll 24 = .ok (.iinc 3 1, 3) := by decide +kernel
theorem dX3_lowOfAll_27 : decode cX3_lowOfAll 27 = .ok (.goto (-17), 3) := by decide +kernel
theorem dX3_lowOfAll_30 : decode cX3_lowOfAll 30 = .ok (.lload_n 1, 1) := by decide +kernel
theorem dX3_lowOfAll_31 : decode cX3_lowOfAll 31 = .ok (.lreturn, 1) := by decide +kernel
theorem dX3_upOf_0 : decode cX3_upOf 0 = .ok (.aload_n 0, 1) := by decide +kernel
theorem dX3_upOf_1 : decode cX3_upOf 1 = .ok (.getfield 7, 3) := by decide +kernel
theorem dX3_upOf_4 : decode cX3_upOf 4 = .ok (.iconst 1, 1) := by decide +kernel
theorem dX3_upOf_5 : decode cX3_upOf 5 = .ok (.iaload, 1) := by decide +kernel
theorem dX3_upOf_6 : decode cX3_upOf 6 = .ok (.i2l, 1) := by decide +kernel
theorem dX3_upOf_7 : decode cX3_upOf 7 = .ok (.lstore_n 2, 1) := by decide +kernel
theorem dX3_upOf_8 : decode cX3_upOf 8 = .ok (.aload_n 0, 1) := by decide +kernel
theorem dX3_upOf_9 : decode cX3_upOf 9 = .ok (.getfield 7, 3) := by decide +kernel
theorem dX3_upOf_12 : decode cX3_upOf 12 = .ok (.iconst 2, 1) := by decide +kernel
theorem dX3_upOf_13 : decode cX3_upOf 13 = .ok (.iaload, 1) := by decide +kernel
theorem dX3_upOf_14 : decode cX3_upOf 14 = .ok (.i2l, 1) := by decide +kernel
theorem dX3_upOf_15 : decode cX3_upOf 15 = .ok (.lstore 4, 2) := by decide +kernel
theorem dX3_upOf_17 : decode cX3_upOf 17 = .ok (.aload_n 0, 1) := by decide +kernel
theorem dX3_upOf_18 : decode cX3_upOf 18 = .ok (.getfield 7, 3) := by decide +kernel
theorem dX3_upOf_21 : decode cX3_upOf 21 = .ok (.iconst 0, 1) := by decide +kernel
theorem dX3_upOf_22 : decode cX3_upOf 22 = .ok (.iaload, 1) := by decide +kernel
theorem dX3_upOf_23 : decode cX3_upOf 23 = .ok (.iconst 1, 1) := by decide +kernel
theorem dX3_upOf_24 : decode cX3_upOf 24 = .ok (.isub, 1) := by decide +kernel
theorem dX3_upOf_25 : decode cX3_upOf 25 = .ok (.istore 6, 2) := by decide +kernel
theorem dX3_upOf_27 : decode cX3_upOf 27 = .ok (.iload 6, 2) := by decide +kernel
theorem dX3_upOf_29 : decode cX3_upOf 29 = .ok (.ifCond .lt 44, 3) := by decide +kernel
theorem dX3_upOf_32 : decode cX3_upOf 32 = .ok (.iload_n 1, 1) := by decide +kernel
theorem dX3_upOf_33 : decode cX3_upOf 33 = .ok (.iload 6, 2) := by decide +kernel
theorem dX3_upOf_35 : decode cX3_upOf 35 = .ok (.ishr, 1) := by decide +kernel
theorem dX3_upOf_36 : decode cX3_upOf 36 = .ok (.iconst 1, 1) := by decide +kernel
theorem dX3_upOf_37 : decode cX3_upOf 37 = .ok (.iand, 1) := by decide +kernel
theorem dX3_upOf_38 : decode cX3_upOf 38 = .ok (.ifCond .ne 18, 3) := by decide +kernel
theorem dX3_upOf_41 : decode cX3_upOf 41 = .ok (.ldc2_w 37, 3) := by decide +kernel
theorem dX3_upOf_44 : decode cX3_upOf 44 = .ok (.lload_n 2, 1) := by decide +kernel
theorem dX3_upOf_45 : decode cX3_upOf 45 = .ok (.lmul, 1) := by decide +kernel
theorem dX3_upOf_46 : decode cX3_upOf 46 = .ok (.lload 4, 2) := by decide +kernel
theorem dX3_upOf_48 : decode cX3_upOf 48 = .ok (.lmul, 1) := by decide +kernel
theorem dX3_upOf_49 : decode cX3_upOf 49 = .ok (.lload_n 2, 1) := by decide +kernel
theorem dX3_upOf_50 : decode cX3_upOf 50 = .ok (.lload_n 2, 1) := by decide +kernel
theorem dX3_upOf_51 : decode cX3_upOf 51 = .ok (.lmul, 1) := by decide +kernel
theorem dX3_upOf_52 : decode cX3_upOf 52 = .ok (.lsub, 1) := by decide +kernel
theorem dX3_upOf_53 : decode cX3_upOf 53 = .ok (.goto 6, 3) := by decide +kernel
theorem dX3_upOf_56 : decode cX3_upOf 56 = .ok (.lload_n 2, 1) := by decide +kernel
theorem dX3_upOf_57 : decode cX3_upOf 57 = .ok (.lload_n 2, 1) := by decide +kernel
theorem dX3_upOf_58 : decode cX3_upOf 58 = .ok (.lmul, 1) := by decide +kernel
theorem dX3_upOf_59 : decode cX3_upOf 59 = .ok (.lstore_n 2, 1) := by decide +kernel
theorem dX3_upOf_60 : decode cX3_upOf 60 = .ok (.lload 4, 2) := by decide +kernel
theorem dX3_upOf_62 : decode cX3_upOf 62 = .ok (.lload 4, 2) := by decide +kernel
theorem dX3_upOf_64 : decode cX3_upOf 64 = .ok (.lmul, 1) := by decide +kernel
theorem dX3_upOf_65 : decode cX3_upOf 65 = .ok (.lstore 4, 2) := by decide +kernel
theorem dX3_upOf_67 : decode cX3_upOf 67 = .ok (.iinc 6 (-1), 3) := by decide +kernel
theorem dX3_upOf_70 : decode cX3_upOf 70 = .ok (.goto (-43), 3) := by decide +kernel
theorem dX3_upOf_73 : decode cX3_upOf 73 = .ok (.lload_n 2, 1) := by decide +kernel
theorem dX3_upOf_74 : decode cX3_upOf 74 = .ok (.lreturn, 1) := by decide +kernel
theorem dX3_common_0 : decode cX3_common 0 = .ok (.lload_n 0, 1) := by decide +kernel
theorem dX3_common_1 : decode cX3_common 1 = .ok (.lstore 4, 2) := by decide +kernel
theorem dX3_common_3 : decode cX3_common 3 = .ok (.lload_n 2, 1) := by decide +kernel
theorem dX3_common_4 : decode cX3_common 4 = .ok (.lstore 6, 2) := by decide +kernel
theorem dX3_common_6 : decode cX3_common 6 = .ok (.lload 6, 2) := by decide +kernel
theorem dX3_common_8 : decode cX3_common 8 = .ok (.lconst 0, 1) := by decide +kernel
theorem dX3_common_9 : decode cX3_common 9 = .ok (.lcmp, 1) := by decide +kernel
theorem dX3_common_10 : decode cX3_common 10 = .ok (.ifCond .eq 21, 3) := by decide +kernel
theorem dX3_common_13 : decode cX3_common 13 = .ok (.lload 4, 2) := by decide +kernel
theorem dX3_common_15 : decode cX3_common 15 = .ok (.lload 6, 2) := by decide +kernel
theorem dX3_common_17 : decode cX3_common 17 = .ok (.lrem, 1) := by decide +kernel
theorem dX3_common_18 : decode cX3_common 18 = .ok (.lstore 8, 2) := by decide +kernel
theorem dX3_common_20 : decode cX3_common 20 = .ok (.lload 6, 2) := by decide +kernel
theorem dX3_common_22 : decode cX3_common 22 = .ok (.lstore 4, 2) := by decide +kernel
theorem dX3_common_24 : decode cX3_common 24 = .ok (.lload 8, 2) := by decide +kernel
theorem dX3_common_26 : decode cX3_common 26 = .ok (.lstore 6, 2) := by decide +kernel
theorem dX3_common_28 : decode cX3_common 28 = .ok (.goto (-22), 3) := by decide +kernel
theorem dX3_common_31 : decode cX3_common 31 = .ok (.lload 4, 2) := by decide +kernel
theorem dX3_common_33 : decode cX3_common 33 = .ok (.lreturn, 1) := by decide +kernel
set_option maxRecDepth 20000 in
theorem ggX3_split_X3_isPlace : GoodIn wsX3_split wsX3_isPlace := goodIn_r _ [7, 8, 9, 10, 6, 11, 12, 13, 14, 15, 28, 29, 30, 31, 32, 33, 34] (by decide +kernel) (by decide +kernel)
set_option maxRecDepth 20000 in
theorem gX3_split_X3_isPlace : GoodIn wsX3_split (wsV RX3 39 RX3 yX3_isPlace wsX3_isPlace) := goodIn_app (goodIn_of _ (by decide +kernel)) ggX3_split_X3_isPlace
set_option maxRecDepth 20000 in
theorem ggX3_split_X3_in : GoodIn wsX3_split wsX3_in := goodIn_r _ [15] (by decide +kernel) (by decide +kernel)
set_option maxRecDepth 20000 in
theorem gX3_split_X3_in : GoodIn wsX3_split (va_wsS RX3 33 yX3_in wsX3_in) := goodIn_app (goodIn_of _ (by decide +kernel)) ggX3_split_X3_in
set_option maxRecDepth 20000 in
theorem ggX3_split_X3_upOf : GoodIn wsX3_split wsX3_upOf := goodIn_r _ [19, 12, 20, 28, 29, 30, 31, 32, 33, 34] (by decide +kernel) (by decide +kernel)
set_option maxRecDepth 20000 in
theorem gX3_split_X3_upOf : GoodIn wsX3_split (wsV RX3 47 RX3 yX3_upOf wsX3_upOf) := goodIn_app (goodIn_of _ (by decide +kernel)) ggX3_split_X3_upOf
set_option maxRecDepth 20000 in
theorem ggX3_split_X3_lowOfAll : GoodIn wsX3_split wsX3_lowOfAll := goodIn_r _ [24, 12, 28, 29, 30, 31, 32, 33, 34] (by decide +kernel) (by decide +kernel)
set_option maxRecDepth 20000 in
theorem gX3_split_X3_lowOfAll : GoodIn wsX3_split (wsV RX3 51 RX3 yX3_lowOfAll wsX3_lowOfAll) := goodIn_app (goodIn_of _ (by decide +kernel)) ggX3_split_X3_lowOfAll
set_option maxRecDepth 20000 in
theorem ggX3_split_X3_common : GoodIn wsX3_split wsX3_common := goodIn_r _ [27] (by decide +kernel) (by decide +kernel)
set_option maxRecDepth 20000 in
theorem gX3_split_X3_common : GoodIn wsX3_split (va_wsS RX3 55 yX3_common wsX3_common) := goodIn_app (goodIn_of _ (by decide +kernel)) ggX3_split_X3_common
theorem dX3_split_0 : decode cX3_split 0 = .ok (.aload_n 0, 1) := by decide +kernel
theorem dX3_split_1 : decode cX3_split 1 = .ok (.iload_n 1, 1) := by decide +kernel
theorem dX3_split_2 : decode cX3_split 2 = .ok (.invokevirtual 39, 3) := by decide +kernel
theorem dX3_split_5 : decode cX3_split 5 = .ok (.ifCond .ne 7, 3) := by decide +kernel
theorem dX3_split_8 : decode cX3_split 8 = .ok (.ldc2_w 43, 3) := by decide +kernel
theorem dX3_split_11 : decode cX3_split 11 = .ok (.lreturn, 1) := by decide +kernel
theorem dX3_split_12 : decode cX3_split 12 = .ok (.iload_n 2, 1) := by decide +kernel
theorem dX3_split_13 : decode cX3_split 13 = .ok (.iconst 0, 1) := by decide +kernel
theorem dX3_split_14 : decode cX3_split 14 = .ok (.iconst 1, 1) := by decide +kernel
theorem dX3_split_15 : decode cX3_split 15 = .ok (.invokestatic 33, 3) := by decide +kernel
theorem dX3_split_18 : decode cX3_split 18 = .ok (.ifCond .ne 7, 3) := by decide +kernel
theorem dX3_split_21 : decode cX3_split 21 = .ok (.ldc2_w 45, 3) := by decide +kernel
theorem dX3_split_24 : decode cX3_split 24 = .ok (.lreturn, 1) := by decide +kernel
theorem dX3_split_25 : decode cX3_split 25 = .ok (.aload_n 0, 1) := by decide +kernel
theorem dX3_split_26 : decode cX3_split 26 = .ok (.iload_n 1, 1) := by decide +kernel
theorem dX3_split_27 : decode cX3_split 27 = .ok (.invokevirtual 47, 3) := by decide +kernel
theorem dX3_split_30 : decode cX3_split 30 = .ok (.lstore_n 3, 1) := by decide +kernel
theorem dX3_split_31 : decode cX3_split 31 = .ok (.aload_n 0, 1) := by decide +kernel
theorem dX3_split_32 : decode cX3_split 32 = .ok (.invokevirtual 51, 3) := by decide +kernel
theorem dX3_split_35 : decode cX3_split 35 = .ok (.lstore 5, 2) := by decide +kernel
theorem dX3_split_37 : decode cX3_split 37 = .ok (.lload 5, 2) := by decide +kernel
theorem dX3_split_39 : decode cX3_split 39 = .ok (.lload_n 3, 1) := by decide +kernel
theorem dX3_split_40 : decode cX3_split 40 = .ok (.invokestatic 55, 3) := by decide +kernel
theorem dX3_split_43 : decode cX3_split 43 = .ok (.lstore 7, 2) := by decide +kernel
theorem dX3_split_45 : decode cX3_split 45 = .ok (.iload_n 2, 1) := by decide +kernel
theorem dX3_split_46 : decode cX3_split 46 = .ok (.ifCond .ne 10, 3) := by decide +kernel
theorem dX3_split_49 : decode cX3_split 49 = .ok (.lload_n 3, 1) := by decide +kernel
