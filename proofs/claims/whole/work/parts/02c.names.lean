theorem inlX0 : ∀ w ∈ wsX00, w ∈ wsL_law := fun _ h => List.mem_append_left _ (List.mem_append_left _ (List.mem_append_right _ h))
theorem inX0 : ∀ w ∈ wsX00, w ∈ lw_tbl := fun w h => wsL_law_in w (inlX0 w h)
theorem inlX1 : ∀ w ∈ wsX10, w ∈ wsL_law := fun _ h => List.mem_append_left _ (List.mem_append_right _ h)
theorem inX1 : ∀ w ∈ wsX10, w ∈ lw_tbl := fun w h => wsL_law_in w (inlX1 w h)
theorem inlX2 : ∀ w ∈ wsX20, w ∈ wsL_law := fun _ h => List.mem_append_left _ (List.mem_append_left _ (List.mem_append_left _ (List.mem_append_left _ (List.mem_append_right _ h))))
theorem inX2 : ∀ w ∈ wsX20, w ∈ lw_tbl := fun w h => wsL_law_in w (inlX2 w h)
theorem inlX3 : ∀ w ∈ wsX30, w ∈ wsL_law := fun _ h => List.mem_append_left _ (List.mem_append_left _ (List.mem_append_left _ (List.mem_append_right _ h)))
theorem inX3 : ∀ w ∈ wsX30, w ∈ lw_tbl := fun w h => wsL_law_in w (inlX3 w h)
theorem inJ6 : ∀ w ∈ wsJ60, w ∈ lw_tbl := by decide +kernel
theorem inJ9 : ∀ w ∈ wsJ90, w ∈ lw_tbl := by decide +kernel
theorem inJ10 : ∀ w ∈ wsJ100, w ∈ lw_tbl := by decide +kernel
theorem dX0_init_0 : decode cX0_init 0 = .ok (.aload_n 0, 1) := by decide +kernel
theorem dX0_init_1 : decode cX0_init 1 = .ok (.invokespecial 3, 3) := by decide +kernel
theorem dX0_init_4 : decode cX0_init 4 = .ok (.aload_n 0, 1) := by decide +kernel
theorem dX0_init_5 : decode cX0_init 5 = .ok (.iconst 3, 1) := by decide +kernel
theorem dX0_init_6 : decode cX0_init 6 = .ok (.putfield 9, 3) := by decide +kernel
theorem dX0_init_9 : decode cX0_init 9 = .ok (.aload_n 0, 1) := by decide +kernel
theorem dX0_init_10 : decode cX0_init 10 = .ok (.iconst 1, 1) := by decide +kernel
theorem dX0_init_11 : decode cX0_init 11 = .ok (.putfield 15, 3) := by decide +kernel
theorem dX0_init_14 : decode cX0_init 14 = .ok (.aload_n 0, 1) := by decide +kernel
theorem dX0_init_15 : decode cX0_init 15 = .ok (.iconst 2, 1) := by decide +kernel
theorem dX0_init_16 : decode cX0_init 16 = .ok (.putfield 18, 3) := by decide +kernel
theorem dX0_init_19 : decode cX0_init 19 = .ok (.aload_n 0, 1) := by decide +kernel
theorem dX0_init_20 : decode cX0_init 20 = .ok (.iconst 0, 1) := by decide +kernel
theorem dX0_init_21 : decode cX0_init 21 = .ok (.putfield 21, 3) := by decide +kernel
theorem dX0_init_24 : decode cX0_init 24 = .ok (.aload_n 0, 1) := by decide +kernel
theorem dX0_init_25 : decode cX0_init 25 = .ok (.iconst 1, 1) := by decide +kernel
theorem dX0_init_26 : decode cX0_init 26 = .ok (.putfield 24, 3) := by decide +kernel
theorem dX0_init_29 : decode cX0_init 29 = .ok (.aload_n 0, 1) := by decide +kernel
theorem dX0_init_30 : decode cX0_init 30 = .ok (.bipush 16, 2) := by decide +kernel
theorem dX0_init_32 : decode cX0_init 32 = .ok (.newarray .int, 2) := by decide +kernel
theorem dX0_init_34 : decode cX0_init 34 = .ok (.putfield 27, 3) := by decide +kernel
theorem dX0_init_37 : decode cX0_init 37 = .ok (.aload_n 0, 1) := by decide +kernel
theorem dX0_init_38 : decode cX0_init 38 = .ok (.iconst 3, 1) := by decide +kernel
theorem dX0_init_39 : decode cX0_init 39 = .ok (.newarray .int, 2) := by decide +kernel
theorem dX0_init_41 : decode cX0_init 41 = .ok (.putfield 31, 3) := by decide +kernel
theorem dX0_init_44 : decode cX0_init 44 = .ok (.return_, 1) := by decide +kernel
theorem dX0_beginAnew_0 : decode cX0_beginAnew 0 = .ok (.aload_n 0, 1) := by decide +kernel
theorem dX0_beginAnew_1 : decode cX0_beginAnew 1 = .ok (.iload_n 1, 1) := by decide +kernel
theorem dX0_beginAnew_2 : decode cX0_beginAnew 2 = .ok (.putfield 9, 3) := by decide +kernel
theorem dX0_beginAnew_5 : decode cX0_beginAnew 5 = .ok (.aload_n 0, 1) := by decide +kernel
theorem dX0_beginAnew_6 : decode cX0_beginAnew 6 = .ok (.iconst 0, 1) := by decide +kernel
theorem dX0_beginAnew_7 : decode cX0_beginAnew 7 = .ok (.putfield 21, 3) := by decide +kernel
theorem dX0_beginAnew_10 : decode cX0_beginAnew 10 = .ok (.iconst 0, 1) := by decide +kernel
theorem dX0_beginAnew_11 : decode cX0_beginAnew 11 = .ok (.istore_n 2, 1) := by decide +kernel
theorem dX0_beginAnew_12 : decode cX0_beginAnew 12 = .ok (.iload_n 2, 1) := by decide +kernel
theorem dX0_beginAnew_13 : decode cX0_beginAnew 13 = .ok (.bipush 16, 2) := by decide +kernel
theorem dX0_beginAnew_15 : decode cX0_beginAnew 15 = .ok (.if_icmp .ge 16, 3) := by decide +kernel
theorem dX0_beginAnew_18 : decode cX0_beginAnew 18 = .ok (.aload_n 0, 1) := by decide +kernel
theorem dX0_beginAnew_19 : decode cX0_beginAnew 19 = .ok (.getfield 27, 3) := by decide +kernel
theorem dX0_beginAnew_22 : decode cX0_beginAnew 22 = .ok (.iload_n 2, 1) := by decide +kernel
theorem dX0_beginAnew_23 : decode cX0_beginAnew 23 = .ok (.iconst 0, 1) := by decide +kernel
theorem dX0_beginAnew_24 : decode cX0_beginAnew 24 = .ok (.iastore, 1) := by decide +kernel
theorem dX0_beginAnew_25 : decode cX0_beginAnew 25 = .ok (.iinc 2 1, 3) := by decide +kernel
theorem dX0_beginAnew_28 : decode cX0_beginAnew 28 = .ok (.goto (-16), 3) := by decide +kernel
theorem dX0_beginAnew_31 : decode cX0_beginAnew 31 = .ok (.iconst 0, 1) := by decide +kernel
theorem dX0_beginAnew_32 : decode cX0_beginAnew 32 = .ok (.istore_n 2, 1) := by decide +kernel
theorem dX0_beginAnew_33 : decode cX0_beginAnew 33 = .ok (.iload_n 2, 1) := by decide +kernel
theorem dX0_beginAnew_34 : decode cX0_beginAnew 34 = .ok (.iconst 3, 1) := by decide +kernel
theorem dX0_beginAnew_35 : decode cX0_beginAnew 35 = .ok (.if_icmp .ge 16, 3) := by decide +kernel
theorem dX0_beginAnew_38 : decode cX0_beginAnew 38 = .ok (.aload_n 0, 1) := by decide +kernel
theorem dX0_beginAnew_39 : decode cX0_beginAnew 39 = .ok (.getfield 31, 3) := by decide +kernel
theorem dX0_beginAnew_42 : decode cX0_beginAnew 42 = .ok (.iload_n 2, 1) := by decide +kernel
theorem dX0_beginAnew_43 : decode cX0_beginAnew 43 = .ok (.iconst 0, 1) := by decide +kernel
theorem dX0_beginAnew_44 : decode cX0_beginAnew 44 = .ok (.iastore, 1) := by decide +kernel
theorem dX0_beginAnew_45 : decode cX0_beginAnew 45 = .ok (.iinc 2 1, 3) := by decide +kernel
theorem dX0_beginAnew_48 : decode cX0_beginAnew 48 = .ok (.goto (-15), 3) := by decide +kernel
theorem dX0_beginAnew_51 : decode cX0_beginAnew 51 = .ok (.return_, 1) := by decide +kernel
theorem dX0_copyFrom_0 : decode cX0_copyFrom 0 = .ok (.aload_n 0, 1) := by decide +kernel
theorem dX0_copyFrom_1 : decode cX0_copyFrom 1 = .ok (.aload_n 1, 1) := by decide +kernel
theorem dX0_copyFrom_2 : decode cX0_copyFrom 2 = .ok (.getfield 9, 3) := by decide +kernel
theorem dX0_copyFrom_5 : decode cX0_copyFrom 5 = .ok (.putfield 9, 3) := by decide +kernel
theorem dX0_copyFrom_8 : decode cX0_copyFrom 8 = .ok (.aload_n 0, 1) := by decide +kernel
theorem dX0_copyFrom_9 : decode cX0_copyFrom 9 = .ok (.aload_n 1, 1) := by decide +kernel
theorem dX0_copyFrom_10 : decode cX0_copyFrom 10 = .ok (.getfield 15, 3) := by decide +kernel
theorem dX0_copyFrom_13 : decode cX0_copyFrom 13 = .ok (.putfield 15, 3) := by decide +kernel
theorem dX0_copyFrom_16 : decode cX0_copyFrom 16 = .ok (.aload_n 0, 1) := by decide +kernel
theorem dX0_copyFrom_17 : decode cX0_copyFrom 17 = .ok (.aload_n 1, 1) := by decide +kernel
theorem dX0_copyFrom_18 : decode cX0_copyFrom 18 = .ok (.getfield 18, 3) := by decide +kernel
theorem dX0_copyFrom_21 : decode cX0_copyFrom 21 = .ok (.putfield 18, 3) := by decide +kernel
theorem dX0_copyFrom_24 : decode cX0_copyFrom 24 = .ok (.aload_n 0, 1) := by decide +kernel
theorem dX0_copyFrom_25 : decode cX0_copyFrom 25 = .ok (.aload_n 1, 1) := by decide +kernel
theorem dX0_copyFrom_26 : decode cX0_copyFrom 26 = .ok (.getfield 21, 3) := by decide +kernel
theorem dX0_copyFrom_29 : decode cX0_copyFrom 29 = .ok (.putfield 21, 3) := by decide +kernel
theorem dX0_copyFrom_32 : decode cX0_copyFrom 32 = .ok (.aload_n 0, 1) := by decide +kernel
theorem dX0_copyFrom_33 : decode cX0_copyFrom 33 = .ok (.aload_n 1, 1) := by decide +kernel
theorem dX0_copyFrom_34 : decode cX0_copyFrom 34 = .ok (.getfield 24, 3) := by decide +kernel
theorem dX0_copyFrom_37 : decode cX0_copyFrom 37 = .ok (.putfield 24, 3) := by decide +kernel
theorem dX0_copyFrom_40 : decode cX0_copyFrom 40 = .ok (.aload_n 1, 1) := by decide +kernel
theorem dX0_copyFrom_41 : decode cX0_copyFrom 41 = .ok (.getfield 27, 3) := by decide +kernel
theorem dX0_copyFrom_44 : decode cX0_copyFrom 44 = .ok (.iconst 0, 1) := by decide +kernel
theorem dX0_copyFrom_45 : decode cX0_copyFrom 45 = .ok (.aload_n 0, 1) := by decide +kernel
theorem dX0_copyFrom_46 : decode cX0_copyFrom 46 = .ok (.getfield 27, 3) := by decide +kernel
theorem dX0_copyFrom_49 : decode cX0_copyFrom 49 = .ok (.iconst 0, 1) := by decide +kernel
theorem dX0_copyFrom_50 : decode cX0_copyFrom 50 = .ok (.bipush 16, 2) := by decide +kernel
theorem dX0_copyFrom_52 : decode cX0_copyFrom 52 = .ok (.invokestatic 34, 3) := by decide +kernel
theorem dX0_copyFrom_55 : decode cX0_copyFrom 55 = .ok (.aload_n 1, 1) := by decide +kernel
theorem dX0_copyFrom_56 : decode cX0_copyFrom 56 = .ok (.getfield 31, 3) := by decide +kernel
theorem dX0_copyFrom_59 : decode cX0_copyFrom 59 = .ok (.iconst 0, 1) := by decide +kernel
theorem dX0_copyFrom_60 : decode cX0_copyFrom 60 = .ok (.aload_n 0, 1) := by decide +kernel
theorem dX0_copyFrom_61 : decode cX0_copyFrom 61 = .ok (.getfield 31, 3) := by decide +kernel
theorem dX0_copyFrom_64 : decode cX0_copyFrom 64 = .ok (.iconst 0, 1) := by decide +kernel
theorem dX0_copyFrom_65 : decode cX0_copyFrom 65 = .ok (.iconst 3, 1) := by decide +kernel
theorem dX0_copyFrom_66 : decode cX0_copyFrom 66 = .ok (.invokestatic 34, 3) := by decide +kernel
theorem dX0_copyFrom_69 : decode cX0_copyFrom 69 = .ok (.return_, 1) := by decide +kernel
set_option maxRecDepth 20000 in
theorem ggX0_holds_J6_bitCount_0f7a4 : GoodIn wsX0_holds wsJ6_bitCount_0f7a4 := goodIn_r _ [5, 6, 7, 8] (by decide +kernel) (by decide +kernel)
set_option maxRecDepth 20000 in
theorem gX0_holds_J6_bitCount_0f7a4 : GoodIn wsX0_holds (va_wsS RX0 40 yJ6_bitCount_0f7a4 wsJ6_bitCount_0f7a4) := goodIn_app (goodIn_of _ (by decide +kernel)) ggX0_holds_J6_bitCount_0f7a4
theorem dX0_holds_0 : decode cX0_holds 0 = .ok (.iconst 0, 1) := by decide +kernel
theorem dX0_holds_1 : decode cX0_holds 1 = .ok (.istore_n 2, 1) := by decide +kernel
theorem dX0_holds_2 : decode cX0_holds 2 = .ok (.iload_n 2, 1) := by decide +kernel
theorem dX0_holds_3 : decode cX0_holds 3 = .ok (.iconst 3, 1) := by decide +kernel
theorem dX0_holds_4 : decode cX0_holds 4 = .ok (.if_icmp .ge 27, 3) := by decide +kernel
theorem dX0_holds_7 : decode cX0_holds 7 = .ok (.iload_n 1, 1) := by decide +kernel
theorem dX0_holds_8 : decode cX0_holds 8 = .ok (.aload_n 0, 1) := by decide +kernel
theorem dX0_holds_9 : decode cX0_holds 9 = .ok (.getfield 31, 3) := by decide +kernel
theorem dX0_holds_12 : decode cX0_holds 12 = .ok (.iload_n 2, 1) := by decide +kernel
theorem dX0_holds_13 : decode cX0_holds 13 = .ok (.iaload, 1) := by decide +kernel
theorem dX0_holds_14 : decode cX0_holds 14 = .ok (.iand, 1) := by decide +kernel
theorem dX0_holds_15 : decode cX0_holds 15 = .ok (.invokestatic 40, 3) := by decide +kernel
theorem dX0_holds_18 : decode cX0_holds 18 = .ok (.iconst 1, 1) := by decide +kernel
theorem dX0_holds_19 : decode cX0_holds 19 = .ok (.iand, 1) := by decide +kernel
theorem dX0_holds_20 : decode cX0_holds 20 = .ok (.ifCond .eq 5, 3) := by decide +kernel
theorem dX0_holds_23 : decode cX0_holds 23 = .ok (.iconst 0, 1) := by decide +kernel
theorem dX0_holds_24 : decode cX0_holds 24 = .ok (.ireturn, 1) := by decide +kernel
theorem dX0_holds_25 : decode cX0_holds 25 = .ok (.iinc 2 1, 3) := by decide +kernel
theorem dX0_holds_28 : decode cX0_holds 28 = .ok (.goto (-26), 3) := by decide +kernel
theorem dX0_holds_31 : decode cX0_holds 31 = .ok (.iconst 1, 1) := by decide +kernel
theorem dX0_holds_32 : decode cX0_holds 32 = .ok (.ireturn, 1) := by decide +kernel
theorem dX1_init_0 : decode cX1_init 0 = .ok (.aload_n 0, 1) := by decide +kernel
theorem dX1_init_1 : decode cX1_init 1 = .ok (.invokespecial 3, 3) := by decide +kernel
theorem dX1_init_4 : decode cX1_init 4 = .ok (.aload_n 0, 1) := by decide +kernel
theorem dX1_init_5 : decode cX1_init 5 = .ok (.bipush 16, 2) := by decide +kernel
theorem dX1_init_7 : decode cX1_init 7 = .ok (.newarray .int, 2) := by decide +kernel
theorem dX1_init_9 : decode cX1_init 9 = .ok (.putfield 11, 3) := by decide +kernel
theorem dX1_init_12 : decode cX1_init 12 = .ok (.aload_n 0, 1) := by decide +kernel
theorem dX1_init_13 : decode cX1_init 13 = .ok (.bipush 16, 2) := by decide +kernel
theorem dX1_init_15 : decode cX1_init 15 = .ok (.newarray .int, 2) := by decide +kernel
theorem dX1_init_17 : decode cX1_init 17 = .ok (.putfield 15, 3) := by decide +kernel
theorem dX1_init_20 : decode cX1_init 20 = .ok (.aload_n 0, 1) := by decide +kernel
theorem dX1_init_21 : decode cX1_init 21 = .ok (.iconst 0, 1) := by decide +kernel
theorem dX1_init_22 : decode cX1_init 22 = .ok (.putfield 18, 3) := by decide +kernel
theorem dX1_init_25 : decode cX1_init 25 = .ok (.return_, 1) := by decide +kernel
theorem dX1_clear_0 : decode cX1_clear 0 = .ok (.aload_n 0, 1) := by decide +kernel
theorem dX1_clear_1 : decode cX1_clear 1 = .ok (.iconst 0, 1) := by decide +kernel
theorem dX1_clear_2 : decode cX1_clear 2 = .ok (.putfield 18, 3) := by decide +kernel
theorem dX1_clear_5 : decode cX1_clear 5 = .ok (.return_, 1) := by decide +kernel
theorem dX1_hasAt_0 : decode cX1_hasAt 0 = .ok (.iload_n 1, 1) := by decide +kernel
theorem dX1_hasAt_1 : decode cX1_hasAt 1 = .ok (.ifCond .lt 15, 3) := by decide +kernel
theorem dX1_hasAt_4 : decode cX1_hasAt 4 = .ok (.iload_n 1, 1) := by decide +kernel
theorem dX1_hasAt_5 : decode cX1_hasAt 5 = .ok (.aload_n 0, 1) := by decide +kernel
theorem dX1_hasAt_6 : decode cX1_hasAt 6 = .ok (.getfield 18, 3) := by decide +kernel
theorem dX1_hasAt_9 : decode cX1_hasAt 9 = .ok (.if_icmp .ge 7, 3) := by decide +kernel
theorem dX1_hasAt_12 : decode cX1_hasAt 12 = .ok (.iconst 1, 1) := by decide +kernel
theorem dX1_hasAt_13 : decode cX1_hasAt 13 = .ok (.goto 4, 3) := by decide +kernel
theorem dX1_hasAt_16 : decode cX1_hasAt 16 = .ok (.iconst 0, 1) := by decide +kernel
theorem dX1_hasAt_17 : decode cX1_hasAt 17 = .ok (.ireturn, 1) := by decide +kernel
set_option maxRecDepth 20000 in
theorem ggX1_add_X1_isAhead : GoodIn wsX1_add wsX1_isAhead := goodIn_r _ [8, 3, 2, 9, 10, 11] (by decide +kernel) (by decide +kernel)
set_option maxRecDepth 20000 in
theorem gX1_add_X1_isAhead : GoodIn wsX1_add (wsV RX1 22 RX1 yX1_isAhead wsX1_isAhead) := goodIn_app (goodIn_of _ (by decide +kernel)) ggX1_add_X1_isAhead
theorem dX1_add_0 : decode cX1_add 0 = .ok (.aload_n 0, 1) := by decide +kernel
theorem dX1_add_1 : decode cX1_add 1 = .ok (.getfield 18, 3) := by decide +kernel
theorem dX1_add_4 : decode cX1_add 4 = .ok (.bipush 16, 2) := by decide +kernel
theorem dX1_add_6 : decode cX1_add 6 = .ok (.if_icmp .lt 4, 3) := by decide +kernel
theorem dX1_add_9 : decode cX1_add 9 = .ok (.return_, 1) := by decide +kernel
theorem dX1_add_10 : decode cX1_add 10 = .ok (.aload_n 0, 1) := by decide +kernel
theorem dX1_add_11 : decode cX1_add 11 = .ok (.getfield 18, 3) := by decide +kernel
theorem dX1_add_14 : decode cX1_add 14 = .ok (.istore_n 3, 1) := by decide +kernel
theorem dX1_add_15 : decode cX1_add 15 = .ok (.iload_n 3, 1) := by decide +kernel
theorem dX1_add_16 : decode cX1_add 16 = .ok (.ifCond .le 49, 3) := by decide +kernel
theorem dX1_add_19 : decode cX1_add 19 = .ok (.aload_n 0, 1) := by decide +kernel
theorem dX1_add_20 : decode cX1_add 20 = .ok (.iload_n 1, 1) := by decide +kernel
theorem dX1_add_21 : decode cX1_add 21 = .ok (.iload_n 2, 1) := by decide +kernel
theorem dX1_add_22 : decode cX1_add 22 = .ok (.iload_n 3, 1) := by decide +kernel
theorem dX1_add_23 : decode cX1_add 23 = .ok (.iconst 1, 1) := by decide +kernel
theorem dX1_add_24 : decode cX1_add 24 = .ok (.isub, 1) := by decide +kernel
theorem dX1_add_25 : decode cX1_add 25 = .ok (.invokevirtual 22, 3) := by decide +kernel
theorem dX1_add_28 : decode cX1_add 28 = .ok (.ifCond .eq 37, 3) := by decide +kernel
theorem dX1_add_31 : decode cX1_add 31 = .ok (.aload_n 0, 1) := by decide +kernel
theorem dX1_add_32 : decode cX1_add 32 = .ok (.getfield 11, 3) := by decide +kernel
theorem dX1_add_35 : decode cX1_add 35 = .ok (.iload_n 3, 1) := by decide +kernel
theorem dX1_add_36 : decode cX1_add 36 = .ok (.aload_n 0, 1) := by decide +kernel
theorem dX1_add_37 : decode cX1_add 37 = .ok (.getfield 11, 3) := by decide +kernel
theorem dX1_add_40 : decode cX1_add 40 = .ok (.iload_n 3, 1) := by decide +kernel
theorem dX1_add_41 : decode cX1_add 41 = .ok (.iconst 1, 1) := by decide +kernel
theorem dX1_add_42 : decode cX1_add 42 = .ok (.isub, 1) := by decide +kernel
theorem dX1_add_43 : decode cX1_add 43 = .ok (.iaload, 1) := by decide +kernel
theorem dX1_add_44 : decode cX1_add 44 = .ok (.iastore, 1) := by decide +kernel
theorem dX1_add_45 : decode cX1_add 45 = .ok (.aload_n 0, 1) := by decide +kernel
theorem dX1_add_46 : decode cX1_add 46 = .ok (.getfield 15, 3) := by decide +kernel
theorem dX1_add_49 : decode cX1_add 49 = .ok (.iload_n 3, 1) := by decide +kernel
theorem dX1_add_50 : decode cX1_add 50 = .ok (.aload_n 0, 1) := by decide +kernel
theorem dX1_add_51 : decode cX1_add 51 = .ok (.getfield 15, 3) := by decide +kernel
theorem dX1_add_54 : decode cX1_add 54 = .ok (.iload_n 3, 1) := by decide +kernel
theorem dX1_add_55 : decode cX1_add 55 = .ok (.iconst 1, 1) := by decide +kernel
theorem dX1_add_56 : decode cX1_add 56 = .ok (.isub, 1) := by decide +kernel
theorem dX1_add_57 : decode cX1_add 57 = .ok (.iaload, 1) := by decide +kernel
theorem dX1_add_58 : decode cX1_add 58 = .ok (.iastore, 1) := by decide +kernel
theorem dX1_add_59 : decode cX1_add 59 = .ok (.iinc 3 (-1), 3) := by decide +kernel
theorem dX1_add_62 : decode cX1_add 62 = .ok (.goto (-47), 3) := by decide +kernel
theorem dX1_add_65 : decode cX1_add 65 = .ok (.aload_n 0, 1) := by decide +kernel
theorem dX1_add_66 : decode cX1_add 66 = .ok (.getfield 11, 3) := by decide +kernel
theorem dX1_add_69 : decode cX1_add 69 = .ok (.iload_n 3, 1) := by decide +kernel
theorem dX1_add_70 : decode cX1_add 70 = .ok (.iload_n 1, 1) := by decide +kernel
theorem dX1_add_71 : decode cX1_add 71 = .ok (.iastore, 1) := by decide +kernel
theorem dX1_add_72 : decode cX1_add 72 = .ok (.aload_n 0, 1) := by decide +kernel
theorem dX1_add_73 : decode cX1_add 73 = .ok (.getfield 15, 3) := by decide +kernel
theorem dX1_add_76 : decode cX1_add 76 = .ok (.iload_n 3, 1) := by decide +kernel
theorem dX1_add_77 : decode cX1_add 77 = .ok (.iload_n 2, 1) := by decide +kernel
theorem dX1_add_78 : decode cX1_add 78 = .ok (.iastore, 1) := by decide +kernel
theorem dX1_add_79 : decode cX1_add 79 = .ok (.aload_n 0, 1) := by decide +kernel
theorem dX1_add_80 : decode cX1_add 80 = .ok (.dup, 1) := by decide +kernel
theorem dX1_add_81 : decode cX1_add 81 = .ok (.getfield 18, 3) := by decide +kernel
theorem dX1_add_84 : decode cX1_add 84 = .ok (.iconst 1, 1) := by decide +kernel
theorem dX1_add_85 : decode cX1_add 85 = .ok (.iadd, 1) := by decide +kernel
theorem dX1_add_86 : decode cX1_add 86 = .ok (.putfield 18, 3) := by decide +kernel
theorem dX1_add_89 : decode cX1_add 89 = .ok (.return_, 1) := by decide +kernel
theorem dX1_takeFirst_0 : decode cX1_takeFirst 0 = .ok (.aload_n 0, 1) := by decide +kernel
theorem dX1_takeFirst_1 : decode cX1_takeFirst 1 = .ok (.aload_n 1, 1) := by decide +kernel
theorem dX1_takeFirst_2 : decode cX1_takeFirst 2 = .ok (.getfield 18, 3) := by decide +kernel
theorem dX1_takeFirst_5 : decode cX1_takeFirst 5 = .ok (.iload_n 2, 1) := by decide +kernel
theorem dX1_takeFirst_6 : decode cX1_takeFirst 6 = .ok (.invokestatic 26, 3) := by decide +kernel
theorem dX1_takeFirst_9 : decode cX1_takeFirst 9 = .ok (.putfield 18, 3) := by decide +kernel
theorem dX1_takeFirst_12 : decode cX1_takeFirst 12 = .ok (.aload_n 1, 1) := by decide +kernel
theorem dX1_takeFirst_13 : decode cX1_takeFirst 13 = .ok (.getfield 11, 3) := by decide +kernel
theorem dX1_takeFirst_16 : decode cX1_takeFirst 16 = .ok (.iconst 0, 1) := by decide +kernel
theorem dX1_takeFirst_17 : decode cX1_takeFirst 17 = .ok (.aload_n 0, 1) := by decide +kernel
theorem dX1_takeFirst_18 : decode cX1_takeFirst 18 = .ok (.getfield 11, 3) := by decide +kernel
theorem dX1_takeFirst_21 : decode cX1_takeFirst 21 = .ok (.iconst 0, 1) := by decide +kernel
theorem dX1_takeFirst_22 : decode cX1_takeFirst 22 = .ok (.aload_n 0, 1) := by decide +kernel
theorem dX1_takeFirst_23 : decode cX1_takeFirst 23 = .ok (.getfield 18, 3) := by decide +kernel
theorem dX1_takeFirst_26 : decode cX1_takeFirst 26 = .ok (.invokestatic 32, 3) := by decide +kernel
theorem dX1_takeFirst_29 : decode cX1_takeFirst 29 = .ok (.aload_n 1, 1) := by decide +kernel
theorem dX1_takeFirst_30 : decode cX1_takeFirst 30 = .ok (.getfield 15, 3) := by decide +kernel
theorem dX1_takeFirst_33 : decode cX1_takeFirst 33 = .ok (.iconst 0, 1) := by decide +kernel
theorem dX1_takeFirst_34 : decode cX1_takeFirst 34 = .ok (.aload_n 0, 1) := by decide +kernel
theorem dX1_takeFirst_35 : decode cX1_takeFirst 35 = .ok (.getfield 15, 3) := by decide +kernel
theorem dX1_takeFirst_38 : decode cX1_takeFirst 38 = .ok (.iconst 0, 1) := by decide +kernel
theorem dX1_takeFirst_39 : decode cX1_takeFirst 39 = .ok (.aload_n 0, 1) := by decide +kernel
theorem dX1_takeFirst_40 : decode cX1_takeFirst 40 = .ok (.getfield 18, 3) := by decide +kernel
theorem dX1_takeFirst_43 : decode cX1_takeFirst 43 = .ok (.invokestatic 32, 3) := by decide +kernel
theorem dX1_takeFirst_46 : decode cX1_takeFirst 46 = .ok (.return_, 1) := by decide +kernel
theorem dX1_isAhead_0 : decode cX1_isAhead 0 = .ok (.iload_n 2, 1) := by decide +kernel
theorem dX1_isAhead_1 : decode cX1_isAhead 1 = .ok (.aload_n 0, 1) := by decide +kernel
theorem dX1_isAhead_2 : decode cX1_isAhead 2 = .ok (.getfield 15, 3) := by decide +kernel
theorem dX1_isAhead_5 : decode cX1_isAhead 5 = .ok (.iload_n 3, 1) := by decide +kernel
theorem dX1_isAhead_6 : decode cX1_isAhead 6 = .ok (.iaload, 1) := by decide +kernel
theorem dX1_isAhead_7 : decode cX1_isAhead 7 = .ok (.if_icmp .lt 23, 3) := by decide +kernel
theorem dX1_isAhead_10 : decode cX1_isAhead 10 = .ok (.iload_n 2, 1) := by decide +kernel
theorem dX1_isAhead_11 : decode cX1_isAhead 11 = .ok (.aload_n 0, 1) := by decide +kernel
theorem dX1_isAhead_12 : decode cX1_isAhead 12 = .ok (.getfield 15, 3) := by decide +kernel
theorem dX1_isAhead_15 : decode cX1_isAhead 15 = .ok (.iload_n 3, 1) := by decide +kernel
theorem dX1_isAhead_16 : decode cX1_isAhead 16 = .ok (.iaload, 1) := by decide +kernel
theorem dX1_isAhead_17 : decode cX1_isAhead 17 = .ok (.if_icmp .ne 17, 3) := by decide +kernel
theorem dX1_isAhead_20 : decode cX1_isAhead 20 = .ok (.iload_n 1, 1) := by decide +kernel
theorem dX1_isAhead_21 : decode cX1_isAhead 21 = .ok (.aload_n 0, 1) := by decide +kernel
theorem dX1_isAhead_22 : decode cX1_isAhead 22 = .ok (.getfield 11, 3) := by decide +kernel
theorem dX1_isAhead_25 : decode cX1_isAhead 25 = .ok (.iload_n 3, 1) := by decide +kernel
theorem dX1_isAhead_26 : decode cX1_isAhead 26 = .ok (.iaload, 1) := by decide +kernel
theorem dX1_isAhead_27 : decode cX1_isAhead 27 = .ok (.if_icmp .ge 7, 3) := by decide +kernel
theorem dX1_isAhead_30 : decode cX1_isAhead 30 = .ok (.iconst 1, 1) := by decide +kernel
theorem dX1_isAhead_31 : decode cX1_isAhead 31 = .ok (.goto 4, 3) := by decide +kernel
theorem dX1_isAhead_34 : decode cX1_isAhead 34 = .ok (.iconst 0, 1) := by decide +kernel
theorem dX1_isAhead_35 : decode cX1_isAhead 35 = .ok (.ireturn, 1) := by decide +kernel
set_option maxRecDepth 20000 in
theorem ggX2_init_X0_init : GoodIn wsX2_init wsX0_init := goodIn_r _ [19, 20, 2, 3, 21, 22, 23, 24, 25, 11, 26, 27, 34, 35, 36, 37, 38, 39, 40] (by decide +kernel) (by decide +kernel)
set_option maxRecDepth 20000 in
theorem gX2_init_X0_init_n9 : GoodIn wsX2_init (wsX0_init) := ggX2_init_X0_init
set_option maxRecDepth 20000 in
theorem ggX2_init_X1_init : GoodIn wsX2_init wsX1_init := goodIn_r _ [29, 30, 2, 3, 11, 31, 32, 33, 48, 49, 50] (by decide +kernel) (by decide +kernel)
set_option maxRecDepth 20000 in
theorem gX2_init_X1_init_n32 : GoodIn wsX2_init (wsX1_init) := ggX2_init_X1_init
theorem dX2_init_0 : decode cX2_init 0 = .ok (.aload_n 0, 1) := by decide +kernel
theorem dX2_init_1 : decode cX2_init 1 = .ok (.invokespecial 1, 3) := by decide +kernel
theorem dX2_init_4 : decode cX2_init 4 = .ok (.aload_n 0, 1) := by decide +kernel
theorem dX2_init_5 : decode cX2_init 5 = .ok (.new 7, 3) := by decide +kernel
theorem dX2_init_8 : decode cX2_init 8 = .ok (.dup, 1) := by decide +kernel
theorem dX2_init_9 : decode cX2_init 9 = .ok (.invokespecial 9, 3) := by decide +kernel
theorem dX2_init_12 : decode cX2_init 12 = .ok (.putfield 10, 3) := by decide +kernel
theorem dX2_init_15 : decode cX2_init 15 = .ok (.aload_n 0, 1) := by decide +kernel
theorem dX2_init_16 : decode cX2_init 16 = .ok (.new 7, 3) := by decide +kernel
theorem dX2_init_19 : decode cX2_init 19 = .ok (.dup, 1) := by decide +kernel
theorem dX2_init_20 : decode cX2_init 20 = .ok (.invokespecial 9, 3) := by decide +kernel
theorem dX2_init_23 : decode cX2_init 23 = .ok (.putfield 16, 3) := by decide +kernel
theorem dX2_init_26 : decode cX2_init 26 = .ok (.aload_n 0, 1) := by decide +kernel
theorem dX2_init_27 : decode cX2_init 27 = .ok (.new 7, 3) := by decide +kernel
theorem dX2_init_30 : decode cX2_init 30 = .ok (.dup, 1) := by decide +kernel
theorem dX2_init_31 : decode cX2_init 31 = .ok (.invokespecial 9, 3) := by decide +kernel
theorem dX2_init_34 : decode cX2_init 34 = .ok (.putfield 19, 3) := by decide +kernel
theorem dX2_init_37 : decode cX2_init 37 = .ok (.aload_n 0, 1) := by decide +kernel
theorem dX2_init_38 : decode cX2_init 38 = .ok (.iconst 0, 1) := by decide +kernel
theorem dX2_init_39 : decode cX2_init 39 = .ok (.putfield 22, 3) := by decide +kernel
theorem dX2_init_42 : decode cX2_init 42 = .ok (.aload_n 0, 1) := by decide +kernel
theorem dX2_init_43 : decode cX2_init 43 = .ok (.bipush 16, 2) := by decide +kernel
theorem dX2_init_45 : decode cX2_init 45 = .ok (.newarray .int, 2) := by decide +kernel
theorem dX2_init_47 : decode cX2_init 47 = .ok (.putfield 26, 3) := by decide +kernel
theorem dX2_init_50 : decode cX2_init 50 = .ok (.aload_n 0, 1) := by decide +kernel
theorem dX2_init_51 : decode cX2_init 51 = .ok (.new 30, 3) := by decide +kernel
theorem dX2_init_54 : decode cX2_init 54 = .ok (.dup, 1) := by decide +kernel
theorem dX2_init_55 : decode cX2_init 55 = .ok (.invokespecial 32, 3) := by decide +kernel
theorem dX2_init_58 : decode cX2_init 58 = .ok (.putfield 33, 3) := by decide +kernel
theorem dX2_init_61 : decode cX2_init 61 = .ok (.aload_n 0, 1) := by decide +kernel
theorem dX2_init_62 : decode cX2_init 62 = .ok (.new 30, 3) := by decide +kernel
theorem dX2_init_65 : decode cX2_init 65 = .ok (.dup, 1) := by decide +kernel
theorem dX2_init_66 : decode cX2_init 66 = .ok (.invokespecial 32, 3) := by decide +kernel
theorem dX2_init_69 : decode cX2_init 69 = .ok (.putfield 37, 3) := by decide +kernel
theorem dX2_init_72 : decode cX2_init 72 = .ok (.return_, 1) := by decide +kernel
set_option maxRecDepth 20000 in
theorem ggX2_deep_X0_beginAnew : GoodIn wsX2_deep wsX0_beginAnew := goodIn_r _ [6, 7, 8, 9, 10, 18, 19, 20, 21, 22, 23, 24] (by decide +kernel) (by decide +kernel)
set_option maxRecDepth 20000 in
theorem gX2_deep_X0_beginAnew : GoodIn wsX2_deep (wsV RX2 43 RX0 yX0_beginAnew wsX0_beginAnew) := goodIn_app (goodIn_of _ (by decide +kernel)) ggX2_deep_X0_beginAnew
theorem dX2_deep_0 : decode cX2_deep 0 = .ok (.iload_n 1, 1) := by decide +kernel
theorem dX2_deep_1 : decode cX2_deep 1 = .ok (.iconst 1, 1) := by decide +kernel
theorem dX2_deep_2 : decode cX2_deep 2 = .ok (.if_icmp .lt 8, 3) := by decide +kernel
theorem dX2_deep_5 : decode cX2_deep 5 = .ok (.iload_n 1, 1) := by decide +kernel
theorem dX2_deep_6 : decode cX2_deep 6 = .ok (.iconst 4, 1) := by decide +kernel
theorem dX2_deep_7 : decode cX2_deep 7 = .ok (.if_icmp .le 6, 3) := by decide +kernel
theorem dX2_deep_10 : decode cX2_deep 10 = .ok (.bipush (-2), 2) := by decide +kernel
theorem dX2_deep_12 : decode cX2_deep 12 = .ok (.ireturn, 1) := by decide +kernel
theorem dX2_deep_13 : decode cX2_deep 13 = .ok (.aload_n 0, 1) := by decide +kernel
theorem dX2_deep_14 : decode cX2_deep 14 = .ok (.getfield 10, 3) := by decide +kernel
theorem dX2_deep_17 : decode cX2_deep 17 = .ok (.getfield 40, 3) := by decide +kernel
theorem dX2_deep_20 : decode cX2_deep 20 = .ok (.istore_n 2, 1) := by decide +kernel
theorem dX2_deep_21 : decode cX2_deep 21 = .ok (.aload_n 0, 1) := by decide +kernel
theorem dX2_deep_22 : decode cX2_deep 22 = .ok (.getfield 10, 3) := by decide +kernel
theorem dX2_deep_25 : decode cX2_deep 25 = .ok (.iload_n 1, 1) := by decide +kernel
theorem dX2_deep_26 : decode cX2_deep 26 = .ok (.invokevirtual 43, 3) := by decide +kernel
theorem dX2_deep_29 : decode cX2_deep 29 = .ok (.iload_n 2, 1) := by decide +kernel
theorem dX2_deep_30 : decode cX2_deep 30 = .ok (.ireturn, 1) := by decide +kernel
theorem dX2_loss_0 : decode cX2_loss 0 = .ok (.iload_n 2, 1) := by decide +kernel
theorem dX2_loss_1 : decode cX2_loss 1 = .ok (.iconst 2, 1) := by decide +kernel
theorem dX2_loss_2 : decode cX2_loss 2 = .ok (.if_icmp .lt 18, 3) := by decide +kernel
theorem dX2_loss_5 : decode cX2_loss 5 = .ok (.iload_n 2, 1) := by decide +kernel
theorem dX2_loss_6 : decode cX2_loss 6 = .ok (.bipush 10, 2) := by decide +kernel
theorem dX2_loss_8 : decode cX2_loss 8 = .ok (.if_icmp .gt 12, 3) := by decide +kernel
theorem dX2_loss_11 : decode cX2_loss 11 = .ok (.iload_n 1, 1) := by decide +kernel
theorem dX2_loss_12 : decode cX2_loss 12 = .ok (.ifCond .lt 8, 3) := by decide +kernel
theorem dX2_loss_15 : decode cX2_loss 15 = .ok (.iload_n 1, 1) := by decide +kernel
theorem dX2_loss_16 : decode cX2_loss 16 = .ok (.iload_n 2, 1) := by decide +kernel
theorem dX2_loss_17 : decode cX2_loss 17 = .ok (.if_icmp .le 6, 3) := by decide +kernel
theorem dX2_loss_20 : decode cX2_loss 20 = .ok (.bipush (-2), 2) := by decide +kernel
theorem dX2_loss_22 : decode cX2_loss 22 = .ok (.ireturn, 1) := by decide +kernel
theorem dX2_loss_23 : decode cX2_loss 23 = .ok (.aload_n 0, 1) := by decide +kernel
theorem dX2_loss_24 : decode cX2_loss 24 = .ok (.getfield 10, 3) := by decide +kernel
theorem dX2_loss_27 : decode cX2_loss 27 = .ok (.getfield 47, 3) := by decide +kernel
theorem dX2_loss_30 : decode cX2_loss 30 = .ok (.istore_n 3, 1) := by decide +kernel
theorem dX2_loss_31 : decode cX2_loss 31 = .ok (.aload_n 0, 1) := by decide +kernel
theorem dX2_loss_32 : decode cX2_loss 32 = .ok (.getfield 10, 3) := by decide +kernel
theorem dX2_loss_35 : decode cX2_loss 35 = .ok (.iload_n 1, 1) := by decide +kernel
theorem dX2_loss_36 : decode cX2_loss 36 = .ok (.putfield 50, 3) := by decide +kernel
theorem dX2_loss_39 : decode cX2_loss 39 = .ok (.aload_n 0, 1) := by decide +kernel
theorem dX2_loss_40 : decode cX2_loss 40 = .ok (.getfield 10, 3) := by decide +kernel
theorem dX2_loss_43 : decode cX2_loss 43 = .ok (.iload_n 2, 1) := by decide +kernel
theorem dX2_loss_44 : decode cX2_loss 44 = .ok (.putfield 47, 3) := by decide +kernel
theorem dX2_loss_47 : decode cX2_loss 47 = .ok (.iload_n 3, 1) := by decide +kernel
theorem dX2_loss_48 : decode cX2_loss 48 = .ok (.ireturn, 1) := by decide +kernel
set_option maxRecDepth 20000 in
theorem ggX2_split_X2_isPlace : GoodIn wsX2_split wsX2_isPlace := goodIn_r _ [7, 8, 9, 10, 6, 11, 12, 25, 26, 27, 28, 29, 30, 31, 32, 33, 34, 35, 36, 37, 38] (by decide +kernel) (by decide +kernel)
set_option maxRecDepth 20000 in
theorem gX2_split_X2_isPlace : GoodIn wsX2_split (wsV RX2 53 RX2 yX2_isPlace wsX2_isPlace) := goodIn_app (goodIn_of _ (by decide +kernel)) ggX2_split_X2_isPlace
set_option maxRecDepth 20000 in
theorem ggX2_split_X2_upperLoss : GoodIn wsX2_split wsX2_upperLoss := goodIn_r _ [16, 12, 17, 8, 9, 10, 6, 11, 25, 26, 27, 28, 29, 30, 31, 32, 33, 34, 35, 36, 37, 38] (by decide +kernel) (by decide +kernel)
set_option maxRecDepth 20000 in
theorem gX2_split_X2_upperLoss : GoodIn wsX2_split (wsV RX2 61 RX2 yX2_upperLoss wsX2_upperLoss) := goodIn_app (goodIn_of _ (by decide +kernel)) ggX2_split_X2_upperLoss
set_option maxRecDepth 20000 in
theorem ggX2_split_X2_lowerLoss : GoodIn wsX2_split wsX2_lowerLoss := goodIn_r _ [21, 12, 25, 26, 27, 28, 29, 30, 31, 32, 33, 34, 35, 36, 37, 38] (by decide +kernel) (by decide +kernel)
set_option maxRecDepth 20000 in
theorem gX2_split_X2_lowerLoss : GoodIn wsX2_split (wsV RX2 65 RX2 yX2_lowerLoss wsX2_lowerLoss) := goodIn_app (goodIn_of _ (by decide +kernel)) ggX2_split_X2_lowerLoss
set_option maxRecDepth 20000 in
theorem ggX2_split_X2_commonDivisor : GoodIn wsX2_split wsX2_commonDivisor := goodIn_r _ [24] (by decide +kernel) (by decide +kernel)
set_option maxRecDepth 20000 in
theorem gX2_split_X2_commonDivisor : GoodIn wsX2_split (va_wsS RX2 69 yX2_commonDivisor wsX2_commonDivisor) := goodIn_app (goodIn_of _ (by decide +kernel)) ggX2_split_X2_commonDivisor
theorem dX2_split_0 : decode cX2_split 0 = .ok (.aload_n 0, 1) := by decide +kernel
theorem dX2_split_1 : decode cX2_split 1 = .ok (.iload_n 1, 1) := by decide +kernel
theorem dX2_split_2 : decode cX2_split 2 = .ok (.invokevirtual 53, 3) := by decide +kernel
theorem dX2_split_5 : decode cX2_split 5 = .ok (.ifCond .ne 7, 3) := by decide +kernel
theorem dX2_split_8 : decode cX2_split 8 = .ok (.ldc2_w 57, 3) := by decide +kernel
theorem dX2_split_11 : decode cX2_split 11 = .ok (.lreturn, 1) := by decide +kernel
theorem dX2_split_12 : decode cX2_split 12 = .ok (.iload_n 2, 1) := by decide +kernel
theorem dX2_split_13 : decode cX2_split 13 = .ok (.ifCond .lt 8, 3) := by decide +kernel
theorem dX2_split_16 : decode cX2_split 16 = .ok (.iload_n 2, 1) := by decide +kernel
theorem dX2_split_17 : decode cX2_split 17 = .ok (.iconst 1, 1) := by decide +kernel
theorem dX2_split_18 : decode cX2_split 18 = .ok (.if_icmp .le 7, 3) := by decide +kernel
theorem dX2_split_21 : decode cX2_split 21 = .ok (.ldc2_w 59, 3) := by decide +kernel
theorem dX2_split_24 : decode cX2_split 24 = .ok (.lreturn, 1) := by decide +kernel
theorem dX2_split_25 : decode cX2_split 25 = .ok (.aload_n 0, 1) := by decide +kernel
theorem dX2_split_26 : decode cX2_split 26 = .ok (.iload_n 1, 1) := by decide +kernel
theorem dX2_split_27 : decode cX2_split 27 = .ok (.invokevirtual 61, 3) := by decide +kernel
theorem dX2_split_30 : decode cX2_split 30 = .ok (.lstore_n 3, 1) := by decide +kernel
theorem dX2_split_31 : decode cX2_split 31 = .ok (.aload_n 0, 1) := by decide +kernel
theorem dX2_split_32 : decode cX2_split 32 = .ok (.invokevirtual 65, 3) := by decide +kernel
theorem dX2_split_35 : decode cX2_split 35 = .ok (.lstore 5, 2) := by decide +kernel
theorem dX2_split_37 : decode cX2_split 37 = .ok (.lload_n 3, 1) := by decide +kernel
theorem dX2_split_38 : decode cX2_split 38 = .ok (.lload 5, 2) := by decide +kernel
theorem dX2_split_40 : decode cX2_split 40 = .ok (.invokestatic 69, 3) := by decide +kernel
theorem dX2_split_43 : decode cX2_split 43 = .ok (.lstore 7, 2) := by decide +kernel
theorem dX2_split_45 : decode cX2_split 45 = .ok (.lload 7, 2) := by decide +kernel
theorem dX2_split_47 : decode cX2_split 47 = .ok (.lconst 1, 1) := by decide +kernel
theorem dX2_split_48 : decode cX2_split 48 = .ok (.lcmp, 1) := by decide +kernel
theorem dX2_split_49 : decode cX2_split 49 = .ok (.ifCond .ge 7, 3) := by decide +kernel
theorem dX2_split_52 : decode cX2_split 52 = .ok (.ldc2_w 59, 3) := by decide +kernel
theorem dX2_split_55 : decode cX2_split 55 = .ok (.lreturn, 1) := by decide +kernel
theorem dX2_split_56 : decode cX2_split 56 = .ok (.iload_n 2, 1) := by decide +kernel
theorem dX2_split_57 : decode cX2_split 57 = .ok (.ifCond .ne 10, 3) := by decide +kernel
theorem dX2_split_60 : decode cX2_split 60 = .ok (.lload_n 3, 1) := by decide +kernel
theorem dX2_split_61 : decode cX2_split 61 = .ok (.lload 7, 2) := by decide +kernel
theorem dX2_split_63 : decode cX2_split 63 = .ok (.ldiv, 1) := by decide +kernel
theorem dX2_split_64 : decode cX2_split 64 = .ok (.goto 8, 3) := by decide +kernel
theorem dX2_split_67 : decode cX2_split 67 = .ok (.lload 5, 2) := by decide +kernel
theorem dX2_split_69 : decode cX2_split 69 = .ok (.lload 7, 2) := by decide +kernel
theorem dX2_split_71 : decode cX2_split 71 = .ok (.ldiv, 1) := by decide +kernel
theorem dX2_split_72 : decode cX2_split 72 = .ok (.lreturn, 1) := by decide +kernel
set_option maxRecDepth 20000 in
theorem ggX2_rank_X2_isPlace : GoodIn wsX2_rank wsX2_isPlace := goodIn_r _ [5, 6, 7, 8, 4, 9, 10, 24, 25, 26, 27, 28, 29, 30, 31, 32, 33, 34, 35, 36, 37] (by decide +kernel) (by decide +kernel)
set_option maxRecDepth 20000 in
theorem gX2_rank_X2_isPlace : GoodIn wsX2_rank (wsV RX2 53 RX2 yX2_isPlace wsX2_isPlace) := goodIn_app (goodIn_of _ (by decide +kernel)) ggX2_rank_X2_isPlace
set_option maxRecDepth 20000 in
theorem ggX2_rank_X2_bitOfRank : GoodIn wsX2_rank wsX2_bitOfRank := goodIn_r _ [14, 6, 7, 8, 4, 9, 10, 15, 16, 17, 18, 19, 20, 21, 22, 23, 24, 25, 26, 27, 28, 29, 30, 31, 32, 33, 34, 35, 36, 37] (by decide +kernel) (by decide +kernel)
set_option maxRecDepth 20000 in
theorem gX2_rank_X2_bitOfRank : GoodIn wsX2_rank (wsV RX2 73 RX2 yX2_bitOfRank wsX2_bitOfRank) := goodIn_app (goodIn_of _ (by decide +kernel)) ggX2_rank_X2_bitOfRank
set_option maxRecDepth 20000 in
theorem ggX2_rank_X2_howManyBetter : GoodIn wsX2_rank wsX2_howManyBetter := goodIn_r _ [18, 19, 20, 21, 4, 22, 10, 23, 6, 7, 8, 9, 24, 25, 26, 27, 28, 29, 30, 31, 32, 33, 34, 35, 36, 37] (by decide +kernel) (by decide +kernel)
set_option maxRecDepth 20000 in
theorem gX2_rank_X2_howManyBetter : GoodIn wsX2_rank (wsV RX2 77 RX2 yX2_howManyBetter wsX2_howManyBetter) := goodIn_app (goodIn_of _ (by decide +kernel)) ggX2_rank_X2_howManyBetter
theorem dX2_rank_0 : decode cX2_rank 0 = .ok (.aload_n 0, 1) := by decide +kernel
theorem dX2_rank_1 : decode cX2_rank 1 = .ok (.iload_n 1, 1) := by decide +kernel
theorem dX2_rank_2 : decode cX2_rank 2 = .ok (.invokevirtual 53, 3) := by decide +kernel
theorem dX2_rank_5 : decode cX2_rank 5 = .ok (.ifCond .ne 5, 3) := by decide +kernel
theorem dX2_rank_8 : decode cX2_rank 8 = .ok (.iconst (-1), 1) := by decide +kernel
theorem dX2_rank_9 : decode cX2_rank 9 = .ok (.ireturn, 1) := by decide +kernel
theorem dX2_rank_10 : decode cX2_rank 10 = .ok (.iload_n 2, 1) := by decide +kernel
theorem dX2_rank_11 : decode cX2_rank 11 = .ok (.ifCond .lt 8, 3) := by decide +kernel
theorem dX2_rank_14 : decode cX2_rank 14 = .ok (.iload_n 2, 1) := by decide +kernel
theorem dX2_rank_15 : decode cX2_rank 15 = .ok (.iconst 1, 1) := by decide +kernel
theorem dX2_rank_16 : decode cX2_rank 16 = .ok (.if_icmp .le 6, 3) := by decide +kernel
theorem dX2_rank_19 : decode cX2_rank 19 = .ok (.bipush (-2), 2) := by decide +kernel
theorem dX2_rank_21 : decode cX2_rank 21 = .ok (.ireturn, 1) := by decide +kernel
theorem dX2_rank_22 : decode cX2_rank 22 = .ok (.iload_n 2, 1) := by decide +kernel
theorem dX2_rank_23 : decode cX2_rank 23 = .ok (.ifCond .ne 11, 3) := by decide +kernel
theorem dX2_rank_26 : decode cX2_rank 26 = .ok (.aload_n 0, 1) := by decide +kernel
theorem dX2_rank_27 : decode cX2_rank 27 = .ok (.iload_n 1, 1) := by decide +kernel
theorem dX2_rank_28 : decode cX2_rank 28 = .ok (.invokevirtual 73, 3) := by decide +kernel
theorem dX2_rank_31 : decode cX2_rank 31 = .ok (.goto 8, 3) := by decide +kernel
theorem dX2_rank_34 : decode cX2_rank 34 = .ok (.aload_n 0, 1) := by decide +kernel
theorem dX2_rank_35 : decode cX2_rank 35 = .ok (.iload_n 1, 1) := by decide +kernel
theorem dX2_rank_36 : decode cX2_rank 36 = .ok (.invokevirtual 77, 3) := by decide +kernel
theorem dX2_rank_39 : decode cX2_rank 39 = .ok (.ireturn, 1) := by decide +kernel
set_option maxRecDepth 20000 in
theorem ggX2_freeze_X2_isSet : GoodIn wsX2_freeze wsX2_isSet := goodIn_r _ [6, 7, 8, 9, 5, 10, 1, 22, 23, 24, 25, 26, 27, 28, 29, 30, 31, 32, 33, 34, 35] (by decide +kernel) (by decide +kernel)
set_option maxRecDepth 20000 in
theorem gX2_freeze_X2_isSet : GoodIn wsX2_freeze (wsV RX2 80 RX2 yX2_isSet wsX2_isSet) := goodIn_app (goodIn_of _ (by decide +kernel)) ggX2_freeze_X2_isSet
set_option maxRecDepth 20000 in
theorem ggX2_freeze_X2_howManyFree : GoodIn wsX2_freeze wsX2_howManyFree := goodIn_r _ [14, 1, 7, 8, 9, 5, 10, 15, 16, 17, 18, 19, 20, 21, 22, 23, 24, 25, 26, 27, 28, 29, 30, 31, 32, 33, 34, 35] (by decide +kernel) (by decide +kernel)
set_option maxRecDepth 20000 in
theorem gX2_freeze_X2_howManyFree : GoodIn wsX2_freeze (wsV RX2 86 RX2 yX2_howManyFree wsX2_howManyFree) := goodIn_app (goodIn_of _ (by decide +kernel)) ggX2_freeze_X2_howManyFree
theorem dX2_freeze_0 : decode cX2_freeze 0 = .ok (.aload_n 0, 1) := by decide +kernel
theorem dX2_freeze_1 : decode cX2_freeze 1 = .ok (.iload_n 1, 1) := by decide +kernel
theorem dX2_freeze_2 : decode cX2_freeze 2 = .ok (.invokevirtual 80, 3) := by decide +kernel
theorem dX2_freeze_5 : decode cX2_freeze 5 = .ok (.ifCond .ne 6, 3) := by decide +kernel
theorem dX2_freeze_8 : decode cX2_freeze 8 = .ok (.bipush (-2), 2) := by decide +kernel
theorem dX2_freeze_10 : decode cX2_freeze 10 = .ok (.ireturn, 1) := by decide +kernel
theorem dX2_freeze_11 : decode cX2_freeze 11 = .ok (.aload_n 0, 1) := by decide +kernel
theorem dX2_freeze_12 : decode cX2_freeze 12 = .ok (.getfield 10, 3) := by decide +kernel
theorem dX2_freeze_15 : decode cX2_freeze 15 = .ok (.iload_n 1, 1) := by decide +kernel
theorem dX2_freeze_16 : decode cX2_freeze 16 = .ok (.putfield 83, 3) := by decide +kernel
theorem dX2_freeze_19 : decode cX2_freeze 19 = .ok (.aload_n 0, 1) := by decide +kernel
theorem dX2_freeze_20 : decode cX2_freeze 20 = .ok (.invokevirtual 86, 3) := by decide +kernel
theorem dX2_freeze_23 : decode cX2_freeze 23 = .ok (.ireturn, 1) := by decide +kernel
set_option maxRecDepth 20000 in
theorem ggX2_best_X2_places : GoodIn wsX2_best wsX2_places := goodIn_r _ [6, 1, 16, 17, 18, 19, 20, 21, 22, 23, 24, 25, 26, 27, 28, 29] (by decide +kernel) (by decide +kernel)
set_option maxRecDepth 20000 in
theorem gX2_best_X2_places : GoodIn wsX2_best (wsV RX2 90 RX2 yX2_places wsX2_places) := goodIn_app (goodIn_of _ (by decide +kernel)) ggX2_best_X2_places
set_option maxRecDepth 20000 in
theorem ggX2_best_X2_howManyBetter : GoodIn wsX2_best wsX2_howManyBetter := goodIn_r _ [10, 11, 12, 13, 5, 14, 1, 15, 2, 3, 4, 6, 16, 17, 18, 19, 20, 21, 22, 23, 24, 25, 26, 27, 28, 29] (by decide +kernel) (by decide +kernel)
set_option maxRecDepth 20000 in
theorem gX2_best_X2_howManyBetter : GoodIn wsX2_best (wsV RX2 77 RX2 yX2_howManyBetter wsX2_howManyBetter) := goodIn_app (goodIn_of _ (by decide +kernel)) ggX2_best_X2_howManyBetter
theorem dX2_best_0 : decode cX2_best 0 = .ok (.iload_n 1, 1) := by decide +kernel
theorem dX2_best_1 : decode cX2_best 1 = .ok (.ifCond .lt 11, 3) := by decide +kernel
theorem dX2_best_4 : decode cX2_best 4 = .ok (.iload_n 1, 1) := by decide +kernel
theorem dX2_best_5 : decode cX2_best 5 = .ok (.aload_n 0, 1) := by decide +kernel
theorem dX2_best_6 : decode cX2_best 6 = .ok (.invokevirtual 90, 3) := by decide +kernel
theorem dX2_best_9 : decode cX2_best 9 = .ok (.if_icmp .le 6, 3) := by decide +kernel
theorem dX2_best_12 : decode cX2_best 12 = .ok (.bipush (-2), 2) := by decide +kernel
theorem dX2_best_14 : decode cX2_best 14 = .ok (.ireturn, 1) := by decide +kernel
theorem dX2_best_15 : decode cX2_best 15 = .ok (.iconst 0, 1) := by decide +kernel
theorem dX2_best_16 : decode cX2_best 16 = .ok (.istore_n 2, 1) := by decide +kernel
theorem dX2_best_17 : decode cX2_best 17 = .ok (.iconst 0, 1) := by decide +kernel
theorem dX2_best_18 : decode cX2_best 18 = .ok (.istore_n 3, 1) := by decide +kernel
theorem dX2_best_19 : decode cX2_best 19 = .ok (.iload_n 3, 1) := by decide +kernel
theorem dX2_best_20 : decode cX2_best 20 = .ok (.aload_n 0, 1) := by decide +kernel
theorem dX2_best_21 : decode cX2_best 21 = .ok (.invokevirtual 90, 3) := by decide +kernel
theorem dX2_best_24 : decode cX2_best 24 = .ok (.if_icmp .ge 24, 3) := by decide +kernel
theorem dX2_best_27 : decode cX2_best 27 = .ok (.aload_n 0, 1) := by decide +kernel
theorem dX2_best_28 : decode cX2_best 28 = .ok (.iload_n 3, 1) := by decide +kernel
theorem dX2_best_29 : decode cX2_best 29 = .ok (.invokevirtual 77, 3) := by decide +kernel
theorem dX2_best_32 : decode cX2_best 32 = .ok (.iload_n 1, 1) := by decide +kernel
theorem dX2_best_33 : decode cX2_best 33 = .ok (.if_icmp .lt 9, 3) := by decide +kernel
theorem dX2_best_36 : decode cX2_best 36 = .ok (.iload_n 2, 1) := by decide +kernel
theorem dX2_best_37 : decode cX2_best 37 = .ok (.iconst 1, 1) := by decide +kernel
theorem dX2_best_38 : decode cX2_best 38 = .ok (.iload_n 3, 1) := by decide +kernel
theorem dX2_best_39 : decode cX2_best 39 = .ok (.ishl, 1) := by decide +kernel
theorem dX2_best_40 : decode cX2_best 40 = .ok (.ior, 1) := by decide +kernel
theorem dX2_best_41 : decode cX2_best 41 = .ok (.istore_n 2, 1) := by decide +kernel
theorem dX2_best_42 : decode cX2_best 42 = .ok (.iinc 3 1, 3) := by decide +kernel
theorem dX2_best_45 : decode cX2_best 45 = .ok (.goto (-26), 3) := by decide +kernel
theorem dX2_best_48 : decode cX2_best 48 = .ok (.aload_n 0, 1) := by decide +kernel
theorem dX2_best_49 : decode cX2_best 49 = .ok (.getfield 10, 3) := by decide +kernel
theorem dX2_best_52 : decode cX2_best 52 = .ok (.iload_n 2, 1) := by decide +kernel
theorem dX2_best_53 : decode cX2_best 53 = .ok (.putfield 83, 3) := by decide +kernel
theorem dX2_best_56 : decode cX2_best 56 = .ok (.iload_n 2, 1) := by decide +kernel
theorem dX2_best_57 : decode cX2_best 57 = .ok (.ireturn, 1) := by decide +kernel
set_option maxRecDepth 20000 in
theorem ggX2_coded_X2_isSet : GoodIn wsX2_coded wsX2_isSet := goodIn_r _ [5, 6, 7, 8, 4, 9, 10, 15, 16, 17, 18, 19, 20, 21, 22, 23, 24, 25, 26, 27, 28] (by decide +kernel) (by decide +kernel)
set_option maxRecDepth 20000 in
theorem gX2_coded_X2_isSet : GoodIn wsX2_coded (wsV RX2 80 RX2 yX2_isSet wsX2_isSet) := goodIn_app (goodIn_of _ (by decide +kernel)) ggX2_coded_X2_isSet
set_option maxRecDepth 20000 in
theorem ggX2_coded_X2_codedOf : GoodIn wsX2_coded wsX2_codedOf := goodIn_r _ [13, 14] (by decide +kernel) (by decide +kernel)
set_option maxRecDepth 20000 in
theorem gX2_coded_X2_codedOf : GoodIn wsX2_coded (va_wsS RX2 93 yX2_codedOf wsX2_codedOf) := goodIn_app (goodIn_of _ (by decide +kernel)) ggX2_coded_X2_codedOf
theorem dX2_coded_0 : decode cX2_coded 0 = .ok (.aload_n 0, 1) := by decide +kernel
theorem dX2_coded_1 : decode cX2_coded 1 = .ok (.iload_n 1, 1) := by decide +kernel
theorem dX2_coded_2 : decode cX2_coded 2 = .ok (.invokevirtual 80, 3) := by decide +kernel
theorem dX2_coded_5 : decode cX2_coded 5 = .ok (.ifCond .eq 10, 3) := by decide +kernel
theorem dX2_coded_8 : decode cX2_coded 8 = .ok (.iload_n 1, 1) := by decide +kernel
theorem dX2_coded_9 : decode cX2_coded 9 = .ok (.invokestatic 93, 3) := by decide +kernel
theorem dX2_coded_12 : decode cX2_coded 12 = .ok (.goto 5, 3) := by decide +kernel
theorem dX2_coded_15 : decode cX2_coded 15 = .ok (.bipush (-2), 2) := by decide +kernel
theorem dX2_coded_17 : decode cX2_coded 17 = .ok (.ireturn, 1) := by decide +kernel
set_option maxRecDepth 20000 in
theorem ggX2_word_X2_howManyFree : GoodIn wsX2_word wsX2_howManyFree := goodIn_r _ [5, 6, 7, 8, 9, 4, 10, 11, 12, 13, 14, 15, 16, 17, 25, 26, 27, 28, 29, 30, 31, 32, 33, 34, 35, 36, 37, 38] (by decide +kernel) (by decide +kernel)
set_option maxRecDepth 20000 in
theorem gX2_word_X2_howManyFree : GoodIn wsX2_word (wsV RX2 86 RX2 yX2_howManyFree wsX2_howManyFree) := goodIn_app (goodIn_of _ (by decide +kernel)) ggX2_word_X2_howManyFree
set_option maxRecDepth 20000 in
theorem ggX2_word_X2_places : GoodIn wsX2_word wsX2_places := goodIn_r _ [10, 6, 25, 26, 27, 28, 29, 30, 31, 32, 33, 34, 35, 36, 37, 38] (by decide +kernel) (by decide +kernel)
set_option maxRecDepth 20000 in
theorem gX2_word_X2_places : GoodIn wsX2_word (wsV RX2 90 RX2 yX2_places wsX2_places) := goodIn_app (goodIn_of _ (by decide +kernel)) ggX2_word_X2_places
set_option maxRecDepth 20000 in
theorem ggX2_word_X2_isFree : GoodIn wsX2_word wsX2_isFree := goodIn_r _ [21, 6, 22, 23, 4, 24, 25, 26, 27, 28, 29, 30, 31, 32, 33, 34, 35, 36, 37, 38] (by decide +kernel) (by decide +kernel)
set_option maxRecDepth 20000 in
theorem gX2_word_X2_isFree : GoodIn wsX2_word (wsV RX2 96 RX2 yX2_isFree wsX2_isFree) := goodIn_app (goodIn_of _ (by decide +kernel)) ggX2_word_X2_isFree
theorem dX2_word_0 : decode cX2_word 0 = .ok (.iload_n 1, 1) := by decide +kernel
theorem dX2_word_1 : decode cX2_word 1 = .ok (.ifCond .lt 13, 3) := by decide +kernel
theorem dX2_word_4 : decode cX2_word 4 = .ok (.iload_n 1, 1) := by decide +kernel
theorem dX2_word_5 : decode cX2_word 5 = .ok (.iconst 1, 1) := by decide +kernel
theorem dX2_word_6 : decode cX2_word 6 = .ok (.aload_n 0, 1) := by decide +kernel
theorem dX2_word_7 : decode cX2_word 7 = .ok (.invokevirtual 86, 3) := by decide +kernel
theorem dX2_word_10 : decode cX2_word 10 = .ok (.ishl, 1) := by decide +kernel
theorem dX2_word_11 : decode cX2_word 11 = .ok (.if_icmp .lt 6, 3) := by decide +kernel
theorem dX2_word_14 : decode cX2_word 14 = .ok (.bipush (-2), 2) := by decide +kernel
theorem dX2_word_16 : decode cX2_word 16 = .ok (.ireturn, 1) := by decide +kernel
theorem dX2_word_17 : decode cX2_word 17 = .ok (.iconst 0, 1) := by decide +kernel
theorem dX2_word_18 : decode cX2_word 18 = .ok (.istore_n 2, 1) := by decide +kernel
theorem dX2_word_19 : decode cX2_word 19 = .ok (.iload_n 1, 1) := by decide +kernel
theorem dX2_word_20 : decode cX2_word 20 = .ok (.istore_n 3, 1) := by decide +kernel
theorem dX2_word_21 : decode cX2_word 21 = .ok (.iconst 0, 1) := by decide +kernel
theorem dX2_word_22 : decode cX2_word 22 = .ok (.istore 4, 2) := by decide +kernel
theorem dX2_word_24 : decode cX2_word 24 = .ok (.iload 4, 2) := by decide +kernel
theorem dX2_word_26 : decode cX2_word 26 = .ok (.aload_n 0, 1) := by decide +kernel
theorem dX2_word_27 : decode cX2_word 27 = .ok (.invokevirtual 90, 3) := by decide +kernel
theorem dX2_word_30 : decode cX2_word 30 = .ok (.if_icmp .ge 31, 3) := by decide +kernel
theorem dX2_word_33 : decode cX2_word 33 = .ok (.aload_n 0, 1) := by decide +kernel
theorem dX2_word_34 : decode cX2_word 34 = .ok (.iload 4, 2) := by decide +kernel
theorem dX2_word_36 : decode cX2_word 36 = .ok (.invokevirtual 96, 3) := by decide +kernel
theorem dX2_word_39 : decode cX2_word 39 = .ok (.ifCond .eq 16, 3) := by decide +kernel
theorem dX2_word_42 : decode cX2_word 42 = .ok (.iload_n 2, 1) := by decide +kernel
theorem dX2_word_43 : decode cX2_word 43 = .ok (.iload_n 3, 1) := by decide +kernel
theorem dX2_word_44 : decode cX2_word 44 = .ok (.iconst 1, 1) := by decide +kernel
theorem dX2_word_45 : decode cX2_word 45 = .ok (.iand, 1) := by decide +kernel
theorem dX2_word_46 : decode cX2_word 46 = .ok (.iload 4, 2) := by decide +kernel
theorem dX2_word_48 : decode cX2_word 48 = .ok (.ishl, 1) := by decide +kernel
theorem dX2_word_49 : decode cX2_word 49 = .ok (.ior, 1) := by decide +kernel
theorem dX2_word_50 : decode cX2_word 50 = .ok (.istore_n 2, 1) := by decide +kernel
theorem dX2_word_51 : decode cX2_word 51 = .ok (.iload_n 3, 1) := by decide +kernel
theorem dX2_word_52 : decode cX2_word 52 = .ok (.iconst 1, 1) := by decide +kernel
theorem dX2_word_53 : decode cX2_word 53 = .ok (.ishr, 1) := by decide +kernel
theorem dX2_word_54 : decode cX2_word 54 = .ok (.istore_n 3, 1) := by decide +kernel
theorem dX2_word_55 : decode cX2_word 55 = .ok (.iinc 4 1, 3) := by decide +kernel
theorem dX2_word_58 : decode cX2_word 58 = .ok (.goto (-34), 3) := by decide +kernel
theorem dX2_word_61 : decode cX2_word 61 = .ok (.iload_n 2, 1) := by decide +kernel
theorem dX2_word_62 : decode cX2_word 62 = .ok (.ireturn, 1) := by decide +kernel
set_option maxRecDepth 20000 in
theorem ggX2_light_X2_howManyFree : GoodIn wsX2_light wsX2_howManyFree := goodIn_r _ [5, 6, 7, 8, 9, 4, 10, 11, 12, 13, 14, 15, 16, 17, 55, 56, 57, 58, 59, 60, 61, 62, 63, 64, 65, 66, 67, 68] (by decide +kernel) (by decide +kernel)
set_option maxRecDepth 20000 in
theorem gX2_light_X2_howManyFree : GoodIn wsX2_light (wsV RX2 86 RX2 yX2_howManyFree wsX2_howManyFree) := goodIn_app (goodIn_of _ (by decide +kernel)) ggX2_light_X2_howManyFree
set_option maxRecDepth 20000 in
theorem ggX2_light_X2_leastWeight : GoodIn wsX2_light wsX2_leastWeight := goodIn_r _ [21, 22, 23, 24, 25, 7, 8, 9, 4, 10, 6, 26, 27, 28, 29, 30, 31, 32, 33, 34, 35, 36, 11, 12, 13, 14, 15, 16, 17, 55, 56, 57, 58, 59, 60, 61, 62, 63, 64, 65, 66, 67, 68] (by decide +kernel) (by decide +kernel)
set_option maxRecDepth 20000 in
theorem gX2_light_X2_leastWeight : GoodIn wsX2_light (wsV RX2 99 RX2 yX2_leastWeight wsX2_leastWeight) := goodIn_app (goodIn_of _ (by decide +kernel)) ggX2_light_X2_leastWeight
set_option maxRecDepth 20000 in
theorem ggX2_light_X2_howManySets : GoodIn wsX2_light wsX2_howManySets := goodIn_r _ [40, 7, 8, 9, 4, 10, 6, 41, 42, 43, 44, 33, 34, 35, 36, 45, 46, 47, 48, 49, 50, 51, 52, 53, 24, 54, 55, 56, 57, 58, 59, 60, 61, 62, 63, 64, 65, 66, 67, 68] (by decide +kernel) (by decide +kernel)
set_option maxRecDepth 20000 in
theorem gX2_light_X2_howManySets : GoodIn wsX2_light (wsV RX2 102 RX2 yX2_howManySets wsX2_howManySets) := goodIn_app (goodIn_of _ (by decide +kernel)) ggX2_light_X2_howManySets
theorem dX2_light_0 : decode cX2_light 0 = .ok (.iload_n 1, 1) := by decide +kernel
theorem dX2_light_1 : decode cX2_light 1 = .ok (.ifCond .lt 8, 3) := by decide +kernel
theorem dX2_light_4 : decode cX2_light 4 = .ok (.iload_n 1, 1) := by decide +kernel
theorem dX2_light_5 : decode cX2_light 5 = .ok (.iconst 1, 1) := by decide +kernel
theorem dX2_light_6 : decode cX2_light 6 = .ok (.if_icmp .le 6, 3) := by decide +kernel
theorem dX2_light_9 : decode cX2_light 9 = .ok (.bipush (-2), 2) := by decide +kernel
theorem dX2_light_11 : decode cX2_light 11 = .ok (.ireturn, 1) := by decide +kernel
theorem dX2_light_12 : decode cX2_light 12 = .ok (.aload_n 0, 1) := by decide +kernel
theorem dX2_light_13 : decode cX2_light 13 = .ok (.invokevirtual 86, 3) := by decide +kernel
theorem dX2_light_16 : decode cX2_light 16 = .ok (.ifCond .ne 6, 3) := by decide +kernel
theorem dX2_light_19 : decode cX2_light 19 = .ok (.bipush (-6), 2) := by decide +kernel
theorem dX2_light_21 : decode cX2_light 21 = .ok (.ireturn, 1) := by decide +kernel
theorem dX2_light_22 : decode cX2_light 22 = .ok (.aload_n 0, 1) := by decide +kernel
theorem dX2_light_23 : decode cX2_light 23 = .ok (.invokevirtual 99, 3) := by decide +kernel
theorem dX2_light_26 : decode cX2_light 26 = .ok (.istore_n 2, 1) := by decide +kernel
theorem dX2_light_27 : decode cX2_light 27 = .ok (.iload_n 1, 1) := by decide +kernel
theorem dX2_light_28 : decode cX2_light 28 = .ok (.ifCond .ne 7, 3) := by decide +kernel
theorem dX2_light_31 : decode cX2_light 31 = .ok (.iload_n 2, 1) := by decide +kernel
theorem dX2_light_32 : decode cX2_light 32 = .ok (.goto 9, 3) := by decide +kernel
theorem dX2_light_35 : decode cX2_light 35 = .ok (.aload_n 0, 1) := by decide +kernel
theorem dX2_light_36 : decode cX2_light 36 = .ok (.iload_n 2, 1) := by decide +kernel
theorem dX2_light_37 : decode cX2_light 37 = .ok (.iconst 1, 1) := by decide +kernel
theorem dX2_light_38 : decode cX2_light 38 = .ok (.invokevirtual 102, 3) := by decide +kernel
theorem dX2_light_41 : decode cX2_light 41 = .ok (.ireturn, 1) := by decide +kernel
set_option maxRecDepth 20000 in
theorem ggX2_put_X2_isPlace : GoodIn wsX2_put wsX2_isPlace := goodIn_r _ [8, 9, 10, 11, 7, 12, 3, 13, 14, 15, 16, 17, 18, 19, 20, 21, 22, 23, 24, 25, 26] (by decide +kernel) (by decide +kernel)
set_option maxRecDepth 20000 in
theorem gX2_put_X2_isPlace : GoodIn wsX2_put (wsV RX2 53 RX2 yX2_isPlace wsX2_isPlace) := goodIn_app (goodIn_of _ (by decide +kernel)) ggX2_put_X2_isPlace
theorem dX2_put_0 : decode cX2_put 0 = .ok (.aload_n 0, 1) := by decide +kernel
theorem dX2_put_1 : decode cX2_put 1 = .ok (.iload_n 1, 1) := by decide +kernel
theorem dX2_put_2 : decode cX2_put 2 = .ok (.invokevirtual 53, 3) := by decide +kernel
theorem dX2_put_5 : decode cX2_put 5 = .ok (.ifCond .ne 6, 3) := by decide +kernel
theorem dX2_put_8 : decode cX2_put 8 = .ok (.ldc 106, 2) := by decide +kernel
theorem dX2_put_10 : decode cX2_put 10 = .ok (.ireturn, 1) := by decide +kernel
theorem dX2_put_11 : decode cX2_put 11 = .ok (.iload_n 2, 1) := by decide +kernel
theorem dX2_put_12 : decode cX2_put 12 = .ok (.bipush (-99), 2) := by decide +kernel
theorem dX2_put_14 : decode cX2_put 14 = .ok (.if_icmp .lt 9, 3) := by decide +kernel
theorem dX2_put_17 : decode cX2_put 17 = .ok (.iload_n 2, 1) := by decide +kernel
theorem dX2_put_18 : decode cX2_put 18 = .ok (.bipush 99, 2) := by decide +kernel
theorem dX2_put_20 : decode cX2_put 20 = .ok (.if_icmp .le 6, 3) := by decide +kernel
theorem dX2_put_23 : decode cX2_put 23 = .ok (.ldc 107, 2) := by decide +kernel
theorem dX2_put_25 : decode cX2_put 25 = .ok (.ireturn, 1) := by decide +kernel
theorem dX2_put_26 : decode cX2_put 26 = .ok (.aload_n 0, 1) := by decide +kernel
theorem dX2_put_27 : decode cX2_put 27 = .ok (.getfield 10, 3) := by decide +kernel
theorem dX2_put_30 : decode cX2_put 30 = .ok (.getfield 108, 3) := by decide +kernel
theorem dX2_put_33 : decode cX2_put 33 = .ok (.iload_n 1, 1) := by decide +kernel
theorem dX2_put_34 : decode cX2_put 34 = .ok (.iaload, 1) := by decide +kernel
theorem dX2_put_35 : decode cX2_put 35 = .ok (.istore_n 3, 1) := by decide +kernel
theorem dX2_put_36 : decode cX2_put 36 = .ok (.aload_n 0, 1) := by decide +kernel
theorem dX2_put_37 : decode cX2_put 37 = .ok (.getfield 10, 3) := by decide +kernel
theorem dX2_put_40 : decode cX2_put 40 = .ok (.getfield 108, 3) := by decide +kernel
theorem dX2_put_43 : decode cX2_put 43 = .ok (.iload_n 1, 1) := by decide +kernel
theorem dX2_put_44 : decode cX2_put 44 = .ok (.iload_n 2, 1) := by decide +kernel
theorem dX2_put_45 : decode cX2_put 45 = .ok (.iastore, 1) := by decide +kernel
theorem dX2_put_46 : decode cX2_put 46 = .ok (.iload_n 3, 1) := by decide +kernel
theorem dX2_put_47 : decode cX2_put 47 = .ok (.ireturn, 1) := by decide +kernel
set_option maxRecDepth 20000 in
theorem ggX2_hear_X2_isSet : GoodIn wsX2_hear wsX2_isSet := goodIn_r _ [6, 7, 8, 9, 5, 10, 1, 18, 19, 20, 21, 22, 23, 24, 25, 26, 27, 28, 29, 30, 31] (by decide +kernel) (by decide +kernel)
set_option maxRecDepth 20000 in
theorem gX2_hear_X2_isSet : GoodIn wsX2_hear (wsV RX2 80 RX2 yX2_isSet wsX2_isSet) := goodIn_app (goodIn_of _ (by decide +kernel)) ggX2_hear_X2_isSet
set_option maxRecDepth 20000 in
theorem ggX2_hear_X2_codedOf : GoodIn wsX2_hear wsX2_codedOf := goodIn_r _ [13, 14] (by decide +kernel) (by decide +kernel)
set_option maxRecDepth 20000 in
theorem gX2_hear_X2_codedOf : GoodIn wsX2_hear (va_wsS RX2 93 yX2_codedOf wsX2_codedOf) := goodIn_app (goodIn_of _ (by decide +kernel)) ggX2_hear_X2_codedOf
set_option maxRecDepth 20000 in
theorem ggX2_hear_X2_places : GoodIn wsX2_hear wsX2_places := goodIn_r _ [10, 1, 18, 19, 20, 21, 22, 23, 24, 25, 26, 27, 28, 29, 30, 31] (by decide +kernel) (by decide +kernel)
set_option maxRecDepth 20000 in
theorem gX2_hear_X2_places : GoodIn wsX2_hear (wsV RX2 90 RX2 yX2_places wsX2_places) := goodIn_app (goodIn_of _ (by decide +kernel)) ggX2_hear_X2_places
set_option maxRecDepth 20000 in
theorem ggX2_hear_X2_has : GoodIn wsX2_hear wsX2_has := goodIn_r _ [17] (by decide +kernel) (by decide +kernel)
set_option maxRecDepth 20000 in
theorem gX2_hear_X2_has : GoodIn wsX2_hear (va_wsS RX2 111 yX2_has wsX2_has) := goodIn_app (goodIn_of _ (by decide +kernel)) ggX2_hear_X2_has
theorem dX2_hear_0 : decode cX2_hear 0 = .ok (.aload_n 0, 1) := by decide +kernel
theorem dX2_hear_1 : decode cX2_hear 1 = .ok (.iload_n 1, 1) := by decide +kernel
theorem dX2_hear_2 : decode cX2_hear 2 = .ok (.invokevirtual 80, 3) := by decide +kernel
theorem dX2_hear_5 : decode cX2_hear 5 = .ok (.ifCond .eq 14, 3) := by decide +kernel
theorem dX2_hear_8 : decode cX2_hear 8 = .ok (.iload_n 2, 1) := by decide +kernel
theorem dX2_hear_9 : decode cX2_hear 9 = .ok (.iconst 1, 1) := by decide +kernel
theorem dX2_hear_10 : decode cX2_hear 10 = .ok (.if_icmp .lt 9, 3) := by decide +kernel
theorem dX2_hear_13 : decode cX2_hear 13 = .ok (.iload_n 2, 1) := by decide +kernel
theorem dX2_hear_14 : decode cX2_hear 14 = .ok (.bipush 99, 2) := by decide +kernel
theorem dX2_hear_16 : decode cX2_hear 16 = .ok (.if_icmp .le 6, 3) := by decide +kernel
theorem dX2_hear_19 : decode cX2_hear 19 = .ok (.bipush (-2), 2) := by decide +kernel
theorem dX2_hear_21 : decode cX2_hear 21 = .ok (.ireturn, 1) := by decide +kernel
theorem dX2_hear_22 : decode cX2_hear 22 = .ok (.iload_n 1, 1) := by decide +kernel
theorem dX2_hear_23 : decode cX2_hear 23 = .ok (.invokestatic 93, 3) := by decide +kernel
theorem dX2_hear_26 : decode cX2_hear 26 = .ok (.istore_n 3, 1) := by decide +kernel
theorem dX2_hear_27 : decode cX2_hear 27 = .ok (.iconst 0, 1) := by decide +kernel
theorem dX2_hear_28 : decode cX2_hear 28 = .ok (.istore 4, 2) := by decide +kernel
theorem dX2_hear_30 : decode cX2_hear 30 = .ok (.iload 4, 2) := by decide +kernel
theorem dX2_hear_32 : decode cX2_hear 32 = .ok (.aload_n 0, 1) := by decide +kernel
theorem dX2_hear_33 : decode cX2_hear 33 = .ok (.invokevirtual 90, 3) := by decide +kernel
theorem dX2_hear_36 : decode cX2_hear 36 = .ok (.if_icmp .ge 34, 3) := by decide +kernel
theorem dX2_hear_39 : decode cX2_hear 39 = .ok (.aload_n 0, 1) := by decide +kernel
theorem dX2_hear_40 : decode cX2_hear 40 = .ok (.getfield 10, 3) := by decide +kernel
theorem dX2_hear_43 : decode cX2_hear 43 = .ok (.getfield 108, 3) := by decide +kernel
theorem dX2_hear_46 : decode cX2_hear 46 = .ok (.iload 4, 2) := by decide +kernel
theorem dX2_hear_48 : decode cX2_hear 48 = .ok (.iload_n 3, 1) := by decide +kernel
theorem dX2_hear_49 : decode cX2_hear 49 = .ok (.iload 4, 2) := by decide +kernel
theorem dX2_hear_51 : decode cX2_hear 51 = .ok (.invokestatic 111, 3) := by decide +kernel
theorem dX2_hear_54 : decode cX2_hear 54 = .ok (.ifCond .eq 8, 3) := by decide +kernel
theorem dX2_hear_57 : decode cX2_hear 57 = .ok (.iload_n 2, 1) := by decide +kernel
theorem dX2_hear_58 : decode cX2_hear 58 = .ok (.ineg, 1) := by decide +kernel
theorem dX2_hear_59 : decode cX2_hear 59 = .ok (.goto 4, 3) := by decide +kernel
theorem dX2_hear_62 : decode cX2_hear 62 = .ok (.iload_n 2, 1) := by decide +kernel
theorem dX2_hear_63 : decode cX2_hear 63 = .ok (.iastore, 1) := by decide +kernel
theorem dX2_hear_64 : decode cX2_hear 64 = .ok (.iinc 4 1, 3) := by decide +kernel
theorem dX2_hear_67 : decode cX2_hear 67 = .ok (.goto (-37), 3) := by decide +kernel
theorem dX2_hear_70 : decode cX2_hear 70 = .ok (.iload_n 3, 1) := by decide +kernel
theorem dX2_hear_71 : decode cX2_hear 71 = .ok (.ireturn, 1) := by decide +kernel
set_option maxRecDepth 20000 in
theorem ggX2_spoil_X2_isSet : GoodIn wsX2_spoil wsX2_isSet := goodIn_r _ [6, 7, 8, 9, 5, 10, 1, 14, 15, 16, 17, 18, 19, 20, 21, 22, 23, 24, 25, 26, 27] (by decide +kernel) (by decide +kernel)
set_option maxRecDepth 20000 in
theorem gX2_spoil_X2_isSet : GoodIn wsX2_spoil (wsV RX2 80 RX2 yX2_isSet wsX2_isSet) := goodIn_app (goodIn_of _ (by decide +kernel)) ggX2_spoil_X2_isSet
set_option maxRecDepth 20000 in
theorem ggX2_spoil_X2_places : GoodIn wsX2_spoil wsX2_places := goodIn_r _ [10, 1, 14, 15, 16, 17, 18, 19, 20, 21, 22, 23, 24, 25, 26, 27] (by decide +kernel) (by decide +kernel)
set_option maxRecDepth 20000 in
theorem gX2_spoil_X2_places : GoodIn wsX2_spoil (wsV RX2 90 RX2 yX2_places wsX2_places) := goodIn_app (goodIn_of _ (by decide +kernel)) ggX2_spoil_X2_places
set_option maxRecDepth 20000 in
theorem ggX2_spoil_X2_has : GoodIn wsX2_spoil wsX2_has := goodIn_r _ [13] (by decide +kernel) (by decide +kernel)
set_option maxRecDepth 20000 in
theorem gX2_spoil_X2_has : GoodIn wsX2_spoil (va_wsS RX2 111 yX2_has wsX2_has) := goodIn_app (goodIn_of _ (by decide +kernel)) ggX2_spoil_X2_has
theorem dX2_spoil_0 : decode cX2_spoil 0 = .ok (.aload_n 0, 1) := by decide +kernel
theorem dX2_spoil_1 : decode cX2_spoil 1 = .ok (.iload_n 1, 1) := by decide +kernel
theorem dX2_spoil_2 : decode cX2_spoil 2 = .ok (.invokevirtual 80, 3) := by decide +kernel
theorem dX2_spoil_5 : decode cX2_spoil 5 = .ok (.ifCond .eq 12, 3) := by decide +kernel
theorem dX2_spoil_8 : decode cX2_spoil 8 = .ok (.iload_n 2, 1) := by decide +kernel
theorem dX2_spoil_9 : decode cX2_spoil 9 = .ok (.ifCond .lt 8, 3) := by decide +kernel
theorem dX2_spoil_12 : decode cX2_spoil 12 = .ok (.iload_n 2, 1) := by decide +kernel
theorem dX2_spoil_13 : decode cX2_spoil 13 = .ok (.iconst 1, 1) := by decide +kernel
theorem dX2_spoil_14 : decode cX2_spoil 14 = .ok (.if_icmp .le 6, 3) := by decide +kernel
theorem dX2_spoil_17 : decode cX2_spoil 17 = .ok (.bipush (-2), 2) := by decide +kernel
theorem dX2_spoil_19 : decode cX2_spoil 19 = .ok (.ireturn, 1) := by decide +kernel
theorem dX2_spoil_20 : decode cX2_spoil 20 = .ok (.iconst 0, 1) := by decide +kernel
theorem dX2_spoil_21 : decode cX2_spoil 21 = .ok (.istore_n 3, 1) := by decide +kernel
theorem dX2_spoil_22 : decode cX2_spoil 22 = .ok (.iconst 0, 1) := by decide +kernel
theorem dX2_spoil_23 : decode cX2_spoil 23 = .ok (.istore 4, 2) := by decide +kernel
theorem dX2_spoil_25 : decode cX2_spoil 25 = .ok (.iload 4, 2) := by decide +kernel
theorem dX2_spoil_27 : decode cX2_spoil 27 = .ok (.aload_n 0, 1) := by decide +kernel
theorem dX2_spoil_28 : decode cX2_spoil 28 = .ok (.invokevirtual 90, 3) := by decide +kernel
theorem dX2_spoil_31 : decode cX2_spoil 31 = .ok (.if_icmp .ge 63, 3) := by decide +kernel
theorem dX2_spoil_34 : decode cX2_spoil 34 = .ok (.iload_n 1, 1) := by decide +kernel
theorem dX2_spoil_35 : decode cX2_spoil 35 = .ok (.iload 4, 2) := by decide +kernel
theorem dX2_spoil_37 : decode cX2_spoil 37 = .ok (.invokestatic 111, 3) := by decide +kernel
theorem dX2_spoil_40 : decode cX2_spoil 40 = .ok (.ifCond .eq 48, 3) := by decide +kernel
theorem dX2_spoil_43 : decode cX2_spoil 43 = .ok (.aload_n 0, 1) := by decide +kernel
theorem dX2_spoil_44 : decode cX2_spoil 44 = .ok (.getfield 10, 3) := by decide +kernel
theorem dX2_spoil_47 : decode cX2_spoil 47 = .ok (.getfield 108, 3) := by decide +kernel
theorem dX2_spoil_50 : decode cX2_spoil 50 = .ok (.iload 4, 2) := by decide +kernel
theorem dX2_spoil_52 : decode cX2_spoil 52 = .ok (.iaload, 1) := by decide +kernel
theorem dX2_spoil_53 : decode cX2_spoil 53 = .ok (.ifCond .eq 35, 3) := by decide +kernel
theorem dX2_spoil_56 : decode cX2_spoil 56 = .ok (.iinc 3 1, 3) := by decide +kernel
theorem dX2_spoil_59 : decode cX2_spoil 59 = .ok (.aload_n 0, 1) := by decide +kernel
theorem dX2_spoil_60 : decode cX2_spoil 60 = .ok (.getfield 10, 3) := by decide +kernel
theorem dX2_spoil_63 : decode cX2_spoil 63 = .ok (.getfield 108, 3) := by decide +kernel
theorem dX2_spoil_66 : decode cX2_spoil 66 = .ok (.iload 4, 2) := by decide +kernel
theorem dX2_spoil_68 : decode cX2_spoil 68 = .ok (.iload_n 2, 1) := by decide +kernel
theorem dX2_spoil_69 : decode cX2_spoil 69 = .ok (.ifCond .ne 7, 3) := by decide +kernel
theorem dX2_spoil_72 : decode cX2_spoil 72 = .ok (.iconst 0, 1) := by decide +kernel
theorem dX2_spoil_73 : decode cX2_spoil 73 = .ok (.goto 14, 3) := by decide +kernel
theorem dX2_spoil_76 : decode cX2_spoil 76 = .ok (.aload_n 0, 1) := by decide +kernel
theorem dX2_spoil_77 : decode cX2_spoil 77 = .ok (.getfield 10, 3) := by decide +kernel
theorem dX2_spoil_80 : decode cX2_spoil 80 = .ok (.getfield 108, 3) := by decide +kernel
theorem dX2_spoil_83 : decode cX2_spoil 83 = .ok (.iload 4, 2) := by decide +kernel
theorem dX2_spoil_85 : decode cX2_spoil 85 = .ok (.iaload, 1) := by decide +kernel
theorem dX2_spoil_86 : decode cX2_spoil 86 = .ok (.ineg, 1) := by decide +kernel
theorem dX2_spoil_87 : decode cX2_spoil 87 = .ok (.iastore, 1) := by decide +kernel
theorem dX2_spoil_88 : decode cX2_spoil 88 = .ok (.iinc 4 1, 3) := by decide +kernel
theorem dX2_spoil_91 : decode cX2_spoil 91 = .ok (.goto (-66), 3) := by decide +kernel
theorem dX2_spoil_94 : decode cX2_spoil 94 = .ok (.iload_n 3, 1) := by decide +kernel
theorem dX2_spoil_95 : decode cX2_spoil 95 = .ok (.ireturn, 1) := by decide +kernel
set_option maxRecDepth 20000 in
theorem ggX2_measure_X2_isPlace : GoodIn wsX2_measure wsX2_isPlace := goodIn_r _ [8, 9, 10, 11, 7, 12, 3, 55, 56, 57, 58, 59, 60, 61, 62, 63, 64, 65, 66, 67, 68] (by decide +kernel) (by decide +kernel)
set_option maxRecDepth 20000 in
theorem gX2_measure_X2_isPlace : GoodIn wsX2_measure (wsV RX2 53 RX2 yX2_isPlace wsX2_isPlace) := goodIn_app (goodIn_of _ (by decide +kernel)) ggX2_measure_X2_isPlace
set_option maxRecDepth 20000 in
theorem ggX2_measure_X2_rowRead : GoodIn wsX2_measure wsX2_rowRead := goodIn_r _ [16, 9, 10, 11, 7, 12, 3, 17, 18, 19, 20, 21, 22, 23, 24, 25, 26, 27, 28, 29, 30, 31, 32, 33, 34, 35, 36, 37, 38, 39, 40, 41, 42, 43, 44, 45, 46, 47, 48, 49, 50, 51, 52, 53, 54, 55, 56, 57, 58, 59, 60, 61, 62, 63, 64, 65, 66, 67, 68] (by decide +kernel) (by decide +kernel)
set_option maxRecDepth 20000 in
theorem gX2_measure_X2_rowRead : GoodIn wsX2_measure (wsV RX2 115 RX2 yX2_rowRead wsX2_rowRead) := goodIn_app (goodIn_of _ (by decide +kernel)) ggX2_measure_X2_rowRead
set_option maxRecDepth 20000 in
theorem ggX2_measure_X2_seenOf : GoodIn wsX2_measure wsX2_seenOf := goodIn_r _ [27, 3, 28, 29, 30, 31, 32, 9, 10, 11, 7, 12, 33, 34, 35, 36, 37, 38, 39, 40, 41, 42, 43, 44, 45, 46, 47, 48, 49, 50, 51, 52, 53, 54, 21, 22, 23, 55, 56, 57, 58, 59, 60, 61, 62, 63, 64, 65, 66, 67, 68] (by decide +kernel) (by decide +kernel)
set_option maxRecDepth 20000 in
theorem gX2_measure_X2_seenOf : GoodIn wsX2_measure (wsV RX2 118 RX2 yX2_seenOf wsX2_seenOf) := goodIn_app (goodIn_of _ (by decide +kernel)) ggX2_measure_X2_seenOf
theorem dX2_measure_0 : decode cX2_measure 0 = .ok (.aload_n 0, 1) := by decide +kernel
theorem dX2_measure_1 : decode cX2_measure 1 = .ok (.iload_n 1, 1) := by decide +kernel
theorem dX2_measure_2 : decode cX2_measure 2 = .ok (.invokevirtual 53, 3) := by decide +kernel
theorem dX2_measure_5 : decode cX2_measure 5 = .ok (.ifCond .ne 6, 3) := by decide +kernel
theorem dX2_measure_8 : decode cX2_measure 8 = .ok (.ldc 106, 2) := by decide +kernel
theorem dX2_measure_10 : decode cX2_measure 10 = .ok (.ireturn, 1) := by decide +kernel
theorem dX2_measure_11 : decode cX2_measure 11 = .ok (.iload_n 2, 1) := by decide +kernel
theorem dX2_measure_12 : decode cX2_measure 12 = .ok (.ifCond .lt 8, 3) := by decide +kernel
theorem dX2_measure_15 : decode cX2_measure 15 = .ok (.iload_n 2, 1) := by decide +kernel
theorem dX2_measure_16 : decode cX2_measure 16 = .ok (.iconst 1, 1) := by decide +kernel
theorem dX2_measure_17 : decode cX2_measure 17 = .ok (.if_icmp .le 6, 3) := by decide +kernel
theorem dX2_measure_20 : decode cX2_measure 20 = .ok (.ldc 107, 2) := by decide +kernel
theorem dX2_measure_22 : decode cX2_measure 22 = .ok (.ireturn, 1) := by decide +kernel
theorem dX2_measure_23 : decode cX2_measure 23 = .ok (.iload_n 2, 1) := by decide +kernel
theorem dX2_measure_24 : decode cX2_measure 24 = .ok (.ifCond .ne 15, 3) := by decide +kernel
theorem dX2_measure_27 : decode cX2_measure 27 = .ok (.aload_n 0, 1) := by decide +kernel
theorem dX2_measure_28 : decode cX2_measure 28 = .ok (.getfield 10, 3) := by decide +kernel
theorem dX2_measure_31 : decode cX2_measure 31 = .ok (.getfield 108, 3) := by decide +kernel
theorem dX2_measure_34 : decode cX2_measure 34 = .ok (.iload_n 1, 1) := by decide +kernel
theorem dX2_measure_35 : decode cX2_measure 35 = .ok (.iaload, 1) := by decide +kernel
theorem dX2_measure_36 : decode cX2_measure 36 = .ok (.goto 12, 3) := by decide +kernel
theorem dX2_measure_39 : decode cX2_measure 39 = .ok (.aload_n 0, 1) := by decide +kernel
theorem dX2_measure_40 : decode cX2_measure 40 = .ok (.iload_n 1, 1) := by decide +kernel
theorem dX2_measure_41 : decode cX2_measure 41 = .ok (.aload_n 0, 1) := by decide +kernel
theorem dX2_measure_42 : decode cX2_measure 42 = .ok (.invokevirtual 115, 3) := by decide +kernel
theorem dX2_measure_45 : decode cX2_measure 45 = .ok (.invokevirtual 118, 3) := by decide +kernel
theorem dX2_measure_48 : decode cX2_measure 48 = .ok (.ireturn, 1) := by decide +kernel
set_option maxRecDepth 20000 in
theorem ggX2_read_X2_rowRead : GoodIn wsX2_read wsX2_rowRead := goodIn_r _ [6, 7, 8, 9, 5, 10, 1, 11, 12, 13, 14, 15, 16, 17, 18, 19, 20, 21, 22, 23, 24, 25, 26, 27, 28, 29, 30, 31, 32, 33, 34, 35, 36, 37, 38, 39, 40, 41, 42, 43, 44, 45, 46, 47, 48, 76, 77, 78, 79, 80, 81, 82, 83, 84, 85, 86, 87, 88, 89] (by decide +kernel) (by decide +kernel)
set_option maxRecDepth 20000 in
theorem gX2_read_X2_rowRead : GoodIn wsX2_read (wsV RX2 115 RX2 yX2_rowRead wsX2_rowRead) := goodIn_app (goodIn_of _ (by decide +kernel)) ggX2_read_X2_rowRead
set_option maxRecDepth 20000 in
theorem ggX2_read_X2_fineOf : GoodIn wsX2_read wsX2_fineOf := goodIn_r _ [52, 7, 8, 9, 5, 10, 1, 18, 19, 20, 21, 22, 23, 24, 25, 26, 27, 28, 29, 30, 31, 32, 33, 34, 35, 36, 37, 38, 39, 40, 41, 42, 43, 44, 45, 46, 47, 48, 15, 16, 17, 53, 54, 55, 56, 57, 58, 76, 77, 78, 79, 80, 81, 82, 83, 84, 85, 86, 87, 88, 89] (by decide +kernel) (by decide +kernel)
set_option maxRecDepth 20000 in
theorem gX2_read_X2_fineOf : GoodIn wsX2_read (wsV RX2 122 RX2 yX2_fineOf wsX2_fineOf) := goodIn_app (goodIn_of _ (by decide +kernel)) ggX2_read_X2_fineOf
set_option maxRecDepth 20000 in
theorem ggX2_read_X2_codedOf : GoodIn wsX2_read wsX2_codedOf := goodIn_r _ [43, 44] (by decide +kernel) (by decide +kernel)
set_option maxRecDepth 20000 in
theorem gX2_read_X2_codedOf : GoodIn wsX2_read (va_wsS RX2 93 yX2_codedOf wsX2_codedOf) := goodIn_app (goodIn_of _ (by decide +kernel)) ggX2_read_X2_codedOf
set_option maxRecDepth 20000 in
theorem ggX2_read_X2_howManyToldOtherwise : GoodIn wsX2_read wsX2_howManyToldOtherwise := goodIn_r _ [62, 1, 7, 8, 9, 5, 10, 15, 16, 17, 76, 77, 78, 79, 80, 81, 82, 83, 84, 85, 86, 87, 88, 89] (by decide +kernel) (by decide +kernel)
set_option maxRecDepth 20000 in
theorem gX2_read_X2_howManyToldOtherwise : GoodIn wsX2_read (wsV RX2 125 RX2 yX2_howManyToldOtherwise wsX2_howManyToldOtherwise) := goodIn_app (goodIn_of _ (by decide +kernel)) ggX2_read_X2_howManyToldOtherwise
set_option maxRecDepth 20000 in
theorem ggX2_read_X0_holds : GoodIn wsX2_read wsX0_holds := goodIn_r _ [67, 68, 69, 70, 71, 72, 73, 74, 75, 83, 84, 85, 86, 87, 88, 89] (by decide +kernel) (by decide +kernel)
set_option maxRecDepth 20000 in
theorem gX2_read_X0_holds : GoodIn wsX2_read (wsV RX2 128 RX0 yX0_holds wsX0_holds) := goodIn_app (goodIn_of _ (by decide +kernel)) ggX2_read_X0_holds
theorem dX2_read_0 : decode cX2_read 0 = .ok (.iload_n 1, 1) := by decide +kernel
theorem dX2_read_1 : decode cX2_read 1 = .ok (.ifCond .lt 8, 3) := by decide +kernel
theorem dX2_read_4 : decode cX2_read 4 = .ok (.iload_n 1, 1) := by decide +kernel
theorem dX2_read_5 : decode cX2_read 5 = .ok (.iconst 3, 1) := by decide +kernel
theorem dX2_read_6 : decode cX2_read 6 = .ok (.if_icmp .le 6, 3) := by decide +kernel
theorem dX2_read_9 : decode cX2_read 9 = .ok (.bipush (-2), 2) := by decide +kernel
theorem dX2_read_11 : decode cX2_read 11 = .ok (.ireturn, 1) := by decide +kernel
theorem dX2_read_12 : decode cX2_read 12 = .ok (.aload_n 0, 1) := by decide +kernel
theorem dX2_read_13 : decode cX2_read 13 = .ok (.invokevirtual 115, 3) := by decide +kernel
theorem dX2_read_16 : decode cX2_read 16 = .ok (.istore_n 2, 1) := by decide +kernel
theorem dX2_read_17 : decode cX2_read 17 = .ok (.iload_n 1, 1) := by decide +kernel
theorem dX2_read_18 : decode cX2_read 18 = .ok (.tableswitch 43 0 2 #[26, 28, 34], 26) := by decide +kernel
theorem dX2_read_44 : decode cX2_read 44 = .ok (.iload_n 2, 1) := by decide +kernel
theorem dX2_read_45 : decode cX2_read 45 = .ok (.ireturn, 1) := by decide +kernel
theorem dX2_read_46 : decode cX2_read 46 = .ok (.aload_n 0, 1) := by decide +kernel
theorem dX2_read_47 : decode cX2_read 47 = .ok (.iload_n 2, 1) := by decide +kernel
theorem dX2_read_48 : decode cX2_read 48 = .ok (.invokevirtual 122, 3) := by decide +kernel
theorem dX2_read_51 : decode cX2_read 51 = .ok (.ireturn, 1) := by decide +kernel
theorem dX2_read_52 : decode cX2_read 52 = .ok (.aload_n 0, 1) := by decide +kernel
theorem dX2_read_53 : decode cX2_read 53 = .ok (.iload_n 2, 1) := by decide +kernel
theorem dX2_read_54 : decode cX2_read 54 = .ok (.invokestatic 93, 3) := by decide +kernel
theorem dX2_read_57 : decode cX2_read 57 = .ok (.invokevirtual 125, 3) := by decide +kernel
theorem dX2_read_60 : decode cX2_read 60 = .ok (.ireturn, 1) := by decide +kernel
theorem dX2_read_61 : decode cX2_read 61 = .ok (.aload_n 0, 1) := by decide +kernel
theorem dX2_read_62 : decode cX2_read 62 = .ok (.getfield 10, 3) := by decide +kernel
theorem dX2_read_65 : decode cX2_read 65 = .ok (.iload_n 2, 1) := by decide +kernel
theorem dX2_read_66 : decode cX2_read 66 = .ok (.invokevirtual 128, 3) := by decide +kernel
theorem dX2_read_69 : decode cX2_read 69 = .ok (.ifCond .eq 7, 3) := by decide +kernel
theorem dX2_read_72 : decode cX2_read 72 = .ok (.iconst 1, 1) := by decide +kernel
theorem dX2_read_73 : decode cX2_read 73 = .ok (.goto 4, 3) := by decide +kernel
theorem dX2_read_76 : decode cX2_read 76 = .ok (.iconst 0, 1) := by decide +kernel
theorem dX2_read_77 : decode cX2_read 77 = .ok (.ireturn, 1) := by decide +kernel
theorem dX2_most_0 : decode cX2_most 0 = .ok (.iload_n 1, 1) := by decide +kernel
theorem dX2_most_1 : decode cX2_most 1 = .ok (.iconst 1, 1) := by decide +kernel
theorem dX2_most_2 : decode cX2_most 2 = .ok (.if_icmp .lt 9, 3) := by decide +kernel
theorem dX2_most_5 : decode cX2_most 5 = .ok (.iload_n 1, 1) := by decide +kernel
theorem dX2_most_6 : decode cX2_most 6 = .ok (.bipush 8, 2) := by decide +kernel
theorem dX2_most_8 : decode cX2_most 8 = .ok (.if_icmp .le 6, 3) := by decide +kernel
theorem dX2_most_11 : decode cX2_most 11 = .ok (.bipush (-2), 2) := by decide +kernel
theorem dX2_most_13 : decode cX2_most 13 = .ok (.ireturn, 1) := by decide +kernel
theorem dX2_most_14 : decode cX2_most 14 = .ok (.aload_n 0, 1) := by decide +kernel
theorem dX2_most_15 : decode cX2_most 15 = .ok (.getfield 10, 3) := by decide +kernel
theorem dX2_most_18 : decode cX2_most 18 = .ok (.getfield 131, 3) := by decide +kernel
theorem dX2_most_21 : decode cX2_most 21 = .ok (.istore_n 2, 1) := by decide +kernel
theorem dX2_most_22 : decode cX2_most 22 = .ok (.aload_n 0, 1) := by decide +kernel
theorem dX2_most_23 : decode cX2_most 23 = .ok (.getfield 10, 3) := by decide +kernel
theorem dX2_most_26 : decode cX2_most 26 = .ok (.iload_n 1, 1) := by decide +kernel
theorem dX2_most_27 : decode cX2_most 27 = .ok (.putfield 131, 3) := by decide +kernel
theorem dX2_most_30 : decode cX2_most 30 = .ok (.iload_n 2, 1) := by decide +kernel
theorem dX2_most_31 : decode cX2_most 31 = .ok (.ireturn, 1) := by decide +kernel
set_option maxRecDepth 20000 in
theorem ggX2_kept_X2_tellKept : GoodIn wsX2_kept wsX2_tellKept := goodIn_r _ [7, 1, 8, 2, 9, 10, 11, 12, 13, 14, 15, 16, 17, 18, 19, 20, 21, 22, 23, 24, 25, 26, 27, 6, 28, 29, 30, 31, 32, 33, 34, 35, 36, 37, 38, 39, 40, 41, 42, 43, 44, 45, 46, 47, 48, 49, 50, 51, 52, 53, 54, 55, 56, 57, 58, 59, 60, 61, 62, 63, 64, 65, 66, 67, 68, 69, 70, 71, 72, 73, 74, 75, 76, 77, 78, 79, 80, 81, 82, 100, 101, 102, 103, 104, 105, 106, 110, 111, 112, 113, 114, 115, 116, 107, 108, 109] (by decide +kernel) (by decide +kernel)
set_option maxRecDepth 20000 in
theorem gX2_kept_X2_tellKept : GoodIn wsX2_kept (wsV RX2 134 RX2 yX2_tellKept wsX2_tellKept) := goodIn_app (goodIn_of _ (by decide +kernel)) ggX2_kept_X2_tellKept
set_option maxRecDepth 20000 in
theorem ggX2_kept_X1_hasAt : GoodIn wsX2_kept wsX1_hasAt := goodIn_r _ [86, 14, 107, 108, 109] (by decide +kernel) (by decide +kernel)
set_option maxRecDepth 20000 in
theorem gX2_kept_X1_hasAt : GoodIn wsX2_kept (wsV RX2 140 RX1 yX1_hasAt wsX1_hasAt) := goodIn_app (goodIn_of _ (by decide +kernel)) ggX2_kept_X1_hasAt
set_option maxRecDepth 20000 in
theorem ggX2_kept_X0_holds : GoodIn wsX2_kept wsX0_holds := goodIn_r _ [91, 92, 93, 94, 95, 96, 97, 98, 99, 110, 111, 112, 113, 114, 115, 116] (by decide +kernel) (by decide +kernel)
set_option maxRecDepth 20000 in
theorem gX2_kept_X0_holds : GoodIn wsX2_kept (wsV RX2 128 RX0 yX0_holds wsX0_holds) := goodIn_app (goodIn_of _ (by decide +kernel)) ggX2_kept_X0_holds
theorem dX2_kept_0 : decode cX2_kept 0 = .ok (.iload_n 2, 1) := by decide +kernel
theorem dX2_kept_1 : decode cX2_kept 1 = .ok (.ifCond .lt 8, 3) := by decide +kernel
theorem dX2_kept_4 : decode cX2_kept 4 = .ok (.iload_n 2, 1) := by decide +kernel
theorem dX2_kept_5 : decode cX2_kept 5 = .ok (.iconst 2, 1) := by decide +kernel
theorem dX2_kept_6 : decode cX2_kept 6 = .ok (.if_icmp .le 6, 3) := by decide +kernel
theorem dX2_kept_9 : decode cX2_kept 9 = .ok (.bipush (-2), 2) := by decide +kernel
theorem dX2_kept_11 : decode cX2_kept 11 = .ok (.ireturn, 1) := by decide +kernel
theorem dX2_kept_12 : decode cX2_kept 12 = .ok (.aload_n 0, 1) := by decide +kernel
theorem dX2_kept_13 : decode cX2_kept 13 = .ok (.invokevirtual 134, 3) := by decide +kernel
theorem dX2_kept_16 : decode cX2_kept 16 = .ok (.iload_n 1, 1) := by decide +kernel
theorem dX2_kept_17 : decode cX2_kept 17 = .ok (.iconst (-1), 1) := by decide +kernel
theorem dX2_kept_18 : decode cX2_kept 18 = .ok (.if_icmp .ne 11, 3) := by decide +kernel
theorem dX2_kept_21 : decode cX2_kept 21 = .ok (.aload_n 0, 1) := by decide +kernel
theorem dX2_kept_22 : decode cX2_kept 22 = .ok (.getfield 33, 3) := by decide +kernel
theorem dX2_kept_25 : decode cX2_kept 25 = .ok (.getfield 137, 3) := by decide +kernel
theorem dX2_kept_28 : decode cX2_kept 28 = .ok (.ireturn, 1) := by decide +kernel
theorem dX2_kept_29 : decode cX2_kept 29 = .ok (.aload_n 0, 1) := by decide +kernel
theorem dX2_kept_30 : decode cX2_kept 30 = .ok (.getfield 33, 3) := by decide +kernel
theorem dX2_kept_33 : decode cX2_kept 33 = .ok (.iload_n 1, 1) := by decide +kernel
theorem dX2_kept_34 : decode cX2_kept 34 = .ok (.invokevirtual 140, 3) := by decide +kernel
theorem dX2_kept_37 : decode cX2_kept 37 = .ok (.ifCond .ne 6, 3) := by decide +kernel
theorem dX2_kept_40 : decode cX2_kept 40 = .ok (.bipush (-6), 2) := by decide +kernel
theorem dX2_kept_42 : decode cX2_kept 42 = .ok (.ireturn, 1) := by decide +kernel
theorem dX2_kept_43 : decode cX2_kept 43 = .ok (.iload_n 2, 1) := by decide +kernel
theorem dX2_kept_44 : decode cX2_kept 44 = .ok (.lookupswitch 48 #[(0, 28), (1, 38)], 28) := by decide +kernel
theorem dX2_kept_72 : decode cX2_kept 72 = .ok (.aload_n 0, 1) := by decide +kernel
theorem dX2_kept_73 : decode cX2_kept 73 = .ok (.getfield 33, 3) := by decide +kernel
theorem dX2_kept_76 : decode cX2_kept 76 = .ok (.getfield 143, 3) := by decide +kernel
theorem dX2_kept_79 : decode cX2_kept 79 = .ok (.iload_n 1, 1) := by decide +kernel
theorem dX2_kept_80 : decode cX2_kept 80 = .ok (.iaload, 1) := by decide +kernel
theorem dX2_kept_81 : decode cX2_kept 81 = .ok (.ireturn, 1) := by decide +kernel
theorem dX2_kept_82 : decode cX2_kept 82 = .ok (.aload_n 0, 1) := by decide +kernel
theorem dX2_kept_83 : decode cX2_kept 83 = .ok (.getfield 33, 3) := by decide +kernel
theorem dX2_kept_86 : decode cX2_kept 86 = .ok (.getfield 146, 3) := by decide +kernel
theorem dX2_kept_89 : decode cX2_kept 89 = .ok (.iload_n 1, 1) := by decide +kernel
theorem dX2_kept_90 : decode cX2_kept 90 = .ok (.iaload, 1) := by decide +kernel
theorem dX2_kept_91 : decode cX2_kept 91 = .ok (.ireturn, 1) := by decide +kernel
theorem dX2_kept_92 : decode cX2_kept 92 = .ok (.aload_n 0, 1) := by decide +kernel
theorem dX2_kept_93 : decode cX2_kept 93 = .ok (.getfield 10, 3) := by decide +kernel
theorem dX2_kept_96 : decode cX2_kept 96 = .ok (.aload_n 0, 1) := by decide +kernel
theorem dX2_kept_97 : decode cX2_kept 97 = .ok (.getfield 33, 3) := by decide +kernel
theorem dX2_kept_100 : decode cX2_kept 100 = .ok (.getfield 143, 3) := by decide +kernel
theorem dX2_kept_103 : decode cX2_kept 103 = .ok (.iload_n 1, 1) := by decide +kernel
theorem dX2_kept_104 : decode cX2_kept 104 = .ok (.iaload, 1) := by decide +kernel
theorem dX2_kept_105 : decode cX2_kept 105 = .ok (.invokevirtual 128, 3) := by decide +kernel
theorem dX2_kept_108 : decode cX2_kept 108 = .ok (.ifCond .eq 7, 3) := by decide +kernel
theorem dX2_kept_111 : decode cX2_kept 111 = .ok (.iconst 1, 1) := by decide +kernel
theorem dX2_kept_112 : decode cX2_kept 112 = .ok (.goto 4, 3) := by decide +kernel
theorem dX2_kept_115 : decode cX2_kept 115 = .ok (.iconst 0, 1) := by decide +kernel
theorem dX2_kept_116 : decode cX2_kept 116 = .ok (.ireturn, 1) := by decide +kernel
set_option maxRecDepth 20000 in
theorem ggX2_chosen_X2_tellKept : GoodIn wsX2_chosen wsX2_tellKept := goodIn_r _ [6, 1, 7, 8, 9, 10, 11, 12, 13, 14, 15, 16, 17, 18, 19, 20, 21, 22, 23, 24, 25, 26, 27, 5, 28, 29, 30, 31, 32, 33, 34, 35, 36, 37, 38, 39, 40, 41, 42, 43, 44, 45, 46, 47, 48, 49, 50, 51, 52, 53, 54, 55, 56, 57, 58, 59, 60, 61, 62, 63, 64, 65, 66, 67, 68, 69, 70, 71, 72, 73, 74, 75, 76, 77, 78, 79, 80, 81, 82, 104, 105, 106, 107, 108, 109, 110, 114, 115, 116, 117, 118, 119, 120, 111, 112, 113] (by decide +kernel) (by decide +kernel)
set_option maxRecDepth 20000 in
theorem gX2_chosen_X2_tellKept : GoodIn wsX2_chosen (wsV RX2 134 RX2 yX2_tellKept wsX2_tellKept) := goodIn_app (goodIn_of _ (by decide +kernel)) ggX2_chosen_X2_tellKept
set_option maxRecDepth 20000 in
theorem ggX2_chosen_X2_firstThatHolds : GoodIn wsX2_chosen wsX2_firstThatHolds := goodIn_r _ [86, 1, 8, 87, 88, 89, 90, 91, 92, 93, 94, 95, 96, 97, 98, 99, 104, 105, 106, 107, 108, 109, 110, 111, 112, 113, 114, 115, 116, 117, 118, 119, 120] (by decide +kernel) (by decide +kernel)
set_option maxRecDepth 20000 in
theorem gX2_chosen_X2_firstThatHolds : GoodIn wsX2_chosen (wsV RX2 149 RX2 yX2_firstThatHolds wsX2_firstThatHolds) := goodIn_app (goodIn_of _ (by decide +kernel)) ggX2_chosen_X2_firstThatHolds
set_option maxRecDepth 20000 in
theorem ggX2_chosen_X1_hasAt : GoodIn wsX2_chosen wsX1_hasAt := goodIn_r _ [103, 14, 111, 112, 113] (by decide +kernel) (by decide +kernel)
set_option maxRecDepth 20000 in
theorem gX2_chosen_X1_hasAt : GoodIn wsX2_chosen (wsV RX2 140 RX1 yX1_hasAt wsX1_hasAt) := goodIn_app (goodIn_of _ (by decide +kernel)) ggX2_chosen_X1_hasAt
theorem dX2_chosen_0 : decode cX2_chosen 0 = .ok (.iload_n 1, 1) := by decide +kernel
theorem dX2_chosen_1 : decode cX2_chosen 1 = .ok (.ifCond .lt 8, 3) := by decide +kernel
theorem dX2_chosen_4 : decode cX2_chosen 4 = .ok (.iload_n 1, 1) := by decide +kernel
theorem dX2_chosen_5 : decode cX2_chosen 5 = .ok (.iconst 2, 1) := by decide +kernel
theorem dX2_chosen_6 : decode cX2_chosen 6 = .ok (.if_icmp .le 6, 3) := by decide +kernel
theorem dX2_chosen_9 : decode cX2_chosen 9 = .ok (.bipush (-2), 2) := by decide +kernel
theorem dX2_chosen_11 : decode cX2_chosen 11 = .ok (.ireturn, 1) := by decide +kernel
theorem dX2_chosen_12 : decode cX2_chosen 12 = .ok (.aload_n 0, 1) := by decide +kernel
theorem dX2_chosen_13 : decode cX2_chosen 13 = .ok (.invokevirtual 134, 3) := by decide +kernel
theorem dX2_chosen_16 : decode cX2_chosen 16 = .ok (.aload_n 0, 1) := by decide +kernel
theorem dX2_chosen_17 : decode cX2_chosen 17 = .ok (.invokevirtual 149, 3) := by decide +kernel
theorem dX2_chosen_20 : decode cX2_chosen 20 = .ok (.istore_n 2, 1) := by decide +kernel
theorem dX2_chosen_21 : decode cX2_chosen 21 = .ok (.aload_n 0, 1) := by decide +kernel
theorem dX2_chosen_22 : decode cX2_chosen 22 = .ok (.getfield 33, 3) := by decide +kernel
theorem dX2_chosen_25 : decode cX2_chosen 25 = .ok (.iload_n 2, 1) := by decide +kernel
theorem dX2_chosen_26 : decode cX2_chosen 26 = .ok (.invokevirtual 140, 3) := by decide +kernel
theorem dX2_chosen_29 : decode cX2_chosen 29 = .ok (.ifCond .ne 6, 3) := by decide +kernel
theorem dX2_chosen_32 : decode cX2_chosen 32 = .ok (.bipush (-6), 2) := by decide +kernel
theorem dX2_chosen_34 : decode cX2_chosen 34 = .ok (.ireturn, 1) := by decide +kernel
theorem dX2_chosen_35 : decode cX2_chosen 35 = .ok (.iload_n 1, 1) := by decide +kernel
theorem dX2_chosen_36 : decode cX2_chosen 36 = .ok (.lookupswitch 40 #[(0, 28), (1, 38)], 28) := by decide +kernel
theorem dX2_chosen_64 : decode cX2_chosen 64 = .ok (.aload_n 0, 1) := by decide +kernel
theorem dX2_chosen_65 : decode cX2_chosen 65 = .ok (.getfield 33, 3) := by decide +kernel
theorem dX2_chosen_68 : decode cX2_chosen 68 = .ok (.getfield 143, 3) := by decide +kernel
theorem dX2_chosen_71 : decode cX2_chosen 71 = .ok (.iload_n 2, 1) := by decide +kernel
theorem dX2_chosen_72 : decode cX2_chosen 72 = .ok (.iaload, 1) := by decide +kernel
theorem dX2_chosen_73 : decode cX2_chosen 73 = .ok (.ireturn, 1) := by decide +kernel
theorem dX2_chosen_74 : decode cX2_chosen 74 = .ok (.iload_n 2, 1) := by decide +kernel
theorem dX2_chosen_75 : decode cX2_chosen 75 = .ok (.ireturn, 1) := by decide +kernel
theorem dX2_chosen_76 : decode cX2_chosen 76 = .ok (.aload_n 0, 1) := by decide +kernel
theorem dX2_chosen_77 : decode cX2_chosen 77 = .ok (.getfield 33, 3) := by decide +kernel
theorem dX2_chosen_80 : decode cX2_chosen 80 = .ok (.getfield 146, 3) := by decide +kernel
theorem dX2_chosen_83 : decode cX2_chosen 83 = .ok (.iload_n 2, 1) := by decide +kernel
theorem dX2_chosen_84 : decode cX2_chosen 84 = .ok (.iaload, 1) := by decide +kernel
theorem dX2_chosen_85 : decode cX2_chosen 85 = .ok (.ireturn, 1) := by decide +kernel
set_option maxRecDepth 20000 in
theorem ggX2_check_X2_isSet : GoodIn wsX2_check wsX2_isSet := goodIn_r _ [6, 7, 8, 9, 5, 10, 1, 11, 12, 13, 14, 15, 16, 17, 18, 19, 20, 21, 22, 23, 24] (by decide +kernel) (by decide +kernel)
set_option maxRecDepth 20000 in
theorem gX2_check_X2_isSet : GoodIn wsX2_check (wsV RX2 80 RX2 yX2_isSet wsX2_isSet) := goodIn_app (goodIn_of _ (by decide +kernel)) ggX2_check_X2_isSet
theorem dX2_check_0 : decode cX2_check 0 = .ok (.iload_n 1, 1) := by decide +kernel
theorem dX2_check_1 : decode cX2_check 1 = .ok (.ifCond .lt 8, 3) := by decide +kernel
theorem dX2_check_4 : decode cX2_check 4 = .ok (.iload_n 1, 1) := by decide +kernel
theorem dX2_check_5 : decode cX2_check 5 = .ok (.iconst 3, 1) := by decide +kernel
theorem dX2_check_6 : decode cX2_check 6 = .ok (.if_icmp .lt 5, 3) := by decide +kernel
theorem dX2_check_9 : decode cX2_check 9 = .ok (.iconst (-1), 1) := by decide +kernel
theorem dX2_check_10 : decode cX2_check 10 = .ok (.ireturn, 1) := by decide +kernel
theorem dX2_check_11 : decode cX2_check 11 = .ok (.aload_n 0, 1) := by decide +kernel
theorem dX2_check_12 : decode cX2_check 12 = .ok (.iload_n 2, 1) := by decide +kernel
theorem dX2_check_13 : decode cX2_check 13 = .ok (.invokevirtual 80, 3) := by decide +kernel
theorem dX2_check_16 : decode cX2_check 16 = .ok (.ifCond .ne 6, 3) := by decide +kernel
theorem dX2_check_19 : decode cX2_check 19 = .ok (.bipush (-2), 2) := by decide +kernel
theorem dX2_check_21 : decode cX2_check 21 = .ok (.ireturn, 1) := by decide +kernel
theorem dX2_check_22 : decode cX2_check 22 = .ok (.aload_n 0, 1) := by decide +kernel
theorem dX2_check_23 : decode cX2_check 23 = .ok (.getfield 10, 3) := by decide +kernel
theorem dX2_check_26 : decode cX2_check 26 = .ok (.getfield 152, 3) := by decide +kernel
theorem dX2_check_29 : decode cX2_check 29 = .ok (.iload_n 1, 1) := by decide +kernel
theorem dX2_check_30 : decode cX2_check 30 = .ok (.iaload, 1) := by decide +kernel
theorem dX2_check_31 : decode cX2_check 31 = .ok (.istore_n 3, 1) := by decide +kernel
theorem dX2_check_32 : decode cX2_check 32 = .ok (.aload_n 0, 1) := by decide +kernel
theorem dX2_check_33 : decode cX2_check 33 = .ok (.getfield 10, 3) := by decide +kernel
theorem dX2_check_36 : decode cX2_check 36 = .ok (.getfield 152, 3) := by decide +kernel
theorem dX2_check_39 : decode cX2_check 39 = .ok (.iload_n 1, 1) := by decide +kernel
theorem dX2_check_40 : decode cX2_check 40 = .ok (.iload_n 2, 1) := by decide +kernel
theorem dX2_check_41 : decode cX2_check 41 = .ok (.iastore, 1) := by decide +kernel
theorem dX2_check_42 : decode cX2_check 42 = .ok (.iload_n 3, 1) := by decide +kernel
theorem dX2_check_43 : decode cX2_check 43 = .ok (.ireturn, 1) := by decide +kernel
set_option maxRecDepth 20000 in
theorem ggX2_open_X2_isSet : GoodIn wsX2_open wsX2_isSet := goodIn_r _ [5, 6, 7, 8, 4, 9, 10, 23, 24, 25, 26, 27, 28, 29, 30, 31, 32, 33, 34, 35, 36] (by decide +kernel) (by decide +kernel)
set_option maxRecDepth 20000 in
theorem gX2_open_X2_isSet : GoodIn wsX2_open (wsV RX2 80 RX2 yX2_isSet wsX2_isSet) := goodIn_app (goodIn_of _ (by decide +kernel)) ggX2_open_X2_isSet
set_option maxRecDepth 20000 in
theorem ggX2_open_X2_openFor : GoodIn wsX2_open wsX2_openFor := goodIn_r _ [14, 15, 10, 23, 24, 25, 26, 27, 28, 29, 30, 31, 32, 33, 34, 35, 36] (by decide +kernel) (by decide +kernel)
set_option maxRecDepth 20000 in
theorem gX2_open_X2_openFor : GoodIn wsX2_open (wsV RX2 155 RX2 yX2_openFor wsX2_openFor) := goodIn_app (goodIn_of _ (by decide +kernel)) ggX2_open_X2_openFor
set_option maxRecDepth 20000 in
theorem ggX2_open_J6_bitCount_0f7a4 : GoodIn wsX2_open wsJ6_bitCount_0f7a4 := goodIn_r _ [19, 20, 21, 22] (by decide +kernel) (by decide +kernel)
set_option maxRecDepth 20000 in
theorem gX2_open_J6_bitCount_0f7a4 : GoodIn wsX2_open (va_wsS RX2 158 yJ6_bitCount_0f7a4 wsJ6_bitCount_0f7a4) := goodIn_app (goodIn_of _ (by decide +kernel)) ggX2_open_J6_bitCount_0f7a4
theorem dX2_open_0 : decode cX2_open 0 = .ok (.aload_n 0, 1) := by decide +kernel
theorem dX2_open_1 : decode cX2_open 1 = .ok (.iload_n 1, 1) := by decide +kernel
theorem dX2_open_2 : decode cX2_open 2 = .ok (.invokevirtual 80, 3) := by decide +kernel
theorem dX2_open_5 : decode cX2_open 5 = .ok (.ifCond .eq 12, 3) := by decide +kernel
theorem dX2_open_8 : decode cX2_open 8 = .ok (.iload_n 2, 1) := by decide +kernel
theorem dX2_open_9 : decode cX2_open 9 = .ok (.ifCond .lt 8, 3) := by decide +kernel
theorem dX2_open_12 : decode cX2_open 12 = .ok (.iload_n 2, 1) := by decide +kernel
theorem dX2_open_13 : decode cX2_open 13 = .ok (.iconst 1, 1) := by decide +kernel
theorem dX2_open_14 : decode cX2_open 14 = .ok (.if_icmp .le 6, 3) := by decide +kernel
theorem dX2_open_17 : decode cX2_open 17 = .ok (.bipush (-2), 2) := by decide +kernel
theorem dX2_open_19 : decode cX2_open 19 = .ok (.ireturn, 1) := by decide +kernel
theorem dX2_open_20 : decode cX2_open 20 = .ok (.aload_n 0, 1) := by decide +kernel
theorem dX2_open_21 : decode cX2_open 21 = .ok (.iload_n 1, 1) := by decide +kernel
theorem dX2_open_22 : decode cX2_open 22 = .ok (.invokevirtual 155, 3) := by decide +kernel
theorem dX2_open_25 : decode cX2_open 25 = .ok (.istore_n 3, 1) := by decide +kernel
theorem dX2_open_26 : decode cX2_open 26 = .ok (.iload_n 2, 1) := by decide +kernel
theorem dX2_open_27 : decode cX2_open 27 = .ok (.ifCond .ne 7, 3) := by decide +kernel
theorem dX2_open_30 : decode cX2_open 30 = .ok (.iload_n 3, 1) := by decide +kernel
theorem dX2_open_31 : decode cX2_open 31 = .ok (.goto 7, 3) := by decide +kernel
theorem dX2_open_34 : decode cX2_open 34 = .ok (.iload_n 3, 1) := by decide +kernel
theorem dX2_open_35 : decode cX2_open 35 = .ok (.invokestatic 158, 3) := by decide +kernel
theorem dX2_open_38 : decode cX2_open 38 = .ok (.ireturn, 1) := by decide +kernel
set_option maxRecDepth 20000 in
theorem ggX2_fragile_X2_howManyFree : GoodIn wsX2_fragile wsX2_howManyFree := goodIn_r _ [5, 6, 7, 8, 9, 4, 10, 11, 12, 13, 14, 15, 16, 17, 59, 60, 61, 62, 63, 64, 65, 66, 67, 68, 69, 70, 71, 72] (by decide +kernel) (by decide +kernel)
set_option maxRecDepth 20000 in
theorem gX2_fragile_X2_howManyFree : GoodIn wsX2_fragile (wsV RX2 86 RX2 yX2_howManyFree wsX2_howManyFree) := goodIn_app (goodIn_of _ (by decide +kernel)) ggX2_fragile_X2_howManyFree
set_option maxRecDepth 20000 in
theorem ggX2_fragile_X2_leastWeight : GoodIn wsX2_fragile wsX2_leastWeight := goodIn_r _ [21, 22, 23, 24, 25, 7, 8, 9, 4, 10, 6, 26, 27, 28, 29, 30, 31, 32, 33, 34, 35, 36, 11, 12, 13, 14, 15, 16, 17, 59, 60, 61, 62, 63, 64, 65, 66, 67, 68, 69, 70, 71, 72] (by decide +kernel) (by decide +kernel)
set_option maxRecDepth 20000 in
theorem gX2_fragile_X2_leastWeight : GoodIn wsX2_fragile (wsV RX2 99 RX2 yX2_leastWeight wsX2_leastWeight) := goodIn_app (goodIn_of _ (by decide +kernel)) ggX2_fragile_X2_leastWeight
set_option maxRecDepth 20000 in
theorem ggX2_fragile_X2_howManySets : GoodIn wsX2_fragile wsX2_howManySets := goodIn_r _ [40, 7, 8, 9, 4, 10, 6, 41, 42, 43, 44, 33, 34, 35, 36, 45, 46, 47, 48, 49, 50, 51, 52, 53, 24, 54, 59, 60, 61, 62, 63, 64, 65, 66, 67, 68, 69, 70, 71, 72] (by decide +kernel) (by decide +kernel)
set_option maxRecDepth 20000 in
theorem gX2_fragile_X2_howManySets : GoodIn wsX2_fragile (wsV RX2 102 RX2 yX2_howManySets wsX2_howManySets) := goodIn_app (goodIn_of _ (by decide +kernel)) ggX2_fragile_X2_howManySets
set_option maxRecDepth 20000 in
theorem ggX2_fragile_X2_leastSetThatOpens : GoodIn wsX2_fragile wsX2_leastSetThatOpens := goodIn_r _ [58, 7, 8, 9, 4, 10, 6, 45, 46, 47, 48, 36, 49, 50, 51, 52, 53, 24, 54, 59, 60, 61, 62, 63, 64, 65, 66, 67, 68, 69, 70, 71, 72] (by decide +kernel) (by decide +kernel)
set_option maxRecDepth 20000 in
theorem gX2_fragile_X2_leastSetThatOpens : GoodIn wsX2_fragile (wsV RX2 163 RX2 yX2_leastSetThatOpens wsX2_leastSetThatOpens) := goodIn_app (goodIn_of _ (by decide +kernel)) ggX2_fragile_X2_leastSetThatOpens
theorem dX2_fragile_0 : decode cX2_fragile 0 = .ok (.iload_n 1, 1) := by decide +kernel
theorem dX2_fragile_1 : decode cX2_fragile 1 = .ok (.ifCond .lt 8, 3) := by decide +kernel
theorem dX2_fragile_4 : decode cX2_fragile 4 = .ok (.iload_n 1, 1) := by decide +kernel
theorem dX2_fragile_5 : decode cX2_fragile 5 = .ok (.iconst 2, 1) := by decide +kernel
theorem dX2_fragile_6 : decode cX2_fragile 6 = .ok (.if_icmp .le 6, 3) := by decide +kernel
theorem dX2_fragile_9 : decode cX2_fragile 9 = .ok (.bipush (-2), 2) := by decide +kernel
theorem dX2_fragile_11 : decode cX2_fragile 11 = .ok (.ireturn, 1) := by decide +kernel
theorem dX2_fragile_12 : decode cX2_fragile 12 = .ok (.aload_n 0, 1) := by decide +kernel
theorem dX2_fragile_13 : decode cX2_fragile 13 = .ok (.invokevirtual 86, 3) := by decide +kernel
theorem dX2_fragile_16 : decode cX2_fragile 16 = .ok (.ifCond .ne 6, 3) := by decide +kernel
theorem dX2_fragile_19 : decode cX2_fragile 19 = .ok (.bipush (-6), 2) := by decide +kernel
theorem dX2_fragile_21 : decode cX2_fragile 21 = .ok (.ireturn, 1) := by decide +kernel
theorem dX2_fragile_22 : decode cX2_fragile 22 = .ok (.aload_n 0, 1) := by decide +kernel
theorem dX2_fragile_23 : decode cX2_fragile 23 = .ok (.invokevirtual 99, 3) := by decide +kernel
theorem dX2_fragile_26 : decode cX2_fragile 26 = .ok (.istore_n 2, 1) := by decide +kernel
theorem dX2_fragile_27 : decode cX2_fragile 27 = .ok (.iload_n 1, 1) := by decide +kernel
theorem dX2_fragile_28 : decode cX2_fragile 28 = .ok (.lookupswitch 37 #[(0, 28), (1, 30)], 28) := by decide +kernel
theorem dX2_fragile_56 : decode cX2_fragile 56 = .ok (.iload_n 2, 1) := by decide +kernel
theorem dX2_fragile_57 : decode cX2_fragile 57 = .ok (.ireturn, 1) := by decide +kernel
theorem dX2_fragile_58 : decode cX2_fragile 58 = .ok (.aload_n 0, 1) := by decide +kernel
theorem dX2_fragile_59 : decode cX2_fragile 59 = .ok (.iload_n 2, 1) := by decide +kernel
theorem dX2_fragile_60 : decode cX2_fragile 60 = .ok (.iconst 0, 1) := by decide +kernel
theorem dX2_fragile_61 : decode cX2_fragile 61 = .ok (.invokevirtual 102, 3) := by decide +kernel
theorem dX2_fragile_64 : decode cX2_fragile 64 = .ok (.ireturn, 1) := by decide +kernel
theorem dX2_fragile_65 : decode cX2_fragile 65 = .ok (.aload_n 0, 1) := by decide +kernel
theorem dX2_fragile_66 : decode cX2_fragile 66 = .ok (.iload_n 2, 1) := by decide +kernel
theorem dX2_fragile_67 : decode cX2_fragile 67 = .ok (.invokevirtual 163, 3) := by decide +kernel
theorem dX2_fragile_70 : decode cX2_fragile 70 = .ok (.ireturn, 1) := by decide +kernel
set_option maxRecDepth 20000 in
theorem ggX2_image_X2_imageAt : GoodIn wsX2_image wsX2_imageAt := goodIn_r _ [7, 8, 9, 26, 27, 28, 29, 30, 31, 32] (by decide +kernel) (by decide +kernel)
set_option maxRecDepth 20000 in
theorem gX2_image_X2_imageAt : GoodIn wsX2_image (wsV RX2 166 RX2 yX2_imageAt wsX2_imageAt) := goodIn_app (goodIn_of _ (by decide +kernel)) ggX2_image_X2_imageAt
set_option maxRecDepth 20000 in
theorem ggX2_image_X0_copyFrom : GoodIn wsX2_image wsX0_copyFrom := goodIn_r _ [14, 15, 16, 17, 18, 19, 20, 21, 22, 23, 24, 25, 33, 34, 35, 36, 37, 38, 39] (by decide +kernel) (by decide +kernel)
set_option maxRecDepth 20000 in
theorem gX2_image_X0_copyFrom : GoodIn wsX2_image (wsV RX2 170 RX0 yX0_copyFrom wsX0_copyFrom) := goodIn_app (goodIn_of _ (by decide +kernel)) ggX2_image_X0_copyFrom
theorem dX2_image_0 : decode cX2_image 0 = .ok (.iload_n 1, 1) := by decide +kernel
theorem dX2_image_1 : decode cX2_image 1 = .ok (.ifCond .lt 8, 3) := by decide +kernel
theorem dX2_image_4 : decode cX2_image 4 = .ok (.iload_n 1, 1) := by decide +kernel
theorem dX2_image_5 : decode cX2_image 5 = .ok (.iconst 2, 1) := by decide +kernel
theorem dX2_image_6 : decode cX2_image 6 = .ok (.if_icmp .lt 6, 3) := by decide +kernel
theorem dX2_image_9 : decode cX2_image 9 = .ok (.bipush (-2), 2) := by decide +kernel
theorem dX2_image_11 : decode cX2_image 11 = .ok (.ireturn, 1) := by decide +kernel
theorem dX2_image_12 : decode cX2_image 12 = .ok (.aload_n 0, 1) := by decide +kernel
theorem dX2_image_13 : decode cX2_image 13 = .ok (.iload_n 1, 1) := by decide +kernel
theorem dX2_image_14 : decode cX2_image 14 = .ok (.invokevirtual 166, 3) := by decide +kernel
theorem dX2_image_17 : decode cX2_image 17 = .ok (.aload_n 0, 1) := by decide +kernel
theorem dX2_image_18 : decode cX2_image 18 = .ok (.getfield 10, 3) := by decide +kernel
theorem dX2_image_21 : decode cX2_image 21 = .ok (.invokevirtual 170, 3) := by decide +kernel
theorem dX2_image_24 : decode cX2_image 24 = .ok (.aload_n 0, 1) := by decide +kernel
theorem dX2_image_25 : decode cX2_image 25 = .ok (.dup, 1) := by decide +kernel
theorem dX2_image_26 : decode cX2_image 26 = .ok (.getfield 22, 3) := by decide +kernel
theorem dX2_image_29 : decode cX2_image 29 = .ok (.iconst 1, 1) := by decide +kernel
theorem dX2_image_30 : decode cX2_image 30 = .ok (.iload_n 1, 1) := by decide +kernel
theorem dX2_image_31 : decode cX2_image 31 = .ok (.ishl, 1) := by decide +kernel
theorem dX2_image_32 : decode cX2_image 32 = .ok (.ior, 1) := by decide +kernel
theorem dX2_image_33 : decode cX2_image 33 = .ok (.putfield 22, 3) := by decide +kernel
theorem dX2_image_36 : decode cX2_image 36 = .ok (.iconst 1, 1) := by decide +kernel
theorem dX2_image_37 : decode cX2_image 37 = .ok (.ireturn, 1) := by decide +kernel
set_option maxRecDepth 20000 in
theorem ggX2_restore_X2_has : GoodIn wsX2_restore wsX2_has := goodIn_r _ [6] (by decide +kernel) (by decide +kernel)
set_option maxRecDepth 20000 in
theorem gX2_restore_X2_has : GoodIn wsX2_restore (va_wsS RX2 111 yX2_has wsX2_has) := goodIn_app (goodIn_of _ (by decide +kernel)) ggX2_restore_X2_has
set_option maxRecDepth 20000 in
theorem ggX2_restore_X2_imageAt : GoodIn wsX2_restore wsX2_imageAt := goodIn_r _ [10, 11, 12, 29, 30, 31, 32, 33, 34, 35] (by decide +kernel) (by decide +kernel)
set_option maxRecDepth 20000 in
theorem gX2_restore_X2_imageAt : GoodIn wsX2_restore (wsV RX2 166 RX2 yX2_imageAt wsX2_imageAt) := goodIn_app (goodIn_of _ (by decide +kernel)) ggX2_restore_X2_imageAt
set_option maxRecDepth 20000 in
theorem ggX2_restore_X0_copyFrom : GoodIn wsX2_restore wsX0_copyFrom := goodIn_r _ [17, 18, 19, 20, 21, 22, 23, 24, 25, 26, 27, 28, 36, 37, 38, 39, 40, 41, 42] (by decide +kernel) (by decide +kernel)
set_option maxRecDepth 20000 in
theorem gX2_restore_X0_copyFrom : GoodIn wsX2_restore (wsV RX2 170 RX0 yX0_copyFrom wsX0_copyFrom) := goodIn_app (goodIn_of _ (by decide +kernel)) ggX2_restore_X0_copyFrom
theorem dX2_restore_0 : decode cX2_restore 0 = .ok (.iload_n 1, 1) := by decide +kernel
theorem dX2_restore_1 : decode cX2_restore 1 = .ok (.ifCond .lt 8, 3) := by decide +kernel
theorem dX2_restore_4 : decode cX2_restore 4 = .ok (.iload_n 1, 1) := by decide +kernel
theorem dX2_restore_5 : decode cX2_restore 5 = .ok (.iconst 2, 1) := by decide +kernel
theorem dX2_restore_6 : decode cX2_restore 6 = .ok (.if_icmp .lt 6, 3) := by decide +kernel
theorem dX2_restore_9 : decode cX2_restore 9 = .ok (.bipush (-2), 2) := by decide +kernel
theorem dX2_restore_11 : decode cX2_restore 11 = .ok (.ireturn, 1) := by decide +kernel
theorem dX2_restore_12 : decode cX2_restore 12 = .ok (.aload_n 0, 1) := by decide +kernel
theorem dX2_restore_13 : decode cX2_restore 13 = .ok (.getfield 22, 3) := by decide +kernel
theorem dX2_restore_16 : decode cX2_restore 16 = .ok (.iload_n 1, 1) := by decide +kernel
theorem dX2_restore_17 : decode cX2_restore 17 = .ok (.invokestatic 111, 3) := by decide +kernel
theorem dX2_restore_20 : decode cX2_restore 20 = .ok (.ifCond .ne 6, 3) := by decide +kernel
theorem dX2_restore_23 : decode cX2_restore 23 = .ok (.bipush (-3), 2) := by decide +kernel
theorem dX2_restore_25 : decode cX2_restore 25 = .ok (.ireturn, 1) := by decide +kernel
theorem dX2_restore_26 : decode cX2_restore 26 = .ok (.aload_n 0, 1) := by decide +kernel
theorem dX2_restore_27 : decode cX2_restore 27 = .ok (.getfield 10, 3) := by decide +kernel
theorem dX2_restore_30 : decode cX2_restore 30 = .ok (.aload_n 0, 1) := by decide +kernel
theorem dX2_restore_31 : decode cX2_restore 31 = .ok (.iload_n 1, 1) := by decide +kernel
theorem dX2_restore_32 : decode cX2_restore 32 = .ok (.invokevirtual 166, 3) := by decide +kernel
theorem dX2_restore_35 : decode cX2_restore 35 = .ok (.invokevirtual 170, 3) := by decide +kernel
theorem dX2_restore_38 : decode cX2_restore 38 = .ok (.iconst 1, 1) := by decide +kernel
theorem dX2_restore_39 : decode cX2_restore 39 = .ok (.ireturn, 1) := by decide +kernel
set_option maxRecDepth 20000 in
theorem ggX2_count_X2_howManyFree : GoodIn wsX2_count wsX2_howManyFree := goodIn_r _ [7, 1, 8, 9, 10, 6, 11, 12, 13, 14, 15, 16, 17, 18, 23, 24, 25, 26, 27, 28, 29, 30, 31, 32, 33, 34, 35, 36] (by decide +kernel) (by decide +kernel)
set_option maxRecDepth 20000 in
theorem gX2_count_X2_howManyFree : GoodIn wsX2_count (wsV RX2 86 RX2 yX2_howManyFree wsX2_howManyFree) := goodIn_app (goodIn_of _ (by decide +kernel)) ggX2_count_X2_howManyFree
set_option maxRecDepth 20000 in
theorem ggX2_count_X2_checkCounted : GoodIn wsX2_count wsX2_checkCounted := goodIn_r _ [22, 1, 23, 24, 25, 26, 27, 28, 29, 30, 31, 32, 33, 34, 35, 36] (by decide +kernel) (by decide +kernel)
set_option maxRecDepth 20000 in
theorem gX2_count_X2_checkCounted : GoodIn wsX2_count (wsV RX2 174 RX2 yX2_checkCounted wsX2_checkCounted) := goodIn_app (goodIn_of _ (by decide +kernel)) ggX2_count_X2_checkCounted
theorem dX2_count_0 : decode cX2_count 0 = .ok (.iload_n 1, 1) := by decide +kernel
theorem dX2_count_1 : decode cX2_count 1 = .ok (.tableswitch 93 0 6 #[43, 51, 59, 67, 75, 80, 88], 43) := by decide +kernel
theorem dX2_count_44 : decode cX2_count 44 = .ok (.aload_n 0, 1) := by decide +kernel
theorem dX2_count_45 : decode cX2_count 45 = .ok (.getfield 10, 3) := by decide +kernel
theorem dX2_count_48 : decode cX2_count 48 = .ok (.getfield 40, 3) := by decide +kernel
theorem dX2_count_51 : decode cX2_count 51 = .ok (.ireturn, 1) := by decide +kernel
theorem dX2_count_52 : decode cX2_count 52 = .ok (.aload_n 0, 1) := by decide +kernel
theorem dX2_count_53 : decode cX2_count 53 = .ok (.getfield 10, 3) := by decide +kernel
theorem dX2_count_56 : decode cX2_count 56 = .ok (.getfield 50, 3) := by decide +kernel
theorem dX2_count_59 : decode cX2_count 59 = .ok (.ireturn, 1) := by decide +kernel
theorem dX2_count_60 : decode cX2_count 60 = .ok (.aload_n 0, 1) := by decide +kernel
theorem dX2_count_61 : decode cX2_count 61 = .ok (.getfield 10, 3) := by decide +kernel
theorem dX2_count_64 : decode cX2_count 64 = .ok (.getfield 47, 3) := by decide +kernel
theorem dX2_count_67 : decode cX2_count 67 = .ok (.ireturn, 1) := by decide +kernel
theorem dX2_count_68 : decode cX2_count 68 = .ok (.aload_n 0, 1) := by decide +kernel
theorem dX2_count_69 : decode cX2_count 69 = .ok (.getfield 10, 3) := by decide +kernel
theorem dX2_count_72 : decode cX2_count 72 = .ok (.getfield 83, 3) := by decide +kernel
theorem dX2_count_75 : decode cX2_count 75 = .ok (.ireturn, 1) := by decide +kernel
theorem dX2_count_76 : decode cX2_count 76 = .ok (.aload_n 0, 1) := by decide +kernel
theorem dX2_count_77 : decode cX2_count 77 = .ok (.invokevirtual 86, 3) := by decide +kernel
theorem dX2_count_80 : decode cX2_count 80 = .ok (.ireturn, 1) := by decide +kernel
theorem dX2_count_81 : decode cX2_count 81 = .ok (.aload_n 0, 1) := by decide +kernel
theorem dX2_count_82 : decode cX2_count 82 = .ok (.getfield 10, 3) := by decide +kernel
theorem dX2_count_85 : decode cX2_count 85 = .ok (.getfield 131, 3) := by decide +kernel
theorem dX2_count_88 : decode cX2_count 88 = .ok (.ireturn, 1) := by decide +kernel
theorem dX2_count_89 : decode cX2_count 89 = .ok (.aload_n 0, 1) := by decide +kernel
theorem dX2_count_90 : decode cX2_count 90 = .ok (.getfield 22, 3) := by decide +kernel
theorem dX2_count_93 : decode cX2_count 93 = .ok (.ireturn, 1) := by decide +kernel
theorem dX2_count_94 : decode cX2_count 94 = .ok (.aload_n 0, 1) := by decide +kernel
theorem dX2_count_95 : decode cX2_count 95 = .ok (.iload_n 1, 1) := by decide +kernel
theorem dX2_count_96 : decode cX2_count 96 = .ok (.invokevirtual 174, 3) := by decide +kernel
theorem dX2_count_99 : decode cX2_count 99 = .ok (.ireturn, 1) := by decide +kernel
theorem dX2_places_0 : decode cX2_places 0 = .ok (.iconst 1, 1) := by decide +kernel
theorem dX2_places_1 : decode cX2_places 1 = .ok (.aload_n 0, 1) := by decide +kernel
theorem dX2_places_2 : decode cX2_places 2 = .ok (.getfield 10, 3) := by decide +kernel
theorem dX2_places_5 : decode cX2_places 5 = .ok (.getfield 40, 3) := by decide +kernel
theorem dX2_places_8 : decode cX2_places 8 = .ok (.ishl, 1) := by decide +kernel
theorem dX2_places_9 : decode cX2_places 9 = .ok (.ireturn, 1) := by decide +kernel
set_option maxRecDepth 20000 in
theorem ggX2_isPlace_X2_places : GoodIn wsX2_isPlace wsX2_places := goodIn_r _ [5, 6, 7, 8, 9, 10, 11, 12, 13, 14, 15, 16, 17, 18, 19, 20] (by decide +kernel) (by decide +kernel)
set_option maxRecDepth 20000 in
theorem gX2_isPlace_X2_places : GoodIn wsX2_isPlace (wsV RX2 90 RX2 yX2_places wsX2_places) := goodIn_app (goodIn_of _ (by decide +kernel)) ggX2_isPlace_X2_places
theorem dX2_isPlace_0 : decode cX2_isPlace 0 = .ok (.iload_n 1, 1) := by decide +kernel
theorem dX2_isPlace_1 : decode cX2_isPlace 1 = .ok (.ifCond .lt 15, 3) := by decide +kernel
theorem dX2_isPlace_4 : decode cX2_isPlace 4 = .ok (.iload_n 1, 1) := by decide +kernel
theorem dX2_isPlace_5 : decode cX2_isPlace 5 = .ok (.aload_n 0, 1) := by decide +kernel
theorem dX2_isPlace_6 : decode cX2_isPlace 6 = .ok (.invokevirtual 90, 3) := by decide +kernel
theorem dX2_isPlace_9 : decode cX2_isPlace 9 = .ok (.if_icmp .ge 7, 3) := by decide +kernel
theorem dX2_isPlace_12 : decode cX2_isPlace 12 = .ok (.iconst 1, 1) := by decide +kernel
theorem dX2_isPlace_13 : decode cX2_isPlace 13 = .ok (.goto 4, 3) := by decide +kernel
theorem dX2_isPlace_16 : decode cX2_isPlace 16 = .ok (.iconst 0, 1) := by decide +kernel
theorem dX2_isPlace_17 : decode cX2_isPlace 17 = .ok (.ireturn, 1) := by decide +kernel
set_option maxRecDepth 20000 in
theorem ggX2_isSet_X2_places : GoodIn wsX2_isSet wsX2_places := goodIn_r _ [5, 6, 7, 8, 9, 10, 11, 12, 13, 14, 15, 16, 17, 18, 19, 20] (by decide +kernel) (by decide +kernel)
set_option maxRecDepth 20000 in
theorem gX2_isSet_X2_places : GoodIn wsX2_isSet (wsV RX2 90 RX2 yX2_places wsX2_places) := goodIn_app (goodIn_of _ (by decide +kernel)) ggX2_isSet_X2_places
theorem dX2_isSet_0 : decode cX2_isSet 0 = .ok (.iload_n 1, 1) := by decide +kernel
theorem dX2_isSet_1 : decode cX2_isSet 1 = .ok (.ifCond .lt 17, 3) := by decide +kernel
theorem dX2_isSet_4 : decode cX2_isSet 4 = .ok (.iload_n 1, 1) := by decide +kernel
theorem dX2_isSet_5 : decode cX2_isSet 5 = .ok (.iconst 1, 1) := by decide +kernel
theorem dX2_isSet_6 : decode cX2_isSet 6 = .ok (.aload_n 0, 1) := by decide +kernel
theorem dX2_isSet_7 : decode cX2_isSet 7 = .ok (.invokevirtual 90, 3) := by decide +kernel
theorem dX2_isSet_10 : decode cX2_isSet 10 = .ok (.ishl, 1) := by decide +kernel
theorem dX2_isSet_11 : decode cX2_isSet 11 = .ok (.if_icmp .ge 7, 3) := by decide +kernel
theorem dX2_isSet_14 : decode cX2_isSet 14 = .ok (.iconst 1, 1) := by decide +kernel
theorem dX2_isSet_15 : decode cX2_isSet 15 = .ok (.goto 4, 3) := by decide +kernel
theorem dX2_isSet_18 : decode cX2_isSet 18 = .ok (.iconst 0, 1) := by decide +kernel
theorem dX2_isSet_19 : decode cX2_isSet 19 = .ok (.ireturn, 1) := by decide +kernel
theorem dX2_has_0 : decode cX2_has 0 = .ok (.iload_n 0, 1) := by decide +kernel
theorem dX2_has_1 : decode cX2_has 1 = .ok (.iload_n 1, 1) := by decide +kernel
theorem dX2_has_2 : decode cX2_has 2 = .ok (.ishr, 1) := by decide +kernel
theorem dX2_has_3 : decode cX2_has 3 = .ok (.iconst 1, 1) := by decide +kernel
theorem dX2_has_4 : decode cX2_has 4 = .ok (.iand, 1) := by decide +kernel
theorem dX2_has_5 : decode cX2_has 5 = .ok (.iconst 1, 1) := by decide +kernel
theorem dX2_has_6 : decode cX2_has 6 = .ok (.if_icmp .ne 7, 3) := by decide +kernel
theorem dX2_has_9 : decode cX2_has 9 = .ok (.iconst 1, 1) := by decide +kernel
theorem dX2_has_10 : decode cX2_has 10 = .ok (.goto 4, 3) := by decide +kernel
theorem dX2_has_13 : decode cX2_has 13 = .ok (.iconst 0, 1) := by decide +kernel
theorem dX2_has_14 : decode cX2_has 14 = .ok (.ireturn, 1) := by decide +kernel
set_option maxRecDepth 20000 in
theorem ggX2_isFree_X2_has : GoodIn wsX2_isFree wsX2_has := goodIn_r _ [5] (by decide +kernel) (by decide +kernel)
set_option maxRecDepth 20000 in
theorem gX2_isFree_X2_has : GoodIn wsX2_isFree (va_wsS RX2 111 yX2_has wsX2_has) := goodIn_app (goodIn_of _ (by decide +kernel)) ggX2_isFree_X2_has
theorem dX2_isFree_0 : decode cX2_isFree 0 = .ok (.aload_n 0, 1) := by decide +kernel
theorem dX2_isFree_1 : decode cX2_isFree 1 = .ok (.getfield 10, 3) := by decide +kernel
theorem dX2_isFree_4 : decode cX2_isFree 4 = .ok (.getfield 83, 3) := by decide +kernel
theorem dX2_isFree_7 : decode cX2_isFree 7 = .ok (.iload_n 1, 1) := by decide +kernel
theorem dX2_isFree_8 : decode cX2_isFree 8 = .ok (.invokestatic 111, 3) := by decide +kernel
theorem dX2_isFree_11 : decode cX2_isFree 11 = .ok (.ifCond .ne 7, 3) := by decide +kernel
theorem dX2_isFree_14 : decode cX2_isFree 14 = .ok (.iconst 1, 1) := by decide +kernel
theorem dX2_isFree_15 : decode cX2_isFree 15 = .ok (.goto 4, 3) := by decide +kernel
theorem dX2_isFree_18 : decode cX2_isFree 18 = .ok (.iconst 0, 1) := by decide +kernel
theorem dX2_isFree_19 : decode cX2_isFree 19 = .ok (.ireturn, 1) := by decide +kernel
set_option maxRecDepth 20000 in
theorem ggX2_howManyFree_X2_places : GoodIn wsX2_howManyFree wsX2_places := goodIn_r _ [6, 1, 14, 15, 16, 17, 18, 19, 20, 21, 22, 23, 24, 25, 26, 27] (by decide +kernel) (by decide +kernel)
set_option maxRecDepth 20000 in
theorem gX2_howManyFree_X2_places : GoodIn wsX2_howManyFree (wsV RX2 90 RX2 yX2_places wsX2_places) := goodIn_app (goodIn_of _ (by decide +kernel)) ggX2_howManyFree_X2_places
set_option maxRecDepth 20000 in
theorem ggX2_howManyFree_J6_bitCount_0f7a4 : GoodIn wsX2_howManyFree wsJ6_bitCount_0f7a4 := goodIn_r _ [10, 11, 12, 13] (by decide +kernel) (by decide +kernel)
set_option maxRecDepth 20000 in
theorem gX2_howManyFree_J6_bitCount_0f7a4 : GoodIn wsX2_howManyFree (va_wsS RX2 158 yJ6_bitCount_0f7a4 wsJ6_bitCount_0f7a4) := goodIn_app (goodIn_of _ (by decide +kernel)) ggX2_howManyFree_J6_bitCount_0f7a4
theorem dX2_howManyFree_0 : decode cX2_howManyFree 0 = .ok (.aload_n 0, 1) := by decide +kernel
