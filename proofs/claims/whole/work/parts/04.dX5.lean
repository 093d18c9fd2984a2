theorem dX5_init_0 : decode cX5_init 0 = .ok (.aload_n 0, 1) := by decide +kernel
theorem dX5_init_1 : decode cX5_init 1 = .ok (.invokespecial 3, 3) := by decide +kernel
theorem dX5_init_4 : decode cX5_init 4 = .ok (.aload_n 0, 1) := by decide +kernel
theorem dX5_init_5 : decode cX5_init 5 = .ok (.sipush 5040, 3) := by decide +kernel
theorem dX5_init_8 : decode cX5_init 8 = .ok (.newarray .int, 2) := by decide +kernel
theorem dX5_init_10 : decode cX5_init 10 = .ok (.putfield 11, 3) := by decide +kernel
theorem dX5_init_13 : decode cX5_init 13 = .ok (.aload_n 0, 1) := by decide +kernel
theorem dX5_init_14 : decode cX5_init 14 = .ok (.sipush 5040, 3) := by decide +kernel
theorem dX5_init_17 : decode cX5_init 17 = .ok (.newarray .int, 2) := by decide +kernel
theorem dX5_init_19 : decode cX5_init 19 = .ok (.putfield 15, 3) := by decide +kernel
theorem dX5_init_22 : decode cX5_init 22 = .ok (.aload_n 0, 1) := by decide +kernel
theorem dX5_init_23 : decode cX5_init 23 = .ok (.iconst 0, 1) := by decide +kernel
theorem dX5_init_24 : decode cX5_init 24 = .ok (.putfield 18, 3) := by decide +kernel
theorem dX5_init_27 : decode cX5_init 27 = .ok (.aload_n 0, 1) := by decide +kernel
theorem dX5_init_28 : decode cX5_init 28 = .ok (.iconst 0, 1) := by decide +kernel
theorem dX5_init_29 : decode cX5_init 29 = .ok (.putfield 22, 3) := by decide +kernel
theorem dX5_init_32 : decode cX5_init 32 = .ok (.aload_n 0, 1) := by decide +kernel
theorem dX5_init_33 : decode cX5_init 33 = .ok (.sipush 16384, 3) := by decide +kernel
theorem dX5_init_36 : decode cX5_init 36 = .ok (.newarray .long, 2) := by decide +kernel
theorem dX5_init_38 : decode cX5_init 38 = .ok (.putfield 25, 3) := by decide +kernel
theorem dX5_init_41 : decode cX5_init 41 = .ok (.aload_n 0, 1) := by decide +kernel
theorem dX5_init_42 : decode cX5_init 42 = .ok (.sipush 20160, 3) := by decide +kernel
theorem dX5_init_45 : decode cX5_init 45 = .ok (.newarray .int, 2) := by decide +kernel
theorem dX5_init_47 : decode cX5_init 47 = .ok (.putfield 29, 3) := by decide +kernel
theorem dX5_init_50 : decode cX5_init 50 = .ok (.aload_n 0, 1) := by decide +kernel
theorem dX5_init_51 : decode cX5_init 51 = .ok (.iconst 0, 1) := by decide +kernel
theorem dX5_init_52 : decode cX5_init 52 = .ok (.putfield 32, 3) := by decide +kernel
theorem dX5_init_55 : decode cX5_init 55 = .ok (.return_, 1) := by decide +kernel
set_option maxRecDepth 20000 in
theorem ggX5_prepare_J7_fill_d0a16 : GoodIn wsX5_prepare wsJ7_fill_d0a16 := goodIn_r _ [7] (by decide +kernel) (by decide +kernel)
set_option maxRecDepth 20000 in
theorem gX5_prepare_J7_fill_d0a16 : GoodIn wsX5_prepare (va_wsS RX5 35 yJ7_fill_d0a16 wsJ7_fill_d0a16) := goodIn_app (goodIn_of _ (by decide +kernel)) ggX5_prepare_J7_fill_d0a16
set_option maxRecDepth 20000 in
theorem ggX5_prepare_X6_first : GoodIn wsX5_prepare wsX6_first := goodIn_r _ [11] (by decide +kernel) (by decide +kernel)
set_option maxRecDepth 20000 in
theorem gX5_prepare_X6_first : GoodIn wsX5_prepare (va_wsS RX5 41 yX6_first wsX6_first) := goodIn_app (goodIn_of _ (by decide +kernel)) ggX5_prepare_X6_first
set_option maxRecDepth 20000 in
theorem ggX5_prepare_X5_addRow : GoodIn wsX5_prepare wsX5_addRow := goodIn_r _ [16, 2, 17, 18, 19, 20, 21, 15, 22, 23, 3, 24, 58, 59, 60, 61, 62, 63, 64] (by decide +kernel) (by decide +kernel)
set_option maxRecDepth 20000 in
theorem gX5_prepare_X5_addRow : GoodIn wsX5_prepare (wsV RX5 47 RX5 yX5_addRow wsX5_addRow) := goodIn_app (goodIn_of _ (by decide +kernel)) ggX5_prepare_X5_addRow
set_option maxRecDepth 20000 in
theorem ggX5_prepare_X5_addRowsBehind : GoodIn wsX5_prepare wsX5_addRowsBehind := goodIn_r _ [28, 1, 29, 30, 31, 15, 32, 17, 33, 34, 35, 36, 37, 38, 10, 39, 40, 41, 42, 43, 44, 45, 46, 47, 48, 49, 50, 51, 52, 53, 54, 55, 56, 57, 12, 13, 14, 16, 2, 18, 19, 20, 21, 22, 23, 3, 24, 58, 59, 60, 61, 62, 63, 64] (by decide +kernel) (by decide +kernel)
set_option maxRecDepth 20000 in
theorem gX5_prepare_X5_addRowsBehind : GoodIn wsX5_prepare (wsV RX5 51 RX5 yX5_addRowsBehind wsX5_addRowsBehind) := goodIn_app (goodIn_of _ (by decide +kernel)) ggX5_prepare_X5_addRowsBehind
theorem dX5_prepare_0 : decode cX5_prepare 0 = .ok (.aload_n 0, 1) := by decide +kernel
theorem dX5_prepare_1 : decode cX5_prepare 1 = .ok (.getfield 22, 3) := by decide +kernel
theorem dX5_prepare_4 : decode cX5_prepare 4 = .ok (.iload_n 1, 1) := by decide +kernel
theorem dX5_prepare_5 : decode cX5_prepare 5 = .ok (.if_icmp .ne 4, 3) := by decide +kernel
theorem dX5_prepare_8 : decode cX5_prepare 8 = .ok (.return_, 1) := by decide +kernel
theorem dX5_prepare_9 : decode cX5_prepare 9 = .ok (.aload_n 0, 1) := by decide +kernel
theorem dX5_prepare_10 : decode cX5_prepare 10 = .ok (.iload_n 1, 1) := by decide +kernel
theorem dX5_prepare_11 : decode cX5_prepare 11 = .ok (.putfield 22, 3) := by decide +kernel
theorem dX5_prepare_14 : decode cX5_prepare 14 = .ok (.aload_n 0, 1) := by decide +kernel
theorem dX5_prepare_15 : decode cX5_prepare 15 = .ok (.iconst 0, 1) := by decide +kernel
theorem dX5_prepare_16 : decode cX5_prepare 16 = .ok (.putfield 18, 3) := by decide +kernel
theorem dX5_prepare_19 : decode cX5_prepare 19 = .ok (.aload_n 0, 1) := by decide +kernel
theorem dX5_prepare_20 : decode cX5_prepare 20 = .ok (.getfield 25, 3) := by decide +kernel
theorem dX5_prepare_23 : decode cX5_prepare 23 = .ok (.lconst 0, 1) := by decide +kernel
theorem dX5_prepare_24 : decode cX5_prepare 24 = .ok (.invokestatic 35, 3) := by decide +kernel
theorem dX5_prepare_27 : decode cX5_prepare 27 = .ok (.aload_n 0, 1) := by decide +kernel
theorem dX5_prepare_28 : decode cX5_prepare 28 = .ok (.aload_n 0, 1) := by decide +kernel
theorem dX5_prepare_29 : decode cX5_prepare 29 = .ok (.getfield 22, 3) := by decide +kernel
theorem dX5_prepare_32 : decode cX5_prepare 32 = .ok (.invokestatic 41, 3) := by decide +kernel
theorem dX5_prepare_35 : decode cX5_prepare 35 = .ok (.iconst 0, 1) := by decide +kernel
theorem dX5_prepare_36 : decode cX5_prepare 36 = .ok (.invokevirtual 47, 3) := by decide +kernel
theorem dX5_prepare_39 : decode cX5_prepare 39 = .ok (.iconst 0, 1) := by decide +kernel
theorem dX5_prepare_40 : decode cX5_prepare 40 = .ok (.istore_n 2, 1) := by decide +kernel
theorem dX5_prepare_41 : decode cX5_prepare 41 = .ok (.iload_n 2, 1) := by decide +kernel
theorem dX5_prepare_42 : decode cX5_prepare 42 = .ok (.aload_n 0, 1) := by decide +kernel
theorem dX5_prepare_43 : decode cX5_prepare 43 = .ok (.getfield 18, 3) := by decide +kernel
theorem dX5_prepare_46 : decode cX5_prepare 46 = .ok (.if_icmp .ge 21, 3) := by decide +kernel
theorem dX5_prepare_49 : decode cX5_prepare 49 = .ok (.iload_n 2, 1) := by decide +kernel
theorem dX5_prepare_50 : decode cX5_prepare 50 = .ok (.sipush 5040, 3) := by decide +kernel
theorem dX5_prepare_53 : decode cX5_prepare 53 = .ok (.if_icmp .ge 14, 3) := by decide +kernel
theorem dX5_prepare_56 : decode cX5_prepare 56 = .ok (.aload_n 0, 1) := by decide +kernel
theorem dX5_prepare_57 : decode cX5_prepare 57 = .ok (.iload_n 2, 1) := by decide +kernel
theorem dX5_prepare_58 : decode cX5_prepare 58 = .ok (.invokevirtual 51, 3) := by decide +kernel
theorem dX5_prepare_61 : decode cX5_prepare 61 = .ok (.iinc 2 1, 3) := by decide +kernel
theorem dX5_prepare_64 : decode cX5_prepare 64 = .ok (.goto (-23), 3) := by decide +kernel
theorem dX5_prepare_67 : decode cX5_prepare 67 = .ok (.return_, 1) := by decide +kernel
set_option maxRecDepth 20000 in
theorem ggX5_firstTaught_X5_rowAt : GoodIn wsX5_firstTaught wsX5_rowAt := goodIn_r _ [7, 8, 58, 59, 60, 61, 62, 63, 64] (by decide +kernel) (by decide +kernel)
set_option maxRecDepth 20000 in
theorem gX5_firstTaught_X5_rowAt : GoodIn wsX5_firstTaught (wsV RX5 55 RX5 yX5_rowAt wsX5_rowAt) := goodIn_app (goodIn_of _ (by decide +kernel)) ggX5_firstTaught_X5_rowAt
set_option maxRecDepth 20000 in
theorem ggX5_firstTaught_X3_inOrder : GoodIn wsX5_firstTaught wsX3_inOrder := goodIn_r _ [12, 13, 14, 15, 16, 17, 18, 11, 19, 20] (by decide +kernel) (by decide +kernel)
set_option maxRecDepth 20000 in
theorem gX5_firstTaught_X3_inOrder : GoodIn wsX5_firstTaught (va_wsS RX5 58 yX3_inOrder wsX3_inOrder) := goodIn_app (goodIn_of _ (by decide +kernel)) ggX5_firstTaught_X3_inOrder
set_option maxRecDepth 20000 in
theorem ggX5_firstTaught_X2_teach : GoodIn wsX5_firstTaught wsX2_teach := goodIn_r _ [24, 25, 26, 27, 28, 29, 30, 11, 31, 32, 33, 34, 17, 18, 19, 20, 35, 36, 23, 37, 38, 39, 40, 41, 42, 43, 44, 45, 46, 47, 48, 49, 50, 51, 52, 53, 54, 55, 56, 57] (by decide +kernel) (by decide +kernel)
set_option maxRecDepth 20000 in
theorem gX5_firstTaught_X2_teach : GoodIn wsX5_firstTaught (va_wsS RX5 64 yX2_teach wsX2_teach) := goodIn_app (goodIn_of _ (by decide +kernel)) ggX5_firstTaught_X2_teach
theorem dX5_firstTaught_0 : decode cX5_firstTaught 0 = .ok (.iconst 0, 1) := by decide +kernel
theorem dX5_firstTaught_1 : decode cX5_firstTaught 1 = .ok (.istore 4, 2) := by decide +kernel
theorem dX5_firstTaught_3 : decode cX5_firstTaught 3 = .ok (.iload 4, 2) := by decide +kernel
theorem dX5_firstTaught_5 : decode cX5_firstTaught 5 = .ok (.aload_n 0, 1) := by decide +kernel
theorem dX5_firstTaught_6 : decode cX5_firstTaught 6 = .ok (.getfield 18, 3) := by decide +kernel
theorem dX5_firstTaught_9 : decode cX5_firstTaught 9 = .ok (.if_icmp .ge 37, 3) := by decide +kernel
theorem dX5_firstTaught_12 : decode cX5_firstTaught 12 = .ok (.iload_n 1, 1) := by decide +kernel
theorem dX5_firstTaught_13 : decode cX5_firstTaught 13 = .ok (.lload_n 2, 1) := by decide +kernel
theorem dX5_firstTaught_14 : decode cX5_firstTaught 14 = .ok (.aload_n 0, 1) := by decide +kernel
theorem dX5_firstTaught_15 : decode cX5_firstTaught 15 = .ok (.iload 4, 2) := by decide +kernel
theorem dX5_firstTaught_17 : decode cX5_firstTaught 17 = .ok (.invokevirtual 55, 3) := by decide +kernel
theorem dX5_firstTaught_20 : decode cX5_firstTaught 20 = .ok (.aload_n 0, 1) := by decide +kernel
theorem dX5_firstTaught_21 : decode cX5_firstTaught 21 = .ok (.getfield 22, 3) := by decide +kernel
theorem dX5_firstTaught_24 : decode cX5_firstTaught 24 = .ok (.invokestatic 58, 3) := by decide +kernel
theorem dX5_firstTaught_27 : decode cX5_firstTaught 27 = .ok (.aload_n 0, 1) := by decide +kernel
theorem dX5_firstTaught_28 : decode cX5_firstTaught 28 = .ok (.getfield 22, 3) := by decide +kernel
theorem dX5_firstTaught_31 : decode cX5_firstTaught 31 = .ok (.invokestatic 64, 3) := by decide +kernel
theorem dX5_firstTaught_34 : decode cX5_firstTaught 34 = .ok (.ifCond .eq 6, 3) := by decide +kernel
theorem dX5_firstTaught_37 : decode cX5_firstTaught 37 = .ok (.iload 4, 2) := by decide +kernel
theorem dX5_firstTaught_39 : decode cX5_firstTaught 39 = .ok (.ireturn, 1) := by decide +kernel
theorem dX5_firstTaught_40 : decode cX5_firstTaught 40 = .ok (.iinc 4 1, 3) := by decide +kernel
theorem dX5_firstTaught_43 : decode cX5_firstTaught 43 = .ok (.goto (-40), 3) := by decide +kernel
theorem dX5_firstTaught_46 : decode cX5_firstTaught 46 = .ok (.iconst (-1), 1) := by decide +kernel
theorem dX5_firstTaught_47 : decode cX5_firstTaught 47 = .ok (.ireturn, 1) := by decide +kernel
set_option maxRecDepth 20000 in
theorem ggX5_length_X5_linkAt : GoodIn wsX5_length wsX5_linkAt := goodIn_r _ [5, 6, 7, 8, 9, 10, 11, 12, 13] (by decide +kernel) (by decide +kernel)
set_option maxRecDepth 20000 in
theorem gX5_length_X5_linkAt : GoodIn wsX5_length (wsV RX5 70 RX5 yX5_linkAt wsX5_linkAt) := goodIn_app (goodIn_of _ (by decide +kernel)) ggX5_length_X5_linkAt
theorem dX5_length_0 : decode cX5_length 0 = .ok (.iconst 0, 1) := by decide +kernel
theorem dX5_length_1 : decode cX5_length 1 = .ok (.istore_n 2, 1) := by decide +kernel
theorem dX5_length_2 : decode cX5_length 2 = .ok (.iload_n 1, 1) := by decide +kernel
theorem dX5_length_3 : decode cX5_length 3 = .ok (.istore_n 3, 1) := by decide +kernel
theorem dX5_length_4 : decode cX5_length 4 = .ok (.iload_n 3, 1) := by decide +kernel
theorem dX5_length_5 : decode cX5_length 5 = .ok (.ifCond .le 25, 3) := by decide +kernel
theorem dX5_length_8 : decode cX5_length 8 = .ok (.iload_n 2, 1) := by decide +kernel
theorem dX5_length_9 : decode cX5_length 9 = .ok (.sipush 5040, 3) := by decide +kernel
theorem dX5_length_12 : decode cX5_length 12 = .ok (.if_icmp .ge 18, 3) := by decide +kernel
theorem dX5_length_15 : decode cX5_length 15 = .ok (.aload_n 0, 1) := by decide +kernel
theorem dX5_length_16 : decode cX5_length 16 = .ok (.iload_n 3, 1) := by decide +kernel
theorem dX5_length_17 : decode cX5_length 17 = .ok (.invokevirtual 70, 3) := by decide +kernel
theorem dX5_length_20 : decode cX5_length 20 = .ok (.bipush 6, 2) := by decide +kernel
theorem dX5_length_22 : decode cX5_length 22 = .ok (.ishr, 1) := by decide +kernel
theorem dX5_length_23 : decode cX5_length 23 = .ok (.istore_n 3, 1) := by decide +kernel
theorem dX5_length_24 : decode cX5_length 24 = .ok (.iinc 2 1, 3) := by decide +kernel
theorem dX5_length_27 : decode cX5_length 27 = .ok (.goto (-23), 3) := by decide +kernel
theorem dX5_length_30 : decode cX5_length 30 = .ok (.iload_n 2, 1) := by decide +kernel
theorem dX5_length_31 : decode cX5_length 31 = .ok (.ireturn, 1) := by decide +kernel
set_option maxRecDepth 20000 in
theorem ggX5_event_X5_linkAt : GoodIn wsX5_event wsX5_linkAt := goodIn_r _ [5, 6, 7, 8, 9, 10, 11, 12, 13] (by decide +kernel) (by decide +kernel)
set_option maxRecDepth 20000 in
theorem gX5_event_X5_linkAt : GoodIn wsX5_event (wsV RX5 70 RX5 yX5_linkAt wsX5_linkAt) := goodIn_app (goodIn_of _ (by decide +kernel)) ggX5_event_X5_linkAt
theorem dX5_event_0 : decode cX5_event 0 = .ok (.iload_n 1, 1) := by decide +kernel
theorem dX5_event_1 : decode cX5_event 1 = .ok (.istore_n 3, 1) := by decide +kernel
theorem dX5_event_2 : decode cX5_event 2 = .ok (.iconst 0, 1) := by decide +kernel
theorem dX5_event_3 : decode cX5_event 3 = .ok (.istore 4, 2) := by decide +kernel
theorem dX5_event_5 : decode cX5_event 5 = .ok (.iload 4, 2) := by decide +kernel
theorem dX5_event_7 : decode cX5_event 7 = .ok (.iload_n 2, 1) := by decide +kernel
theorem dX5_event_8 : decode cX5_event 8 = .ok (.if_icmp .ge 18, 3) := by decide +kernel
theorem dX5_event_11 : decode cX5_event 11 = .ok (.aload_n 0, 1) := by decide +kernel
theorem dX5_event_12 : decode cX5_event 12 = .ok (.iload_n 3, 1) := by decide +kernel
theorem dX5_event_13 : decode cX5_event 13 = .ok (.invokevirtual 70, 3) := by decide +kernel
theorem dX5_event_16 : decode cX5_event 16 = .ok (.bipush 6, 2) := by decide +kernel
theorem dX5_event_18 : decode cX5_event 18 = .ok (.ishr, 1) := by decide +kernel
theorem dX5_event_19 : decode cX5_event 19 = .ok (.istore_n 3, 1) := by decide +kernel
theorem dX5_event_20 : decode cX5_event 20 = .ok (.iinc 4 1, 3) := by decide +kernel
theorem dX5_event_23 : decode cX5_event 23 = .ok (.goto (-18), 3) := by decide +kernel
theorem dX5_event_26 : decode cX5_event 26 = .ok (.aload_n 0, 1) := by decide +kernel
theorem dX5_event_27 : decode cX5_event 27 = .ok (.iload_n 3, 1) := by decide +kernel
theorem dX5_event_28 : decode cX5_event 28 = .ok (.invokevirtual 70, 3) := by decide +kernel
theorem dX5_event_31 : decode cX5_event 31 = .ok (.bipush 63, 2) := by decide +kernel
theorem dX5_event_33 : decode cX5_event 33 = .ok (.iand, 1) := by decide +kernel
theorem dX5_event_34 : decode cX5_event 34 = .ok (.ireturn, 1) := by decide +kernel
theorem dX5_rowAt_0 : decode cX5_rowAt 0 = .ok (.iload_n 1, 1) := by decide +kernel
theorem dX5_rowAt_1 : decode cX5_rowAt 1 = .ok (.ifCond .lt 21, 3) := by decide +kernel
theorem dX5_rowAt_4 : decode cX5_rowAt 4 = .ok (.iload_n 1, 1) := by decide +kernel
theorem dX5_rowAt_5 : decode cX5_rowAt 5 = .ok (.aload_n 0, 1) := by decide +kernel
theorem dX5_rowAt_6 : decode cX5_rowAt 6 = .ok (.getfield 11, 3) := by decide +kernel
theorem dX5_rowAt_9 : decode cX5_rowAt 9 = .ok (.arraylength, 1) := by decide +kernel
theorem dX5_rowAt_10 : decode cX5_rowAt 10 = .ok (.if_icmp .ge 12, 3) := by decide +kernel
theorem dX5_rowAt_13 : decode cX5_rowAt 13 = .ok (.aload_n 0, 1) := by decide +kernel
theorem dX5_rowAt_14 : decode cX5_rowAt 14 = .ok (.getfield 11, 3) := by decide +kernel
theorem dX5_rowAt_17 : decode cX5_rowAt 17 = .ok (.iload_n 1, 1) := by decide +kernel
theorem dX5_rowAt_18 : decode cX5_rowAt 18 = .ok (.iaload, 1) := by decide +kernel
theorem dX5_rowAt_19 : decode cX5_rowAt 19 = .ok (.goto 4, 3) := by decide +kernel
theorem dX5_rowAt_22 : decode cX5_rowAt 22 = .ok (.iconst 0, 1) := by decide +kernel
theorem dX5_rowAt_23 : decode cX5_rowAt 23 = .ok (.ireturn, 1) := by decide +kernel
theorem dX5_linkAt_0 : decode cX5_linkAt 0 = .ok (.iload_n 1, 1) := by decide +kernel
theorem dX5_linkAt_1 : decode cX5_linkAt 1 = .ok (.ifCond .lt 21, 3) := by decide +kernel
theorem dX5_linkAt_4 : decode cX5_linkAt 4 = .ok (.iload_n 1, 1) := by decide +kernel
theorem dX5_linkAt_5 : decode cX5_linkAt 5 = .ok (.aload_n 0, 1) := by decide +kernel
theorem dX5_linkAt_6 : decode cX5_linkAt 6 = .ok (.getfield 15, 3) := by decide +kernel
theorem dX5_linkAt_9 : decode cX5_linkAt 9 = .ok (.arraylength, 1) := by decide +kernel
theorem dX5_linkAt_10 : decode cX5_linkAt 10 = .ok (.if_icmp .ge 12, 3) := by decide +kernel
theorem dX5_linkAt_13 : decode cX5_linkAt 13 = .ok (.aload_n 0, 1) := by decide +kernel
theorem dX5_linkAt_14 : decode cX5_linkAt 14 = .ok (.getfield 15, 3) := by decide +kernel
theorem dX5_linkAt_17 : decode cX5_linkAt 17 = .ok (.iload_n 1, 1) := by decide +kernel
theorem dX5_linkAt_18 : decode cX5_linkAt 18 = .ok (.iaload, 1) := by decide +kernel
theorem dX5_linkAt_19 : decode cX5_linkAt 19 = .ok (.goto 4, 3) := by decide +kernel
theorem dX5_linkAt_22 : decode cX5_linkAt 22 = .ok (.iconst 0, 1) := by decide +kernel
theorem dX5_linkAt_23 : decode cX5_linkAt 23 = .ok (.ireturn, 1) := by decide +kernel
set_option maxRecDepth 20000 in
theorem ggX5_addRowsBehind_X5_rowAt : GoodIn wsX5_addRowsBehind wsX5_rowAt := goodIn_r _ [6, 7, 47, 48, 49, 50, 51, 52, 53] (by decide +kernel) (by decide +kernel)
set_option maxRecDepth 20000 in
theorem gX5_addRowsBehind_X5_rowAt : GoodIn wsX5_addRowsBehind (wsV RX5 55 RX5 yX5_rowAt wsX5_rowAt) := goodIn_app (goodIn_of _ (by decide +kernel)) ggX5_addRowsBehind_X5_rowAt
set_option maxRecDepth 20000 in
theorem ggX5_addRowsBehind_X7_places : GoodIn wsX5_addRowsBehind wsX7_places := goodIn_r _ [11] (by decide +kernel) (by decide +kernel)
set_option maxRecDepth 20000 in
theorem gX5_addRowsBehind_X7_places : GoodIn wsX5_addRowsBehind (va_wsS RX5 75 yX7_places wsX7_places) := goodIn_app (goodIn_of _ (by decide +kernel)) ggX5_addRowsBehind_X7_places
set_option maxRecDepth 20000 in
theorem ggX5_addRowsBehind_X6_behindEvent : GoodIn wsX5_addRowsBehind wsX6_behindEvent := goodIn_r _ [15, 16, 17, 14, 18, 19, 20, 21, 22, 23, 24, 25, 26, 27, 28, 29, 30, 31, 32, 33] (by decide +kernel) (by decide +kernel)
set_option maxRecDepth 20000 in
theorem gX5_addRowsBehind_X6_behindEvent : GoodIn wsX5_addRowsBehind (va_wsS RX5 79 yX6_behindEvent wsX6_behindEvent) := goodIn_app (goodIn_of _ (by decide +kernel)) ggX5_addRowsBehind_X6_behindEvent
set_option maxRecDepth 20000 in
theorem ggX5_addRowsBehind_X5_addRow : GoodIn wsX5_addRowsBehind wsX5_addRow := goodIn_r _ [37, 38, 7, 39, 40, 41, 42, 5, 43, 44, 45, 46, 47, 48, 49, 50, 51, 52, 53] (by decide +kernel) (by decide +kernel)
set_option maxRecDepth 20000 in
theorem gX5_addRowsBehind_X5_addRow : GoodIn wsX5_addRowsBehind (wsV RX5 47 RX5 yX5_addRow wsX5_addRow) := goodIn_app (goodIn_of _ (by decide +kernel)) ggX5_addRowsBehind_X5_addRow
theorem dX5_addRowsBehind_0 : decode cX5_addRowsBehind 0 = .ok (.aload_n 0, 1) := by decide +kernel
theorem dX5_addRowsBehind_1 : decode cX5_addRowsBehind 1 = .ok (.iload_n 1, 1) := by decide +kernel
theorem dX5_addRowsBehind_2 : decode cX5_addRowsBehind 2 = .ok (.invokevirtual 55, 3) := by decide +kernel
theorem dX5_addRowsBehind_5 : decode cX5_addRowsBehind 5 = .ok (.istore_n 2, 1) := by decide +kernel
theorem dX5_addRowsBehind_6 : decode cX5_addRowsBehind 6 = .ok (.iconst 0, 1) := by decide +kernel
theorem dX5_addRowsBehind_7 : decode cX5_addRowsBehind 7 = .ok (.istore_n 3, 1) := by decide +kernel
theorem dX5_addRowsBehind_8 : decode cX5_addRowsBehind 8 = .ok (.iload_n 3, 1) := by decide +kernel
theorem dX5_addRowsBehind_9 : decode cX5_addRowsBehind 9 = .ok (.iconst 4, 1) := by decide +kernel
theorem dX5_addRowsBehind_10 : decode cX5_addRowsBehind 10 = .ok (.if_icmp .ge 62, 3) := by decide +kernel
theorem dX5_addRowsBehind_13 : decode cX5_addRowsBehind 13 = .ok (.iload_n 3, 1) := by decide +kernel
theorem dX5_addRowsBehind_14 : decode cX5_addRowsBehind 14 = .ok (.aload_n 0, 1) := by decide +kernel
theorem dX5_addRowsBehind_15 : decode cX5_addRowsBehind 15 = .ok (.getfield 22, 3) := by decide +kernel
theorem dX5_addRowsBehind_18 : decode cX5_addRowsBehind 18 = .ok (.invokestatic 75, 3) := by decide +kernel
theorem dX5_addRowsBehind_21 : decode cX5_addRowsBehind 21 = .ok (.istore 4, 2) := by decide +kernel
theorem dX5_addRowsBehind_23 : decode cX5_addRowsBehind 23 = .ok (.iconst 0, 1) := by decide +kernel
theorem dX5_addRowsBehind_24 : decode cX5_addRowsBehind 24 = .ok (.istore 5, 2) := by decide +kernel
theorem dX5_addRowsBehind_26 : decode cX5_addRowsBehind 26 = .ok (.iload 5, 2) := by decide +kernel
theorem dX5_addRowsBehind_28 : decode cX5_addRowsBehind 28 = .ok (.iload 4, 2) := by decide +kernel
theorem dX5_addRowsBehind_30 : decode cX5_addRowsBehind 30 = .ok (.if_icmp .ge 36, 3) := by decide +kernel
theorem dX5_addRowsBehind_33 : decode cX5_addRowsBehind 33 = .ok (.aload_n 0, 1) := by decide +kernel
theorem dX5_addRowsBehind_34 : decode cX5_addRowsBehind 34 = .ok (.iload_n 2, 1) := by decide +kernel
theorem dX5_addRowsBehind_35 : decode cX5_addRowsBehind 35 = .ok (.aload_n 0, 1) := by decide +kernel
theorem dX5_addRowsBehind_36 : decode cX5_addRowsBehind 36 = .ok (.getfield 22, 3) := by decide +kernel
theorem dX5_addRowsBehind_39 : decode cX5_addRowsBehind 39 = .ok (.iload_n 3, 1) := by decide +kernel
theorem dX5_addRowsBehind_40 : decode cX5_addRowsBehind 40 = .ok (.iload 5, 2) := by decide +kernel
theorem dX5_addRowsBehind_42 : decode cX5_addRowsBehind 42 = .ok (.invokestatic 79, 3) := by decide +kernel
theorem dX5_addRowsBehind_45 : decode cX5_addRowsBehind 45 = .ok (.iload_n 1, 1) := by decide +kernel
theorem dX5_addRowsBehind_46 : decode cX5_addRowsBehind 46 = .ok (.bipush 6, 2) := by decide +kernel
theorem dX5_addRowsBehind_48 : decode cX5_addRowsBehind 48 = .ok (.ishl, 1) := by decide +kernel
theorem dX5_addRowsBehind_49 : decode cX5_addRowsBehind 49 = .ok (.bipush 10, 2) := by decide +kernel
theorem dX5_addRowsBehind_51 : decode cX5_addRowsBehind 51 = .ok (.iload_n 3, 1) := by decide +kernel
theorem dX5_addRowsBehind_52 : decode cX5_addRowsBehind 52 = .ok (.imul, 1) := by decide +kernel
theorem dX5_addRowsBehind_53 : decode cX5_addRowsBehind 53 = .ok (.iload 5, 2) := by decide +kernel
theorem dX5_addRowsBehind_55 : decode cX5_addRowsBehind 55 = .ok (.iadd, 1) := by decide +kernel
theorem dX5_addRowsBehind_56 : decode cX5_addRowsBehind 56 = .ok (.ior, 1) := by decide +kernel
theorem dX5_addRowsBehind_57 : decode cX5_addRowsBehind 57 = .ok (.invokevirtual 47, 3) := by decide +kernel
theorem dX5_addRowsBehind_60 : decode cX5_addRowsBehind 60 = .ok (.iinc 5 1, 3) := by decide +kernel
theorem dX5_addRowsBehind_63 : decode cX5_addRowsBehind 63 = .ok (.goto (-37), 3) := by decide +kernel
theorem dX5_addRowsBehind_66 : decode cX5_addRowsBehind 66 = .ok (.iinc 3 1, 3) := by decide +kernel
theorem dX5_addRowsBehind_69 : decode cX5_addRowsBehind 69 = .ok (.goto (-61), 3) := by decide +kernel
theorem dX5_addRowsBehind_72 : decode cX5_addRowsBehind 72 = .ok (.return_, 1) := by decide +kernel
set_option maxRecDepth 20000 in
theorem ggX5_addRow_X5_raise : GoodIn wsX5_addRow wsX5_raise := goodIn_r _ [8, 9, 10, 11, 12, 13, 14, 15, 16, 17, 18] (by decide +kernel) (by decide +kernel)
set_option maxRecDepth 20000 in
theorem gX5_addRow_X5_raise : GoodIn wsX5_addRow (wsV RX5 83 RX5 yX5_raise wsX5_raise) := goodIn_app (goodIn_of _ (by decide +kernel)) ggX5_addRow_X5_raise
theorem dX5_addRow_0 : decode cX5_addRow 0 = .ok (.aload_n 0, 1) := by decide +kernel
theorem dX5_addRow_1 : decode cX5_addRow 1 = .ok (.getfield 18, 3) := by decide +kernel
theorem dX5_addRow_4 : decode cX5_addRow 4 = .ok (.ifCond .lt 66, 3) := by decide +kernel
theorem dX5_addRow_7 : decode cX5_addRow 7 = .ok (.aload_n 0, 1) := by decide +kernel
theorem dX5_addRow_8 : decode cX5_addRow 8 = .ok (.getfield 18, 3) := by decide +kernel
theorem dX5_addRow_11 : decode cX5_addRow 11 = .ok (.aload_n 0, 1) := by decide +kernel
theorem dX5_addRow_12 : decode cX5_addRow 12 = .ok (.getfield 11, 3) := by decide +kernel
theorem dX5_addRow_15 : decode cX5_addRow 15 = .ok (.arraylength, 1) := by decide +kernel
theorem dX5_addRow_16 : decode cX5_addRow 16 = .ok (.if_icmp .ge 54, 3) := by decide +kernel
theorem dX5_addRow_19 : decode cX5_addRow 19 = .ok (.aload_n 0, 1) := by decide +kernel
theorem dX5_addRow_20 : decode cX5_addRow 20 = .ok (.getfield 18, 3) := by decide +kernel
theorem dX5_addRow_23 : decode cX5_addRow 23 = .ok (.aload_n 0, 1) := by decide +kernel
theorem dX5_addRow_24 : decode cX5_addRow 24 = .ok (.getfield 15, 3) := by decide +kernel
theorem dX5_addRow_27 : decode cX5_addRow 27 = .ok (.arraylength, 1) := by decide +kernel
theorem dX5_addRow_28 : decode cX5_addRow 28 = .ok (.if_icmp .ge 42, 3) := by decide +kernel
theorem dX5_addRow_31 : decode cX5_addRow 31 = .ok (.aload_n 0, 1) := by decide +kernel
theorem dX5_addRow_32 : decode cX5_addRow 32 = .ok (.iload_n 1, 1) := by decide +kernel
theorem dX5_addRow_33 : decode cX5_addRow 33 = .ok (.iconst 1, 1) := by decide +kernel
theorem dX5_addRow_34 : decode cX5_addRow 34 = .ok (.invokevirtual 83, 3) := by decide +kernel
theorem dX5_addRow_37 : decode cX5_addRow 37 = .ok (.ifCond .eq 33, 3) := by decide +kernel
theorem dX5_addRow_40 : decode cX5_addRow 40 = .ok (.aload_n 0, 1) := by decide +kernel
theorem dX5_addRow_41 : decode cX5_addRow 41 = .ok (.getfield 11, 3) := by decide +kernel
theorem dX5_addRow_44 : decode cX5_addRow 44 = .ok (.aload_n 0, 1) := by decide +kernel
theorem dX5_addRow_45 : decode cX5_addRow 45 = .ok (.getfield 18, 3) := by decide +kernel
theorem dX5_addRow_48 : decode cX5_addRow 48 = .ok (.iload_n 1, 1) := by decide +kernel
theorem dX5_addRow_49 : decode cX5_addRow 49 = .ok (.iastore, 1) := by decide +kernel
theorem dX5_addRow_50 : decode cX5_addRow 50 = .ok (.aload_n 0, 1) := by decide +kernel
theorem dX5_addRow_51 : decode cX5_addRow 51 = .ok (.getfield 15, 3) := by decide +kernel
theorem dX5_addRow_54 : decode cX5_addRow 54 = .ok (.aload_n 0, 1) := by decide +kernel
theorem dX5_addRow_55 : decode cX5_addRow 55 = .ok (.getfield 18, 3) := by decide +kernel
theorem dX5_addRow_58 : decode cX5_addRow 58 = .ok (.iload_n 2, 1) := by decide +kernel
theorem dX5_addRow_59 : decode cX5_addRow 59 = .ok (.iastore, 1) := by decide +kernel
theorem dX5_addRow_60 : decode cX5_addRow 60 = .ok (.aload_n 0, 1) := by decide +kernel
theorem dX5_addRow_61 : decode cX5_addRow 61 = .ok (.dup, 1) := by decide +kernel
theorem dX5_addRow_62 : decode cX5_addRow 62 = .ok (.getfield 18, 3) := by decide +kernel
theorem dX5_addRow_65 : decode cX5_addRow 65 = .ok (.iconst 1, 1) := by decide +kernel
theorem dX5_addRow_66 : decode cX5_addRow 66 = .ok (.iadd, 1) := by decide +kernel
theorem dX5_addRow_67 : decode cX5_addRow 67 = .ok (.putfield 18, 3) := by decide +kernel
theorem dX5_addRow_70 : decode cX5_addRow 70 = .ok (.return_, 1) := by decide +kernel
theorem dX5_raise_0 : decode cX5_raise 0 = .ok (.iload_n 1, 1) := by decide +kernel
theorem dX5_raise_1 : decode cX5_raise 1 = .ok (.ldc 87, 2) := by decide +kernel
theorem dX5_raise_3 : decode cX5_raise 3 = .ok (.iand, 1) := by decide +kernel
theorem dX5_raise_4 : decode cX5_raise 4 = .ok (.istore_n 3, 1) := by decide +kernel
theorem dX5_raise_5 : decode cX5_raise 5 = .ok (.iload_n 3, 1) := by decide +kernel
theorem dX5_raise_6 : decode cX5_raise 6 = .ok (.bipush 16, 2) := by decide +kernel
theorem dX5_raise_8 : decode cX5_raise 8 = .ok (.idiv, 1) := by decide +kernel
theorem dX5_raise_9 : decode cX5_raise 9 = .ok (.istore 4, 2) := by decide +kernel
theorem dX5_raise_11 : decode cX5_raise 11 = .ok (.iload_n 3, 1) := by decide +kernel
theorem dX5_raise_12 : decode cX5_raise 12 = .ok (.bipush 16, 2) := by decide +kernel
theorem dX5_raise_14 : decode cX5_raise 14 = .ok (.irem, 1) := by decide +kernel
theorem dX5_raise_15 : decode cX5_raise 15 = .ok (.iconst 4, 1) := by decide +kernel
theorem dX5_raise_16 : decode cX5_raise 16 = .ok (.imul, 1) := by decide +kernel
theorem dX5_raise_17 : decode cX5_raise 17 = .ok (.istore 5, 2) := by decide +kernel
theorem dX5_raise_19 : decode cX5_raise 19 = .ok (.iload 4, 2) := by decide +kernel
theorem dX5_raise_21 : decode cX5_raise 21 = .ok (.ifCond .lt 13, 3) := by decide +kernel
theorem dX5_raise_24 : decode cX5_raise 24 = .ok (.iload 4, 2) := by decide +kernel
theorem dX5_raise_26 : decode cX5_raise 26 = .ok (.aload_n 0, 1) := by decide +kernel
theorem dX5_raise_27 : decode cX5_raise 27 = .ok (.getfield 25, 3) := by decide +kernel
theorem dX5_raise_30 : decode cX5_raise 30 = .ok (.arraylength, 1) := by decide +kernel
theorem dX5_raise_31 : decode cX5_raise 31 = .ok (.if_icmp .lt 5, 3) := by decide +kernel
theorem dX5_raise_34 : decode cX5_raise 34 = .ok (.iconst 0, 1) := by decide +kernel
theorem dX5_raise_35 : decode cX5_raise 35 = .ok (.ireturn, 1) := by decide +kernel
theorem dX5_raise_36 : decode cX5_raise 36 = .ok (.aload_n 0, 1) := by decide +kernel
theorem dX5_raise_37 : decode cX5_raise 37 = .ok (.getfield 25, 3) := by decide +kernel
theorem dX5_raise_40 : decode cX5_raise 40 = .ok (.iload 4, 2) := by decide +kernel
theorem dX5_raise_42 : decode cX5_raise 42 = .ok (.laload, 1) := by decide +kernel
theorem dX5_raise_43 : decode cX5_raise 43 = .ok (.iload 5, 2) := by decide +kernel
theorem dX5_raise_45 : decode cX5_raise 45 = .ok (.lshr, 1) := by decide +kernel
theorem dX5_raise_46 : decode cX5_raise 46 = .ok (.ldc2_w 88, 3) := by decide +kernel
theorem dX5_raise_49 : decode cX5_raise 49 = .ok (.land, 1) := by decide +kernel
theorem dX5_raise_50 : decode cX5_raise 50 = .ok (.lstore 6, 2) := by decide +kernel
theorem dX5_raise_52 : decode cX5_raise 52 = .ok (.lload 6, 2) := by decide +kernel
theorem dX5_raise_54 : decode cX5_raise 54 = .ok (.iload_n 2, 1) := by decide +kernel
theorem dX5_raise_55 : decode cX5_raise 55 = .ok (.i2l, 1) := by decide +kernel
theorem dX5_raise_56 : decode cX5_raise 56 = .ok (.lcmp, 1) := by decide +kernel
theorem dX5_raise_57 : decode cX5_raise 57 = .ok (.ifCond .lt 5, 3) := by decide +kernel
theorem dX5_raise_60 : decode cX5_raise 60 = .ok (.iconst 0, 1) := by decide +kernel
theorem dX5_raise_61 : decode cX5_raise 61 = .ok (.ireturn, 1) := by decide +kernel
theorem dX5_raise_62 : decode cX5_raise 62 = .ok (.aload_n 0, 1) := by decide +kernel
theorem dX5_raise_63 : decode cX5_raise 63 = .ok (.getfield 25, 3) := by decide +kernel
theorem dX5_raise_66 : decode cX5_raise 66 = .ok (.iload 4, 2) := by decide +kernel
theorem dX5_raise_68 : decode cX5_raise 68 = .ok (.dup2, 1) := by decide +kernel
theorem dX5_raise_69 : decode cX5_raise 69 = .ok (.laload, 1) := by decide +kernel
theorem dX5_raise_70 : decode cX5_raise 70 = .ok (.iload_n 2, 1) := by decide +kernel
theorem dX5_raise_71 : decode cX5_raise 71 = .ok (.i2l, 1) := by decide +kernel
theorem dX5_raise_72 : decode cX5_raise 72 = .ok (.lload 6, 2) := by decide +kernel
theorem dX5_raise_74 : decode cX5_raise 74 = .ok (.lsub, 1) := by decide +kernel
theorem dX5_raise_75 : decode cX5_raise 75 = .ok (.iload 5, 2) := by decide +kernel
theorem dX5_raise_77 : decode cX5_raise 77 = .ok (.lshl, 1) := by decide +kernel
theorem dX5_raise_78 : decode cX5_raise 78 = .ok (.ladd, 1) := by decide +kernel
theorem dX5_raise_79 : decode cX5_raise 79 = .ok (.lastore, 1) := by decide +kernel
theorem dX5_raise_80 : decode cX5_raise 80 = .ok (.iconst 1, 1) := by decide +kernel
theorem dX5_raise_81 : decode cX5_raise 81 = .ok (.ireturn, 1) := by decide +kernel
set_option maxRecDepth 20000 in
theorem ggX5_fewestInTurn_X5_eachCanBe : GoodIn wsX5_fewestInTurn wsX5_eachCanBe := goodIn_r _ [9, 10, 11, 12, 13, 14, 15, 16, 8, 17, 18, 3, 19, 20, 21, 22, 23, 24, 25, 26, 27, 28, 29, 30, 31, 32, 33, 34, 35, 36, 37, 38, 39, 40, 41, 42, 43, 44, 45, 46, 47, 48, 49, 50, 51, 52, 53, 54, 55, 56, 57, 58, 59, 60, 61, 62, 63, 64, 65, 66, 67, 68, 69, 70, 71, 121, 122, 123, 124, 125, 126, 127] (by decide +kernel) (by decide +kernel)
set_option maxRecDepth 20000 in
theorem gX5_fewestInTurn_X5_eachCanBe : GoodIn wsX5_fewestInTurn (wsV RX5 90 RX5 yX5_eachCanBe wsX5_eachCanBe) := goodIn_app (goodIn_of _ (by decide +kernel)) ggX5_fewestInTurn_X5_eachCanBe
set_option maxRecDepth 20000 in
theorem ggX5_fewestInTurn_J7_fill_d0a16 : GoodIn wsX5_fewestInTurn wsJ7_fill_d0a16 := goodIn_r _ [75] (by decide +kernel) (by decide +kernel)
set_option maxRecDepth 20000 in
theorem gX5_fewestInTurn_J7_fill_d0a16 : GoodIn wsX5_fewestInTurn (va_wsS RX5 35 yJ7_fill_d0a16 wsJ7_fill_d0a16) := goodIn_app (goodIn_of _ (by decide +kernel)) ggX5_fewestInTurn_J7_fill_d0a16
set_option maxRecDepth 20000 in
theorem ggX5_fewestInTurn_X6_first : GoodIn wsX5_fewestInTurn wsX6_first := goodIn_r _ [78] (by decide +kernel) (by decide +kernel)
set_option maxRecDepth 20000 in
theorem gX5_fewestInTurn_X6_first : GoodIn wsX5_fewestInTurn (va_wsS RX5 41 yX6_first wsX6_first) := goodIn_app (goodIn_of _ (by decide +kernel)) ggX5_fewestInTurn_X6_first
set_option maxRecDepth 20000 in
theorem ggX5_fewestInTurn_X5_stageAt : GoodIn wsX5_fewestInTurn wsX5_stageAt := goodIn_r _ [82, 3, 24, 25, 26, 27, 28, 29, 30, 31, 32, 33, 34, 35, 10, 11, 12, 13, 36, 37, 38, 39, 40, 41, 42, 43, 44, 45, 46, 47, 48, 49, 50, 51, 52, 53, 54, 55, 56, 57, 58, 59, 60, 61, 62, 63, 64, 65, 66, 67, 68, 69, 70, 71, 121, 122, 123, 124, 125, 126, 127] (by decide +kernel) (by decide +kernel)
set_option maxRecDepth 20000 in
theorem gX5_fewestInTurn_X5_stageAt : GoodIn wsX5_fewestInTurn (wsV RX5 94 RX5 yX5_stageAt wsX5_stageAt) := goodIn_app (goodIn_of _ (by decide +kernel)) ggX5_fewestInTurn_X5_stageAt
set_option maxRecDepth 20000 in
theorem ggX5_fewestInTurn_X5_raise : GoodIn wsX5_fewestInTurn wsX5_raise := goodIn_r _ [86, 87, 1, 88, 121, 122, 123, 124, 125, 126, 127] (by decide +kernel) (by decide +kernel)
set_option maxRecDepth 20000 in
theorem gX5_fewestInTurn_X5_raise : GoodIn wsX5_fewestInTurn (wsV RX5 83 RX5 yX5_raise wsX5_raise) := goodIn_app (goodIn_of _ (by decide +kernel)) ggX5_fewestInTurn_X5_raise
set_option maxRecDepth 20000 in
theorem ggX5_fewestInTurn_X5_enqueue : GoodIn wsX5_fewestInTurn wsX5_enqueue := goodIn_r _ [92, 2, 4, 121, 122, 123, 124, 125, 126, 127] (by decide +kernel) (by decide +kernel)
set_option maxRecDepth 20000 in
theorem gX5_fewestInTurn_X5_enqueue : GoodIn wsX5_fewestInTurn (wsV RX5 98 RX5 yX5_enqueue wsX5_enqueue) := goodIn_app (goodIn_of _ (by decide +kernel)) ggX5_fewestInTurn_X5_enqueue
set_option maxRecDepth 20000 in
theorem ggX5_fewestInTurn_X5_lookBehind : GoodIn wsX5_fewestInTurn wsX5_lookBehind := goodIn_r _ [96, 97, 3, 98, 99, 100, 101, 102, 103, 30, 104, 105, 106, 107, 108, 29, 31, 109, 110, 111, 112, 113, 114, 115, 116, 117, 118, 119, 120, 83, 84, 85, 8, 86, 87, 1, 88, 79, 80, 81, 82, 24, 25, 26, 27, 28, 32, 33, 34, 35, 10, 11, 12, 13, 36, 37, 38, 39, 40, 41, 42, 43, 44, 45, 46, 47, 48, 49, 50, 51, 52, 53, 54, 55, 56, 57, 58, 59, 60, 61, 62, 63, 64, 65, 66, 67, 68, 69, 70, 71, 89, 90, 91, 92, 2, 4, 121, 122, 123, 124, 125, 126, 127] (by decide +kernel) (by decide +kernel)
set_option maxRecDepth 20000 in
theorem gX5_fewestInTurn_X5_lookBehind : GoodIn wsX5_fewestInTurn (wsV RX5 102 RX5 yX5_lookBehind wsX5_lookBehind) := goodIn_app (goodIn_of _ (by decide +kernel)) ggX5_fewestInTurn_X5_lookBehind
theorem dX5_fewestInTurn_0 : decode cX5_fewestInTurn 0 = .ok (.aload_n 0, 1) := by decide +kernel
theorem dX5_fewestInTurn_1 : decode cX5_fewestInTurn 1 = .ok (.iload_n 1, 1) := by decide +kernel
theorem dX5_fewestInTurn_2 : decode cX5_fewestInTurn 2 = .ok (.iload_n 2, 1) := by decide +kernel
theorem dX5_fewestInTurn_3 : decode cX5_fewestInTurn 3 = .ok (.lload_n 3, 1) := by decide +kernel
theorem dX5_fewestInTurn_4 : decode cX5_fewestInTurn 4 = .ok (.invokevirtual 90, 3) := by decide +kernel
theorem dX5_fewestInTurn_7 : decode cX5_fewestInTurn 7 = .ok (.ifCond .ne 6, 3) := by decide +kernel
theorem dX5_fewestInTurn_10 : decode cX5_fewestInTurn 10 = .ok (.bipush (-6), 2) := by decide +kernel
theorem dX5_fewestInTurn_12 : decode cX5_fewestInTurn 12 = .ok (.ireturn, 1) := by decide +kernel
theorem dX5_fewestInTurn_13 : decode cX5_fewestInTurn 13 = .ok (.aload_n 0, 1) := by decide +kernel
theorem dX5_fewestInTurn_14 : decode cX5_fewestInTurn 14 = .ok (.getfield 25, 3) := by decide +kernel
theorem dX5_fewestInTurn_17 : decode cX5_fewestInTurn 17 = .ok (.lconst 0, 1) := by decide +kernel
theorem dX5_fewestInTurn_18 : decode cX5_fewestInTurn 18 = .ok (.invokestatic 35, 3) := by decide +kernel
theorem dX5_fewestInTurn_21 : decode cX5_fewestInTurn 21 = .ok (.aload_n 0, 1) := by decide +kernel
theorem dX5_fewestInTurn_22 : decode cX5_fewestInTurn 22 = .ok (.iconst 0, 1) := by decide +kernel
theorem dX5_fewestInTurn_23 : decode cX5_fewestInTurn 23 = .ok (.putfield 32, 3) := by decide +kernel
theorem dX5_fewestInTurn_26 : decode cX5_fewestInTurn 26 = .ok (.aload_n 0, 1) := by decide +kernel
theorem dX5_fewestInTurn_27 : decode cX5_fewestInTurn 27 = .ok (.getfield 22, 3) := by decide +kernel
theorem dX5_fewestInTurn_30 : decode cX5_fewestInTurn 30 = .ok (.invokestatic 41, 3) := by decide +kernel
theorem dX5_fewestInTurn_33 : decode cX5_fewestInTurn 33 = .ok (.istore 5, 2) := by decide +kernel
theorem dX5_fewestInTurn_35 : decode cX5_fewestInTurn 35 = .ok (.aload_n 0, 1) := by decide +kernel
theorem dX5_fewestInTurn_36 : decode cX5_fewestInTurn 36 = .ok (.iload 5, 2) := by decide +kernel
theorem dX5_fewestInTurn_38 : decode cX5_fewestInTurn 38 = .ok (.iconst 0, 1) := by decide +kernel
theorem dX5_fewestInTurn_39 : decode cX5_fewestInTurn 39 = .ok (.iload_n 1, 1) := by decide +kernel
theorem dX5_fewestInTurn_40 : decode cX5_fewestInTurn 40 = .ok (.iload_n 2, 1) := by decide +kernel
theorem dX5_fewestInTurn_41 : decode cX5_fewestInTurn 41 = .ok (.lload_n 3, 1) := by decide +kernel
theorem dX5_fewestInTurn_42 : decode cX5_fewestInTurn 42 = .ok (.invokevirtual 94, 3) := by decide +kernel
theorem dX5_fewestInTurn_45 : decode cX5_fewestInTurn 45 = .ok (.istore 6, 2) := by decide +kernel
theorem dX5_fewestInTurn_47 : decode cX5_fewestInTurn 47 = .ok (.iload 6, 2) := by decide +kernel
theorem dX5_fewestInTurn_49 : decode cX5_fewestInTurn 49 = .ok (.iload_n 2, 1) := by decide +kernel
theorem dX5_fewestInTurn_50 : decode cX5_fewestInTurn 50 = .ok (.if_icmp .lt 5, 3) := by decide +kernel
theorem dX5_fewestInTurn_53 : decode cX5_fewestInTurn 53 = .ok (.iconst 0, 1) := by decide +kernel
theorem dX5_fewestInTurn_54 : decode cX5_fewestInTurn 54 = .ok (.ireturn, 1) := by decide +kernel
theorem dX5_fewestInTurn_55 : decode cX5_fewestInTurn 55 = .ok (.aload_n 0, 1) := by decide +kernel
theorem dX5_fewestInTurn_56 : decode cX5_fewestInTurn 56 = .ok (.iload 5, 2) := by decide +kernel
theorem dX5_fewestInTurn_58 : decode cX5_fewestInTurn 58 = .ok (.iload 6, 2) := by decide +kernel
theorem dX5_fewestInTurn_60 : decode cX5_fewestInTurn 60 = .ok (.iconst 1, 1) := by decide +kernel
theorem dX5_fewestInTurn_61 : decode cX5_fewestInTurn 61 = .ok (.iadd, 1) := by decide +kernel
theorem dX5_fewestInTurn_62 : decode cX5_fewestInTurn 62 = .ok (.invokevirtual 83, 3) := by decide +kernel
theorem dX5_fewestInTurn_65 : decode cX5_fewestInTurn 65 = .ok (.pop, 1) := by decide +kernel
theorem dX5_fewestInTurn_66 : decode cX5_fewestInTurn 66 = .ok (.aload_n 0, 1) := by decide +kernel
theorem dX5_fewestInTurn_67 : decode cX5_fewestInTurn 67 = .ok (.iload 5, 2) := by decide +kernel
theorem dX5_fewestInTurn_69 : decode cX5_fewestInTurn 69 = .ok (.iload 6, 2) := by decide +kernel
theorem dX5_fewestInTurn_71 : decode cX5_fewestInTurn 71 = .ok (.iconst 0, 1) := by decide +kernel
theorem dX5_fewestInTurn_72 : decode cX5_fewestInTurn 72 = .ok (.invokevirtual 98, 3) := by decide +kernel
theorem dX5_fewestInTurn_75 : decode cX5_fewestInTurn 75 = .ok (.iconst 0, 1) := by decide +kernel
theorem dX5_fewestInTurn_76 : decode cX5_fewestInTurn 76 = .ok (.istore 7, 2) := by decide +kernel
theorem dX5_fewestInTurn_78 : decode cX5_fewestInTurn 78 = .ok (.iload 7, 2) := by decide +kernel
theorem dX5_fewestInTurn_80 : decode cX5_fewestInTurn 80 = .ok (.aload_n 0, 1) := by decide +kernel
theorem dX5_fewestInTurn_81 : decode cX5_fewestInTurn 81 = .ok (.getfield 32, 3) := by decide +kernel
theorem dX5_fewestInTurn_84 : decode cX5_fewestInTurn 84 = .ok (.if_icmp .ge 43, 3) := by decide +kernel
theorem dX5_fewestInTurn_87 : decode cX5_fewestInTurn 87 = .ok (.iload 7, 2) := by decide +kernel
theorem dX5_fewestInTurn_89 : decode cX5_fewestInTurn 89 = .ok (.aload_n 0, 1) := by decide +kernel
theorem dX5_fewestInTurn_90 : decode cX5_fewestInTurn 90 = .ok (.getfield 29, 3) := by decide +kernel
theorem dX5_fewestInTurn_93 : decode cX5_fewestInTurn 93 = .ok (.arraylength, 1) := by decide +kernel
theorem dX5_fewestInTurn_94 : decode cX5_fewestInTurn 94 = .ok (.if_icmp .ge 33, 3) := by decide +kernel
theorem dX5_fewestInTurn_97 : decode cX5_fewestInTurn 97 = .ok (.aload_n 0, 1) := by decide +kernel
theorem dX5_fewestInTurn_98 : decode cX5_fewestInTurn 98 = .ok (.aload_n 0, 1) := by decide +kernel
theorem dX5_fewestInTurn_99 : decode cX5_fewestInTurn 99 = .ok (.getfield 29, 3) := by decide +kernel
theorem dX5_fewestInTurn_102 : decode cX5_fewestInTurn 102 = .ok (.iload 7, 2) := by decide +kernel
theorem dX5_fewestInTurn_104 : decode cX5_fewestInTurn 104 = .ok (.iaload, 1) := by decide +kernel
theorem dX5_fewestInTurn_105 : decode cX5_fewestInTurn 105 = .ok (.iload_n 1, 1) := by decide +kernel
theorem dX5_fewestInTurn_106 : decode cX5_fewestInTurn 106 = .ok (.iload_n 2, 1) := by decide +kernel
theorem dX5_fewestInTurn_107 : decode cX5_fewestInTurn 107 = .ok (.lload_n 3, 1) := by decide +kernel
theorem dX5_fewestInTurn_108 : decode cX5_fewestInTurn 108 = .ok (.invokevirtual 102, 3) := by decide +kernel
theorem dX5_fewestInTurn_111 : decode cX5_fewestInTurn 111 = .ok (.istore 8, 2) := by decide +kernel
theorem dX5_fewestInTurn_113 : decode cX5_fewestInTurn 113 = .ok (.iload 8, 2) := by decide +kernel
theorem dX5_fewestInTurn_115 : decode cX5_fewestInTurn 115 = .ok (.ifCond .lt 6, 3) := by decide +kernel
theorem dX5_fewestInTurn_118 : decode cX5_fewestInTurn 118 = .ok (.iload 8, 2) := by decide +kernel
theorem dX5_fewestInTurn_120 : decode cX5_fewestInTurn 120 = .ok (.ireturn, 1) := by decide +kernel
theorem dX5_fewestInTurn_121 : decode cX5_fewestInTurn 121 = .ok (.iinc 7 1, 3) := by decide +kernel
theorem dX5_fewestInTurn_124 : decode cX5_fewestInTurn 124 = .ok (.goto (-46), 3) := by decide +kernel
theorem dX5_fewestInTurn_127 : decode cX5_fewestInTurn 127 = .ok (.bipush (-6), 2) := by decide +kernel
theorem dX5_fewestInTurn_129 : decode cX5_fewestInTurn 129 = .ok (.ireturn, 1) := by decide +kernel
set_option maxRecDepth 20000 in
theorem ggX5_eachCanBe_X0_digit : GoodIn wsX5_eachCanBe wsX0_digit := goodIn_r _ [4] (by decide +kernel) (by decide +kernel)
set_option maxRecDepth 20000 in
theorem gX5_eachCanBe_X0_digit : GoodIn wsX5_eachCanBe (va_wsS RX5 106 yX0_digit wsX0_digit) := goodIn_app (goodIn_of _ (by decide +kernel)) ggX5_eachCanBe_X0_digit
set_option maxRecDepth 20000 in
theorem ggX5_eachCanBe_X5_firstTaught : GoodIn wsX5_eachCanBe wsX5_firstTaught := goodIn_r _ [9, 10, 11, 12, 13, 14, 8, 15, 16, 17, 18, 19, 20, 21, 22, 23, 24, 25, 26, 27, 28, 29, 30, 31, 32, 33, 34, 35, 36, 37, 38, 39, 40, 41, 42, 43, 44, 45, 46, 47, 48, 3, 49, 50, 51, 52, 53, 54, 55, 56, 57, 58, 59, 60, 61, 62, 63, 64, 65, 66, 67, 68, 69, 70, 71] (by decide +kernel) (by decide +kernel)
set_option maxRecDepth 20000 in
theorem gX5_eachCanBe_X5_firstTaught : GoodIn wsX5_eachCanBe (wsV RX5 112 RX5 yX5_firstTaught wsX5_firstTaught) := goodIn_app (goodIn_of _ (by decide +kernel)) ggX5_eachCanBe_X5_firstTaught
theorem dX5_eachCanBe_0 : decode cX5_eachCanBe 0 = .ok (.iconst 0, 1) := by decide +kernel
theorem dX5_eachCanBe_1 : decode cX5_eachCanBe 1 = .ok (.istore 5, 2) := by decide +kernel
theorem dX5_eachCanBe_3 : decode cX5_eachCanBe 3 = .ok (.iload 5, 2) := by decide +kernel
theorem dX5_eachCanBe_5 : decode cX5_eachCanBe 5 = .ok (.iload_n 2, 1) := by decide +kernel
theorem dX5_eachCanBe_6 : decode cX5_eachCanBe 6 = .ok (.if_icmp .ge 27, 3) := by decide +kernel
theorem dX5_eachCanBe_9 : decode cX5_eachCanBe 9 = .ok (.aload_n 0, 1) := by decide +kernel
theorem dX5_eachCanBe_10 : decode cX5_eachCanBe 10 = .ok (.iload_n 1, 1) := by decide +kernel
theorem dX5_eachCanBe_11 : decode cX5_eachCanBe 11 = .ok (.bipush 10, 2) := by decide +kernel
theorem dX5_eachCanBe_13 : decode cX5_eachCanBe 13 = .ok (.iload 5, 2) := by decide +kernel
theorem dX5_eachCanBe_15 : decode cX5_eachCanBe 15 = .ok (.invokestatic 106, 3) := by decide +kernel
theorem dX5_eachCanBe_18 : decode cX5_eachCanBe 18 = .ok (.lload_n 3, 1) := by decide +kernel
theorem dX5_eachCanBe_19 : decode cX5_eachCanBe 19 = .ok (.invokevirtual 112, 3) := by decide +kernel
theorem dX5_eachCanBe_22 : decode cX5_eachCanBe 22 = .ok (.ifCond .ge 5, 3) := by decide +kernel
theorem dX5_eachCanBe_25 : decode cX5_eachCanBe 25 = .ok (.iconst 0, 1) := by decide +kernel
theorem dX5_eachCanBe_26 : decode cX5_eachCanBe 26 = .ok (.ireturn, 1) := by decide +kernel
theorem dX5_eachCanBe_27 : decode cX5_eachCanBe 27 = .ok (.iinc 5 1, 3) := by decide +kernel
theorem dX5_eachCanBe_30 : decode cX5_eachCanBe 30 = .ok (.goto (-27), 3) := by decide +kernel
theorem dX5_eachCanBe_33 : decode cX5_eachCanBe 33 = .ok (.iconst 1, 1) := by decide +kernel
theorem dX5_eachCanBe_34 : decode cX5_eachCanBe 34 = .ok (.ireturn, 1) := by decide +kernel
set_option maxRecDepth 20000 in
theorem ggX5_stageAt_X3_inOrder : GoodIn wsX5_stageAt wsX3_inOrder := goodIn_r _ [5, 6, 7, 8, 9, 10, 11, 4, 12, 13] (by decide +kernel) (by decide +kernel)
set_option maxRecDepth 20000 in
theorem gX5_stageAt_X3_inOrder : GoodIn wsX5_stageAt (va_wsS RX5 58 yX3_inOrder wsX3_inOrder) := goodIn_app (goodIn_of _ (by decide +kernel)) ggX5_stageAt_X3_inOrder
set_option maxRecDepth 20000 in
theorem ggX5_stageAt_X0_digit : GoodIn wsX5_stageAt wsX0_digit := goodIn_r _ [17] (by decide +kernel) (by decide +kernel)
set_option maxRecDepth 20000 in
theorem gX5_stageAt_X0_digit : GoodIn wsX5_stageAt (va_wsS RX5 106 yX0_digit wsX0_digit) := goodIn_app (goodIn_of _ (by decide +kernel)) ggX5_stageAt_X0_digit
set_option maxRecDepth 20000 in
theorem ggX5_stageAt_X2_teach : GoodIn wsX5_stageAt wsX2_teach := goodIn_r _ [21, 22, 23, 24, 25, 26, 27, 4, 28, 29, 30, 31, 10, 11, 12, 13, 32, 33, 20, 34, 35, 36, 37, 16, 38, 39, 40, 41, 42, 43, 44, 45, 46, 47, 48, 49, 50, 51, 52, 53] (by decide +kernel) (by decide +kernel)
set_option maxRecDepth 20000 in
theorem gX5_stageAt_X2_teach : GoodIn wsX5_stageAt (va_wsS RX5 64 yX2_teach wsX2_teach) := goodIn_app (goodIn_of _ (by decide +kernel)) ggX5_stageAt_X2_teach
theorem dX5_stageAt_0 : decode cX5_stageAt 0 = .ok (.lload 5, 2) := by decide +kernel
theorem dX5_stageAt_2 : decode cX5_stageAt 2 = .ok (.iload_n 1, 1) := by decide +kernel
theorem dX5_stageAt_3 : decode cX5_stageAt 3 = .ok (.aload_n 0, 1) := by decide +kernel
theorem dX5_stageAt_4 : decode cX5_stageAt 4 = .ok (.getfield 22, 3) := by decide +kernel
theorem dX5_stageAt_7 : decode cX5_stageAt 7 = .ok (.invokestatic 58, 3) := by decide +kernel
theorem dX5_stageAt_10 : decode cX5_stageAt 10 = .ok (.lstore 7, 2) := by decide +kernel
theorem dX5_stageAt_12 : decode cX5_stageAt 12 = .ok (.iload_n 2, 1) := by decide +kernel
theorem dX5_stageAt_13 : decode cX5_stageAt 13 = .ok (.istore 9, 2) := by decide +kernel
theorem dX5_stageAt_15 : decode cX5_stageAt 15 = .ok (.iload 9, 2) := by decide +kernel
theorem dX5_stageAt_17 : decode cX5_stageAt 17 = .ok (.iload 4, 2) := by decide +kernel
theorem dX5_stageAt_19 : decode cX5_stageAt 19 = .ok (.if_icmp .ge 34, 3) := by decide +kernel
theorem dX5_stageAt_22 : decode cX5_stageAt 22 = .ok (.iload_n 3, 1) := by decide +kernel
theorem dX5_stageAt_23 : decode cX5_stageAt 23 = .ok (.bipush 10, 2) := by decide +kernel
theorem dX5_stageAt_25 : decode cX5_stageAt 25 = .ok (.iload 4, 2) := by decide +kernel
theorem dX5_stageAt_27 : decode cX5_stageAt 27 = .ok (.iconst 1, 1) := by decide +kernel
theorem dX5_stageAt_28 : decode cX5_stageAt 28 = .ok (.isub, 1) := by decide +kernel
theorem dX5_stageAt_29 : decode cX5_stageAt 29 = .ok (.iload 9, 2) := by decide +kernel
theorem dX5_stageAt_31 : decode cX5_stageAt 31 = .ok (.isub, 1) := by decide +kernel
theorem dX5_stageAt_32 : decode cX5_stageAt 32 = .ok (.invokestatic 106, 3) := by decide +kernel
theorem dX5_stageAt_35 : decode cX5_stageAt 35 = .ok (.lload 7, 2) := by decide +kernel
theorem dX5_stageAt_37 : decode cX5_stageAt 37 = .ok (.aload_n 0, 1) := by decide +kernel
theorem dX5_stageAt_38 : decode cX5_stageAt 38 = .ok (.getfield 22, 3) := by decide +kernel
theorem dX5_stageAt_41 : decode cX5_stageAt 41 = .ok (.invokestatic 64, 3) := by decide +kernel
theorem dX5_stageAt_44 : decode cX5_stageAt 44 = .ok (.ifCond .eq 9, 3) := by decide +kernel
theorem dX5_stageAt_47 : decode cX5_stageAt 47 = .ok (.iinc 9 1, 3) := by decide +kernel
theorem dX5_stageAt_50 : decode cX5_stageAt 50 = .ok (.goto (-35), 3) := by decide +kernel
theorem dX5_stageAt_53 : decode cX5_stageAt 53 = .ok (.iload 9, 2) := by decide +kernel
theorem dX5_stageAt_55 : decode cX5_stageAt 55 = .ok (.ireturn, 1) := by decide +kernel
theorem dX5_enqueue_0 : decode cX5_enqueue 0 = .ok (.aload_n 0, 1) := by decide +kernel
theorem dX5_enqueue_1 : decode cX5_enqueue 1 = .ok (.getfield 32, 3) := by decide +kernel
theorem dX5_enqueue_4 : decode cX5_enqueue 4 = .ok (.ifCond .lt 44, 3) := by decide +kernel
theorem dX5_enqueue_7 : decode cX5_enqueue 7 = .ok (.aload_n 0, 1) := by decide +kernel
theorem dX5_enqueue_8 : decode cX5_enqueue 8 = .ok (.getfield 32, 3) := by decide +kernel
theorem dX5_enqueue_11 : decode cX5_enqueue 11 = .ok (.aload_n 0, 1) := by decide +kernel
theorem dX5_enqueue_12 : decode cX5_enqueue 12 = .ok (.getfield 29, 3) := by decide +kernel
theorem dX5_enqueue_15 : decode cX5_enqueue 15 = .ok (.arraylength, 1) := by decide +kernel
theorem dX5_enqueue_16 : decode cX5_enqueue 16 = .ok (.if_icmp .ge 32, 3) := by decide +kernel
theorem dX5_enqueue_19 : decode cX5_enqueue 19 = .ok (.aload_n 0, 1) := by decide +kernel
theorem dX5_enqueue_20 : decode cX5_enqueue 20 = .ok (.getfield 29, 3) := by decide +kernel
theorem dX5_enqueue_23 : decode cX5_enqueue 23 = .ok (.aload_n 0, 1) := by decide +kernel
theorem dX5_enqueue_24 : decode cX5_enqueue 24 = .ok (.getfield 32, 3) := by decide +kernel
theorem dX5_enqueue_27 : decode cX5_enqueue 27 = .ok (.iload_n 3, 1) := by decide +kernel
theorem dX5_enqueue_28 : decode cX5_enqueue 28 = .ok (.iconst 3, 1) := by decide +kernel
theorem dX5_enqueue_29 : decode cX5_enqueue 29 = .ok (.ishl, 1) := by decide +kernel
theorem dX5_enqueue_30 : decode cX5_enqueue 30 = .ok (.iload_n 2, 1) := by decide +kernel
theorem dX5_enqueue_31 : decode cX5_enqueue 31 = .ok (.ior, 1) := by decide +kernel
theorem dX5_enqueue_32 : decode cX5_enqueue 32 = .ok (.bipush 21, 2) := by decide +kernel
theorem dX5_enqueue_34 : decode cX5_enqueue 34 = .ok (.ishl, 1) := by decide +kernel
theorem dX5_enqueue_35 : decode cX5_enqueue 35 = .ok (.iload_n 1, 1) := by decide +kernel
theorem dX5_enqueue_36 : decode cX5_enqueue 36 = .ok (.ior, 1) := by decide +kernel
theorem dX5_enqueue_37 : decode cX5_enqueue 37 = .ok (.iastore, 1) := by decide +kernel
theorem dX5_enqueue_38 : decode cX5_enqueue 38 = .ok (.aload_n 0, 1) := by decide +kernel
theorem dX5_enqueue_39 : decode cX5_enqueue 39 = .ok (.dup, 1) := by decide +kernel
theorem dX5_enqueue_40 : decode cX5_enqueue 40 = .ok (.getfield 32, 3) := by decide +kernel
theorem dX5_enqueue_43 : decode cX5_enqueue 43 = .ok (.iconst 1, 1) := by decide +kernel
theorem dX5_enqueue_44 : decode cX5_enqueue 44 = .ok (.iadd, 1) := by decide +kernel
theorem dX5_enqueue_45 : decode cX5_enqueue 45 = .ok (.putfield 32, 3) := by decide +kernel
theorem dX5_enqueue_48 : decode cX5_enqueue 48 = .ok (.return_, 1) := by decide +kernel
set_option maxRecDepth 20000 in
theorem ggX5_lookBehind_X7_places : GoodIn wsX5_lookBehind wsX7_places := goodIn_r _ [6] (by decide +kernel) (by decide +kernel)
set_option maxRecDepth 20000 in
theorem gX5_lookBehind_X7_places : GoodIn wsX5_lookBehind (va_wsS RX5 75 yX7_places wsX7_places) := goodIn_app (goodIn_of _ (by decide +kernel)) ggX5_lookBehind_X7_places
set_option maxRecDepth 20000 in
theorem ggX5_lookBehind_X6_behindEvent : GoodIn wsX5_lookBehind wsX6_behindEvent := goodIn_r _ [10, 11, 12, 9, 13, 14, 15, 16, 17, 18, 19, 20, 21, 22, 23, 24, 25, 26, 27, 28] (by decide +kernel) (by decide +kernel)
set_option maxRecDepth 20000 in
theorem gX5_lookBehind_X6_behindEvent : GoodIn wsX5_lookBehind (va_wsS RX5 79 yX6_behindEvent wsX6_behindEvent) := goodIn_app (goodIn_of _ (by decide +kernel)) ggX5_lookBehind_X6_behindEvent
set_option maxRecDepth 20000 in
theorem ggX5_lookBehind_X5_raise : GoodIn wsX5_lookBehind wsX5_raise := goodIn_r _ [33, 34, 35, 36, 96, 97, 98, 99, 100, 101, 102] (by decide +kernel) (by decide +kernel)
set_option maxRecDepth 20000 in
theorem gX5_lookBehind_X5_raise : GoodIn wsX5_lookBehind (wsV RX5 83 RX5 yX5_raise wsX5_raise) := goodIn_app (goodIn_of _ (by decide +kernel)) ggX5_lookBehind_X5_raise
set_option maxRecDepth 20000 in
theorem ggX5_lookBehind_X5_stageAt : GoodIn wsX5_lookBehind wsX5_stageAt := goodIn_r _ [40, 2, 41, 42, 43, 44, 45, 15, 9, 16, 46, 47, 48, 49, 50, 51, 52, 53, 54, 55, 56, 57, 58, 59, 60, 61, 62, 63, 64, 65, 66, 67, 68, 69, 70, 71, 72, 73, 74, 75, 76, 77, 78, 79, 80, 81, 82, 83, 84, 85, 86, 87, 88, 89, 96, 97, 98, 99, 100, 101, 102] (by decide +kernel) (by decide +kernel)
set_option maxRecDepth 20000 in
theorem gX5_lookBehind_X5_stageAt : GoodIn wsX5_lookBehind (wsV RX5 94 RX5 yX5_stageAt wsX5_stageAt) := goodIn_app (goodIn_of _ (by decide +kernel)) ggX5_lookBehind_X5_stageAt
set_option maxRecDepth 20000 in
theorem ggX5_lookBehind_X5_enqueue : GoodIn wsX5_lookBehind wsX5_enqueue := goodIn_r _ [93, 94, 95, 96, 97, 98, 99, 100, 101, 102] (by decide +kernel) (by decide +kernel)
set_option maxRecDepth 20000 in
theorem gX5_lookBehind_X5_enqueue : GoodIn wsX5_lookBehind (wsV RX5 98 RX5 yX5_enqueue wsX5_enqueue) := goodIn_app (goodIn_of _ (by decide +kernel)) ggX5_lookBehind_X5_enqueue
theorem dX5_lookBehind_0 : decode cX5_lookBehind 0 = .ok (.iload_n 1, 1) := by decide +kernel
theorem dX5_lookBehind_1 : decode cX5_lookBehind 1 = .ok (.ldc 116, 2) := by decide +kernel
theorem dX5_lookBehind_3 : decode cX5_lookBehind 3 = .ok (.iand, 1) := by decide +kernel
theorem dX5_lookBehind_4 : decode cX5_lookBehind 4 = .ok (.istore 6, 2) := by decide +kernel
theorem dX5_lookBehind_6 : decode cX5_lookBehind 6 = .ok (.iload_n 1, 1) := by decide +kernel
theorem dX5_lookBehind_7 : decode cX5_lookBehind 7 = .ok (.bipush 21, 2) := by decide +kernel
theorem dX5_lookBehind_9 : decode cX5_lookBehind 9 = .ok (.ishr, 1) := by decide +kernel
theorem dX5_lookBehind_10 : decode cX5_lookBehind 10 = .ok (.bipush 7, 2) := by decide +kernel
theorem dX5_lookBehind_12 : decode cX5_lookBehind 12 = .ok (.iand, 1) := by decide +kernel
theorem dX5_lookBehind_13 : decode cX5_lookBehind 13 = .ok (.istore 7, 2) := by decide +kernel
theorem dX5_lookBehind_15 : decode cX5_lookBehind 15 = .ok (.iload_n 1, 1) := by decide +kernel
theorem dX5_lookBehind_16 : decode cX5_lookBehind 16 = .ok (.bipush 24, 2) := by decide +kernel
theorem dX5_lookBehind_18 : decode cX5_lookBehind 18 = .ok (.ishr, 1) := by decide +kernel
theorem dX5_lookBehind_19 : decode cX5_lookBehind 19 = .ok (.iconst 1, 1) := by decide +kernel
theorem dX5_lookBehind_20 : decode cX5_lookBehind 20 = .ok (.iadd, 1) := by decide +kernel
theorem dX5_lookBehind_21 : decode cX5_lookBehind 21 = .ok (.istore 8, 2) := by decide +kernel
theorem dX5_lookBehind_23 : decode cX5_lookBehind 23 = .ok (.iconst 0, 1) := by decide +kernel
theorem dX5_lookBehind_24 : decode cX5_lookBehind 24 = .ok (.istore 9, 2) := by decide +kernel
theorem dX5_lookBehind_26 : decode cX5_lookBehind 26 = .ok (.iload 9, 2) := by decide +kernel
theorem dX5_lookBehind_28 : decode cX5_lookBehind 28 = .ok (.iconst 4, 1) := by decide +kernel
theorem dX5_lookBehind_29 : decode cX5_lookBehind 29 = .ok (.if_icmp .ge 111, 3) := by decide +kernel
theorem dX5_lookBehind_32 : decode cX5_lookBehind 32 = .ok (.iload 9, 2) := by decide +kernel
theorem dX5_lookBehind_34 : decode cX5_lookBehind 34 = .ok (.aload_n 0, 1) := by decide +kernel
theorem dX5_lookBehind_35 : decode cX5_lookBehind 35 = .ok (.getfield 22, 3) := by decide +kernel
theorem dX5_lookBehind_38 : decode cX5_lookBehind 38 = .ok (.invokestatic 75, 3) := by decide +kernel
theorem dX5_lookBehind_41 : decode cX5_lookBehind 41 = .ok (.istore 10, 2) := by decide +kernel
theorem dX5_lookBehind_43 : decode cX5_lookBehind 43 = .ok (.iconst 0, 1) := by decide +kernel
theorem dX5_lookBehind_44 : decode cX5_lookBehind 44 = .ok (.istore 11, 2) := by decide +kernel
theorem dX5_lookBehind_46 : decode cX5_lookBehind 46 = .ok (.iload 11, 2) := by decide +kernel
theorem dX5_lookBehind_48 : decode cX5_lookBehind 48 = .ok (.iload 10, 2) := by decide +kernel
theorem dX5_lookBehind_50 : decode cX5_lookBehind 50 = .ok (.if_icmp .ge 84, 3) := by decide +kernel
theorem dX5_lookBehind_53 : decode cX5_lookBehind 53 = .ok (.iload 6, 2) := by decide +kernel
theorem dX5_lookBehind_55 : decode cX5_lookBehind 55 = .ok (.aload_n 0, 1) := by decide +kernel
theorem dX5_lookBehind_56 : decode cX5_lookBehind 56 = .ok (.getfield 22, 3) := by decide +kernel
theorem dX5_lookBehind_59 : decode cX5_lookBehind 59 = .ok (.iload 9, 2) := by decide +kernel
theorem dX5_lookBehind_61 : decode cX5_lookBehind 61 = .ok (.iload 11, 2) := by decide +kernel
theorem dX5_lookBehind_63 : decode cX5_lookBehind 63 = .ok (.invokestatic 79, 3) := by decide +kernel
theorem dX5_lookBehind_66 : decode cX5_lookBehind 66 = .ok (.istore 12, 2) := by decide +kernel
theorem dX5_lookBehind_68 : decode cX5_lookBehind 68 = .ok (.aload_n 0, 1) := by decide +kernel
theorem dX5_lookBehind_69 : decode cX5_lookBehind 69 = .ok (.iload 12, 2) := by decide +kernel
theorem dX5_lookBehind_71 : decode cX5_lookBehind 71 = .ok (.iload 7, 2) := by decide +kernel
theorem dX5_lookBehind_73 : decode cX5_lookBehind 73 = .ok (.iconst 1, 1) := by decide +kernel
theorem dX5_lookBehind_74 : decode cX5_lookBehind 74 = .ok (.iadd, 1) := by decide +kernel
theorem dX5_lookBehind_75 : decode cX5_lookBehind 75 = .ok (.invokevirtual 83, 3) := by decide +kernel
theorem dX5_lookBehind_78 : decode cX5_lookBehind 78 = .ok (.ifCond .ne 6, 3) := by decide +kernel
theorem dX5_lookBehind_81 : decode cX5_lookBehind 81 = .ok (.goto 47, 3) := by decide +kernel
theorem dX5_lookBehind_84 : decode cX5_lookBehind 84 = .ok (.aload_n 0, 1) := by decide +kernel
theorem dX5_lookBehind_85 : decode cX5_lookBehind 85 = .ok (.iload 12, 2) := by decide +kernel
theorem dX5_lookBehind_87 : decode cX5_lookBehind 87 = .ok (.iload 7, 2) := by decide +kernel
theorem dX5_lookBehind_89 : decode cX5_lookBehind 89 = .ok (.iload_n 2, 1) := by decide +kernel
theorem dX5_lookBehind_90 : decode cX5_lookBehind 90 = .ok (.iload_n 3, 1) := by decide +kernel
theorem dX5_lookBehind_91 : decode cX5_lookBehind 91 = .ok (.lload 4, 2) := by decide +kernel
theorem dX5_lookBehind_93 : decode cX5_lookBehind 93 = .ok (.invokevirtual 94, 3) := by decide +kernel
theorem dX5_lookBehind_96 : decode cX5_lookBehind 96 = .ok (.istore 13, 2) := by decide +kernel
theorem dX5_lookBehind_98 : decode cX5_lookBehind 98 = .ok (.iload 13, 2) := by decide +kernel
theorem dX5_lookBehind_100 : decode cX5_lookBehind 100 = .ok (.iload_n 3, 1) := by decide +kernel
theorem dX5_lookBehind_101 : decode cX5_lookBehind 101 = .ok (.if_icmp .lt 6, 3) := by decide +kernel
theorem dX5_lookBehind_104 : decode cX5_lookBehind 104 = .ok (.iload 8, 2) := by decide +kernel
theorem dX5_lookBehind_106 : decode cX5_lookBehind 106 = .ok (.ireturn, 1) := by decide +kernel
theorem dX5_lookBehind_107 : decode cX5_lookBehind 107 = .ok (.aload_n 0, 1) := by decide +kernel
theorem dX5_lookBehind_108 : decode cX5_lookBehind 108 = .ok (.iload 12, 2) := by decide +kernel
theorem dX5_lookBehind_110 : decode cX5_lookBehind 110 = .ok (.iload 13, 2) := by decide +kernel
theorem dX5_lookBehind_112 : decode cX5_lookBehind 112 = .ok (.iconst 1, 1) := by decide +kernel
theorem dX5_lookBehind_113 : decode cX5_lookBehind 113 = .ok (.iadd, 1) := by decide +kernel
theorem dX5_lookBehind_114 : decode cX5_lookBehind 114 = .ok (.invokevirtual 83, 3) := by decide +kernel
theorem dX5_lookBehind_117 : decode cX5_lookBehind 117 = .ok (.pop, 1) := by decide +kernel
theorem dX5_lookBehind_118 : decode cX5_lookBehind 118 = .ok (.aload_n 0, 1) := by decide +kernel
theorem dX5_lookBehind_119 : decode cX5_lookBehind 119 = .ok (.iload 12, 2) := by decide +kernel
theorem dX5_lookBehind_121 : decode cX5_lookBehind 121 = .ok (.iload 13, 2) := by decide +kernel
theorem dX5_lookBehind_123 : decode cX5_lookBehind 123 = .ok (.iload 8, 2) := by decide +kernel
theorem dX5_lookBehind_125 : decode cX5_lookBehind 125 = .ok (.invokevirtual 98, 3) := by decide +kernel
theorem dX5_lookBehind_128 : decode cX5_lookBehind 128 = .ok (.iinc 11 1, 3) := by decide +kernel
theorem dX5_lookBehind_131 : decode cX5_lookBehind 131 = .ok (.goto (-85), 3) := by decide +kernel
theorem dX5_lookBehind_134 : decode cX5_lookBehind 134 = .ok (.iinc 9 1, 3) := by decide +kernel
theorem dX5_lookBehind_137 : decode cX5_lookBehind 137 = .ok (.goto (-111), 3) := by decide +kernel
theorem dX5_lookBehind_140 : decode cX5_lookBehind 140 = .ok (.iconst (-1), 1) := by decide +kernel
theorem dX5_lookBehind_141 : decode cX5_lookBehind 141 = .ok (.ireturn, 1) := by decide +kernel
theorem dX6_first_0 : decode cX6_first 0 = .ok (.iconst 0, 1) := by decide +kernel
theorem dX6_first_1 : decode cX6_first 1 = .ok (.istore_n 1, 1) := by decide +kernel
theorem dX6_first_2 : decode cX6_first 2 = .ok (.iconst 0, 1) := by decide +kernel
theorem dX6_first_3 : decode cX6_first 3 = .ok (.istore_n 2, 1) := by decide +kernel
theorem dX6_first_4 : decode cX6_first 4 = .ok (.iload_n 2, 1) := by decide +kernel
theorem dX6_first_5 : decode cX6_first 5 = .ok (.iload_n 0, 1) := by decide +kernel
theorem dX6_first_6 : decode cX6_first 6 = .ok (.if_icmp .ge 17, 3) := by decide +kernel
theorem dX6_first_9 : decode cX6_first 9 = .ok (.iload_n 1, 1) := by decide +kernel
theorem dX6_first_10 : decode cX6_first 10 = .ok (.iload_n 2, 1) := by decide +kernel
theorem dX6_first_11 : decode cX6_first 11 = .ok (.iconst 3, 1) := by decide +kernel
theorem dX6_first_12 : decode cX6_first 12 = .ok (.iload_n 2, 1) := by decide +kernel
theorem dX6_first_13 : decode cX6_first 13 = .ok (.imul, 1) := by decide +kernel
theorem dX6_first_14 : decode cX6_first 14 = .ok (.ishl, 1) := by decide +kernel
theorem dX6_first_15 : decode cX6_first 15 = .ok (.ior, 1) := by decide +kernel
theorem dX6_first_16 : decode cX6_first 16 = .ok (.istore_n 1, 1) := by decide +kernel
theorem dX6_first_17 : decode cX6_first 17 = .ok (.iinc 2 1, 3) := by decide +kernel
theorem dX6_first_20 : decode cX6_first 20 = .ok (.goto (-16), 3) := by decide +kernel
theorem dX6_first_23 : decode cX6_first 23 = .ok (.iload_n 1, 1) := by decide +kernel
theorem dX6_first_24 : decode cX6_first 24 = .ok (.ireturn, 1) := by decide +kernel
theorem dX6_who_0 : decode cX6_who 0 = .ok (.iload_n 0, 1) := by decide +kernel
theorem dX6_who_1 : decode cX6_who 1 = .ok (.iconst 3, 1) := by decide +kernel
theorem dX6_who_2 : decode cX6_who 2 = .ok (.iload_n 1, 1) := by decide +kernel
theorem dX6_who_3 : decode cX6_who 3 = .ok (.imul, 1) := by decide +kernel
theorem dX6_who_4 : decode cX6_who 4 = .ok (.ishr, 1) := by decide +kernel
theorem dX6_who_5 : decode cX6_who 5 = .ok (.bipush 7, 2) := by decide +kernel
theorem dX6_who_7 : decode cX6_who 7 = .ok (.iand, 1) := by decide +kernel
theorem dX6_who_8 : decode cX6_who 8 = .ok (.ireturn, 1) := by decide +kernel
set_option maxRecDepth 20000 in
theorem ggX6_bread_X6_who : GoodIn wsX6_bread wsX6_who := goodIn_r _ [4] (by decide +kernel) (by decide +kernel)
set_option maxRecDepth 20000 in
theorem gX6_bread_X6_who : GoodIn wsX6_bread (va_wsS RX6 9 yX6_who wsX6_who) := goodIn_app (goodIn_of _ (by decide +kernel)) ggX6_bread_X6_who
theorem dX6_bread_0 : decode cX6_bread 0 = .ok (.iload_n 0, 1) := by decide +kernel
theorem dX6_bread_1 : decode cX6_bread 1 = .ok (.iconst 1, 1) := by decide +kernel
theorem dX6_bread_2 : decode cX6_bread 2 = .ok (.iconst 3, 1) := by decide +kernel
theorem dX6_bread_3 : decode cX6_bread 3 = .ok (.iload_n 1, 1) := by decide +kernel
theorem dX6_bread_4 : decode cX6_bread 4 = .ok (.imul, 1) := by decide +kernel
theorem dX6_bread_5 : decode cX6_bread 5 = .ok (.ishl, 1) := by decide +kernel
theorem dX6_bread_6 : decode cX6_bread 6 = .ok (.iconst 1, 1) := by decide +kernel
theorem dX6_bread_7 : decode cX6_bread 7 = .ok (.isub, 1) := by decide +kernel
theorem dX6_bread_8 : decode cX6_bread 8 = .ok (.iand, 1) := by decide +kernel
theorem dX6_bread_9 : decode cX6_bread 9 = .ok (.istore_n 2, 1) := by decide +kernel
theorem dX6_bread_10 : decode cX6_bread 10 = .ok (.iload_n 0, 1) := by decide +kernel
theorem dX6_bread_11 : decode cX6_bread 11 = .ok (.iconst 3, 1) := by decide +kernel
theorem dX6_bread_12 : decode cX6_bread 12 = .ok (.iload_n 1, 1) := by decide +kernel
theorem dX6_bread_13 : decode cX6_bread 13 = .ok (.iconst 1, 1) := by decide +kernel
theorem dX6_bread_14 : decode cX6_bread 14 = .ok (.iadd, 1) := by decide +kernel
theorem dX6_bread_15 : decode cX6_bread 15 = .ok (.imul, 1) := by decide +kernel
theorem dX6_bread_16 : decode cX6_bread 16 = .ok (.ishr, 1) := by decide +kernel
theorem dX6_bread_17 : decode cX6_bread 17 = .ok (.istore_n 3, 1) := by decide +kernel
theorem dX6_bread_18 : decode cX6_bread 18 = .ok (.iload_n 3, 1) := by decide +kernel
theorem dX6_bread_19 : decode cX6_bread 19 = .ok (.iconst 3, 1) := by decide +kernel
theorem dX6_bread_20 : decode cX6_bread 20 = .ok (.iload_n 1, 1) := by decide +kernel
theorem dX6_bread_21 : decode cX6_bread 21 = .ok (.iconst 1, 1) := by decide +kernel
theorem dX6_bread_22 : decode cX6_bread 22 = .ok (.iadd, 1) := by decide +kernel
theorem dX6_bread_23 : decode cX6_bread 23 = .ok (.imul, 1) := by decide +kernel
theorem dX6_bread_24 : decode cX6_bread 24 = .ok (.ishl, 1) := by decide +kernel
theorem dX6_bread_25 : decode cX6_bread 25 = .ok (.iload_n 2, 1) := by decide +kernel
theorem dX6_bread_26 : decode cX6_bread 26 = .ok (.iconst 3, 1) := by decide +kernel
theorem dX6_bread_27 : decode cX6_bread 27 = .ok (.ishl, 1) := by decide +kernel
theorem dX6_bread_28 : decode cX6_bread 28 = .ok (.ior, 1) := by decide +kernel
theorem dX6_bread_29 : decode cX6_bread 29 = .ok (.iload_n 0, 1) := by decide +kernel
theorem dX6_bread_30 : decode cX6_bread 30 = .ok (.iload_n 1, 1) := by decide +kernel
theorem dX6_bread_31 : decode cX6_bread 31 = .ok (.invokestatic 9, 3) := by decide +kernel
theorem dX6_bread_34 : decode cX6_bread 34 = .ok (.ior, 1) := by decide +kernel
theorem dX6_bread_35 : decode cX6_bread 35 = .ok (.ireturn, 1) := by decide +kernel
set_option maxRecDepth 20000 in
theorem ggX6_pike_X6_sold : GoodIn wsX6_pike wsX6_sold := goodIn_r _ [4] (by decide +kernel) (by decide +kernel)
set_option maxRecDepth 20000 in
theorem gX6_pike_X6_sold : GoodIn wsX6_pike (va_wsS RX6 13 yX6_sold wsX6_sold) := goodIn_app (goodIn_of _ (by decide +kernel)) ggX6_pike_X6_sold
set_option maxRecDepth 20000 in
theorem ggX6_pike_X6_who : GoodIn wsX6_pike wsX6_who := goodIn_r _ [7] (by decide +kernel) (by decide +kernel)
set_option maxRecDepth 20000 in
theorem gX6_pike_X6_who : GoodIn wsX6_pike (va_wsS RX6 9 yX6_who wsX6_who) := goodIn_app (goodIn_of _ (by decide +kernel)) ggX6_pike_X6_who
theorem dX6_pike_0 : decode cX6_pike 0 = .ok (.iload_n 0, 1) := by decide +kernel
theorem dX6_pike_1 : decode cX6_pike 1 = .ok (.iload_n 1, 1) := by decide +kernel
theorem dX6_pike_2 : decode cX6_pike 2 = .ok (.invokestatic 13, 3) := by decide +kernel
theorem dX6_pike_5 : decode cX6_pike 5 = .ok (.iload_n 0, 1) := by decide +kernel
theorem dX6_pike_6 : decode cX6_pike 6 = .ok (.iload_n 1, 1) := by decide +kernel
theorem dX6_pike_7 : decode cX6_pike 7 = .ok (.invokestatic 9, 3) := by decide +kernel
theorem dX6_pike_10 : decode cX6_pike 10 = .ok (.iconst 3, 1) := by decide +kernel
theorem dX6_pike_11 : decode cX6_pike 11 = .ok (.iload_n 2, 1) := by decide +kernel
theorem dX6_pike_12 : decode cX6_pike 12 = .ok (.iconst 1, 1) := by decide +kernel
theorem dX6_pike_13 : decode cX6_pike 13 = .ok (.isub, 1) := by decide +kernel
theorem dX6_pike_14 : decode cX6_pike 14 = .ok (.imul, 1) := by decide +kernel
theorem dX6_pike_15 : decode cX6_pike 15 = .ok (.ishl, 1) := by decide +kernel
theorem dX6_pike_16 : decode cX6_pike 16 = .ok (.ior, 1) := by decide +kernel
theorem dX6_pike_17 : decode cX6_pike 17 = .ok (.ireturn, 1) := by decide +kernel
set_option maxRecDepth 20000 in
theorem ggX6_rain_X6_who : GoodIn wsX6_rain wsX6_who := goodIn_r _ [4] (by decide +kernel) (by decide +kernel)
set_option maxRecDepth 20000 in
theorem gX6_rain_X6_who : GoodIn wsX6_rain (va_wsS RX6 9 yX6_who wsX6_who) := goodIn_app (goodIn_of _ (by decide +kernel)) ggX6_rain_X6_who
theorem dX6_rain_0 : decode cX6_rain 0 = .ok (.iconst 0, 1) := by decide +kernel
theorem dX6_rain_1 : decode cX6_rain 1 = .ok (.istore_n 2, 1) := by decide +kernel
theorem dX6_rain_2 : decode cX6_rain 2 = .ok (.iconst 0, 1) := by decide +kernel
theorem dX6_rain_3 : decode cX6_rain 3 = .ok (.istore_n 3, 1) := by decide +kernel
theorem dX6_rain_4 : decode cX6_rain 4 = .ok (.iload_n 3, 1) := by decide +kernel
theorem dX6_rain_5 : decode cX6_rain 5 = .ok (.iload_n 1, 1) := by decide +kernel
theorem dX6_rain_6 : decode cX6_rain 6 = .ok (.if_icmp .ge 19, 3) := by decide +kernel
theorem dX6_rain_9 : decode cX6_rain 9 = .ok (.iload_n 2, 1) := by decide +kernel
theorem dX6_rain_10 : decode cX6_rain 10 = .ok (.iconst 3, 1) := by decide +kernel
theorem dX6_rain_11 : decode cX6_rain 11 = .ok (.ishl, 1) := by decide +kernel
theorem dX6_rain_12 : decode cX6_rain 12 = .ok (.iload_n 0, 1) := by decide +kernel
theorem dX6_rain_13 : decode cX6_rain 13 = .ok (.iload_n 3, 1) := by decide +kernel
theorem dX6_rain_14 : decode cX6_rain 14 = .ok (.invokestatic 9, 3) := by decide +kernel
theorem dX6_rain_17 : decode cX6_rain 17 = .ok (.ior, 1) := by decide +kernel
theorem dX6_rain_18 : decode cX6_rain 18 = .ok (.istore_n 2, 1) := by decide +kernel
theorem dX6_rain_19 : decode cX6_rain 19 = .ok (.iinc 3 1, 3) := by decide +kernel
theorem dX6_rain_22 : decode cX6_rain 22 = .ok (.goto (-18), 3) := by decide +kernel
theorem dX6_rain_25 : decode cX6_rain 25 = .ok (.iload_n 2, 1) := by decide +kernel
theorem dX6_rain_26 : decode cX6_rain 26 = .ok (.ireturn, 1) := by decide +kernel
set_option maxRecDepth 20000 in
theorem ggX6_gust_X6_who : GoodIn wsX6_gust wsX6_who := goodIn_r _ [4] (by decide +kernel) (by decide +kernel)
set_option maxRecDepth 20000 in
theorem gX6_gust_X6_who : GoodIn wsX6_gust (va_wsS RX6 9 yX6_who wsX6_who) := goodIn_app (goodIn_of _ (by decide +kernel)) ggX6_gust_X6_who
theorem dX6_gust_0 : decode cX6_gust 0 = .ok (.iload_n 0, 1) := by decide +kernel
theorem dX6_gust_1 : decode cX6_gust 1 = .ok (.iload_n 1, 1) := by decide +kernel
theorem dX6_gust_2 : decode cX6_gust 2 = .ok (.invokestatic 9, 3) := by decide +kernel
theorem dX6_gust_5 : decode cX6_gust 5 = .ok (.iload_n 0, 1) := by decide +kernel
theorem dX6_gust_6 : decode cX6_gust 6 = .ok (.iload_n 1, 1) := by decide +kernel
theorem dX6_gust_7 : decode cX6_gust 7 = .ok (.iconst 1, 1) := by decide +kernel
theorem dX6_gust_8 : decode cX6_gust 8 = .ok (.iadd, 1) := by decide +kernel
theorem dX6_gust_9 : decode cX6_gust 9 = .ok (.invokestatic 9, 3) := by decide +kernel
theorem dX6_gust_12 : decode cX6_gust 12 = .ok (.ixor, 1) := by decide +kernel
theorem dX6_gust_13 : decode cX6_gust 13 = .ok (.istore_n 2, 1) := by decide +kernel
theorem dX6_gust_14 : decode cX6_gust 14 = .ok (.iload_n 0, 1) := by decide +kernel
theorem dX6_gust_15 : decode cX6_gust 15 = .ok (.iload_n 2, 1) := by decide +kernel
theorem dX6_gust_16 : decode cX6_gust 16 = .ok (.iconst 3, 1) := by decide +kernel
theorem dX6_gust_17 : decode cX6_gust 17 = .ok (.iload_n 1, 1) := by decide +kernel
theorem dX6_gust_18 : decode cX6_gust 18 = .ok (.imul, 1) := by decide +kernel
theorem dX6_gust_19 : decode cX6_gust 19 = .ok (.ishl, 1) := by decide +kernel
theorem dX6_gust_20 : decode cX6_gust 20 = .ok (.ixor, 1) := by decide +kernel
theorem dX6_gust_21 : decode cX6_gust 21 = .ok (.iload_n 2, 1) := by decide +kernel
theorem dX6_gust_22 : decode cX6_gust 22 = .ok (.iconst 3, 1) := by decide +kernel
theorem dX6_gust_23 : decode cX6_gust 23 = .ok (.iload_n 1, 1) := by decide +kernel
theorem dX6_gust_24 : decode cX6_gust 24 = .ok (.iconst 1, 1) := by decide +kernel
theorem dX6_gust_25 : decode cX6_gust 25 = .ok (.iadd, 1) := by decide +kernel
theorem dX6_gust_26 : decode cX6_gust 26 = .ok (.imul, 1) := by decide +kernel
theorem dX6_gust_27 : decode cX6_gust 27 = .ok (.ishl, 1) := by decide +kernel
theorem dX6_gust_28 : decode cX6_gust 28 = .ok (.ixor, 1) := by decide +kernel
theorem dX6_gust_29 : decode cX6_gust 29 = .ok (.ireturn, 1) := by decide +kernel
theorem dX6_sold_0 : decode cX6_sold 0 = .ok (.iload_n 0, 1) := by decide +kernel
theorem dX6_sold_1 : decode cX6_sold 1 = .ok (.iconst 1, 1) := by decide +kernel
theorem dX6_sold_2 : decode cX6_sold 2 = .ok (.iconst 3, 1) := by decide +kernel
theorem dX6_sold_3 : decode cX6_sold 3 = .ok (.iload_n 1, 1) := by decide +kernel
theorem dX6_sold_4 : decode cX6_sold 4 = .ok (.imul, 1) := by decide +kernel
theorem dX6_sold_5 : decode cX6_sold 5 = .ok (.ishl, 1) := by decide +kernel
theorem dX6_sold_6 : decode cX6_sold 6 = .ok (.iconst 1, 1) := by decide +kernel
theorem dX6_sold_7 : decode cX6_sold 7 = .ok (.isub, 1) := by decide +kernel
theorem dX6_sold_8 : decode cX6_sold 8 = .ok (.iand, 1) := by decide +kernel
theorem dX6_sold_9 : decode cX6_sold 9 = .ok (.istore_n 2, 1) := by decide +kernel
theorem dX6_sold_10 : decode cX6_sold 10 = .ok (.iload_n 0, 1) := by decide +kernel
theorem dX6_sold_11 : decode cX6_sold 11 = .ok (.iconst 3, 1) := by decide +kernel
theorem dX6_sold_12 : decode cX6_sold 12 = .ok (.iload_n 1, 1) := by decide +kernel
theorem dX6_sold_13 : decode cX6_sold 13 = .ok (.iconst 1, 1) := by decide +kernel
theorem dX6_sold_14 : decode cX6_sold 14 = .ok (.iadd, 1) := by decide +kernel
theorem dX6_sold_15 : decode cX6_sold 15 = .ok (.imul, 1) := by decide +kernel
theorem dX6_sold_16 : decode cX6_sold 16 = .ok (.ishr, 1) := by decide +kernel
theorem dX6_sold_17 : decode cX6_sold 17 = .ok (.istore_n 3, 1) := by decide +kernel
theorem dX6_sold_18 : decode cX6_sold 18 = .ok (.iload_n 2, 1) := by decide +kernel
theorem dX6_sold_19 : decode cX6_sold 19 = .ok (.iload_n 3, 1) := by decide +kernel
theorem dX6_sold_20 : decode cX6_sold 20 = .ok (.iconst 3, 1) := by decide +kernel
theorem dX6_sold_21 : decode cX6_sold 21 = .ok (.iload_n 1, 1) := by decide +kernel
theorem dX6_sold_22 : decode cX6_sold 22 = .ok (.imul, 1) := by decide +kernel
theorem dX6_sold_23 : decode cX6_sold 23 = .ok (.ishl, 1) := by decide +kernel
theorem dX6_sold_24 : decode cX6_sold 24 = .ok (.ior, 1) := by decide +kernel
theorem dX6_sold_25 : decode cX6_sold 25 = .ok (.ireturn, 1) := by decide +kernel
set_option maxRecDepth 20000 in
theorem ggX6_behindEvent_X6_bread : GoodIn wsX6_behindEvent wsX6_bread := goodIn_r _ [4, 5, 6, 3, 7] (by decide +kernel) (by decide +kernel)
set_option maxRecDepth 20000 in
theorem gX6_behindEvent_X6_bread : GoodIn wsX6_behindEvent (va_wsS RX6 16 yX6_bread wsX6_bread) := goodIn_app (goodIn_of _ (by decide +kernel)) ggX6_behindEvent_X6_bread
set_option maxRecDepth 20000 in
theorem ggX6_behindEvent_X6_pike : GoodIn wsX6_behindEvent wsX6_pike := goodIn_r _ [10, 11, 12, 3, 13, 5, 6, 7] (by decide +kernel) (by decide +kernel)
set_option maxRecDepth 20000 in
theorem gX6_behindEvent_X6_pike : GoodIn wsX6_behindEvent (va_wsS RX6 19 yX6_pike wsX6_pike) := goodIn_app (goodIn_of _ (by decide +kernel)) ggX6_behindEvent_X6_pike
set_option maxRecDepth 20000 in
theorem ggX6_behindEvent_X6_rain : GoodIn wsX6_behindEvent wsX6_rain := goodIn_r _ [16, 5, 6, 3, 7] (by decide +kernel) (by decide +kernel)
set_option maxRecDepth 20000 in
theorem gX6_behindEvent_X6_rain : GoodIn wsX6_behindEvent (va_wsS RX6 23 yX6_rain wsX6_rain) := goodIn_app (goodIn_of _ (by decide +kernel)) ggX6_behindEvent_X6_rain
set_option maxRecDepth 20000 in
theorem ggX6_behindEvent_X6_gust : GoodIn wsX6_behindEvent wsX6_gust := goodIn_r _ [19, 5, 6, 3, 7] (by decide +kernel) (by decide +kernel)
set_option maxRecDepth 20000 in
theorem gX6_behindEvent_X6_gust : GoodIn wsX6_behindEvent (va_wsS RX6 26 yX6_gust wsX6_gust) := goodIn_app (goodIn_of _ (by decide +kernel)) ggX6_behindEvent_X6_gust
set_option maxRecDepth 20000 in
theorem ggX6_behindEvent_X6_sold : GoodIn wsX6_behindEvent wsX6_sold := goodIn_r _ [13] (by decide +kernel) (by decide +kernel)
set_option maxRecDepth 20000 in
theorem gX6_behindEvent_X6_sold : GoodIn wsX6_behindEvent (va_wsS RX6 13 yX6_sold wsX6_sold) := goodIn_app (goodIn_of _ (by decide +kernel)) ggX6_behindEvent_X6_sold
theorem dX6_behindEvent_0 : decode cX6_behindEvent 0 = .ok (.iload_n 2, 1) := by decide +kernel
theorem dX6_behindEvent_1 : decode cX6_behindEvent 1 = .ok (.tableswitch 66 0 4 #[35, 41, 48, 54, 60], 35) := by decide +kernel
theorem dX6_behindEvent_36 : decode cX6_behindEvent 36 = .ok (.iload_n 0, 1) := by decide +kernel
theorem dX6_behindEvent_37 : decode cX6_behindEvent 37 = .ok (.iload_n 3, 1) := by decide +kernel
theorem dX6_behindEvent_38 : decode cX6_behindEvent 38 = .ok (.invokestatic 16, 3) := by decide +kernel
theorem dX6_behindEvent_41 : decode cX6_behindEvent 41 = .ok (.ireturn, 1) := by decide +kernel
theorem dX6_behindEvent_42 : decode cX6_behindEvent 42 = .ok (.iload_n 0, 1) := by decide +kernel
theorem dX6_behindEvent_43 : decode cX6_behindEvent 43 = .ok (.iload_n 3, 1) := by decide +kernel
theorem dX6_behindEvent_44 : decode cX6_behindEvent 44 = .ok (.iload_n 1, 1) := by decide +kernel
theorem dX6_behindEvent_45 : decode cX6_behindEvent 45 = .ok (.invokestatic 19, 3) := by decide +kernel
theorem dX6_behindEvent_48 : decode cX6_behindEvent 48 = .ok (.ireturn, 1) := by decide +kernel
theorem dX6_behindEvent_49 : decode cX6_behindEvent 49 = .ok (.iload_n 0, 1) := by decide +kernel
theorem dX6_behindEvent_50 : decode cX6_behindEvent 50 = .ok (.iload_n 1, 1) := by decide +kernel
theorem dX6_behindEvent_51 : decode cX6_behindEvent 51 = .ok (.invokestatic 23, 3) := by decide +kernel
theorem dX6_behindEvent_54 : decode cX6_behindEvent 54 = .ok (.ireturn, 1) := by decide +kernel
theorem dX6_behindEvent_55 : decode cX6_behindEvent 55 = .ok (.iload_n 0, 1) := by decide +kernel
theorem dX6_behindEvent_56 : decode cX6_behindEvent 56 = .ok (.iload_n 3, 1) := by decide +kernel
theorem dX6_behindEvent_57 : decode cX6_behindEvent 57 = .ok (.invokestatic 26, 3) := by decide +kernel
theorem dX6_behindEvent_60 : decode cX6_behindEvent 60 = .ok (.ireturn, 1) := by decide +kernel
theorem dX6_behindEvent_61 : decode cX6_behindEvent 61 = .ok (.iload_n 0, 1) := by decide +kernel
theorem dX6_behindEvent_62 : decode cX6_behindEvent 62 = .ok (.iload_n 3, 1) := by decide +kernel
theorem dX6_behindEvent_63 : decode cX6_behindEvent 63 = .ok (.invokestatic 13, 3) := by decide +kernel
theorem dX6_behindEvent_66 : decode cX6_behindEvent 66 = .ok (.ireturn, 1) := by decide +kernel
theorem dX6_behindEvent_67 : decode cX6_behindEvent 67 = .ok (.iload_n 0, 1) := by decide +kernel
theorem dX6_behindEvent_68 : decode cX6_behindEvent 68 = .ok (.ireturn, 1) := by decide +kernel
theorem dX7_ofSign_0 : decode cX7_ofSign 0 = .ok (.iload_n 0, 1) := by decide +kernel
theorem dX7_ofSign_1 : decode cX7_ofSign 1 = .ok (.lookupswitch 61 #[(98, 51), (103, 57), (112, 53), (114, 55), (120, 59)], 51) := by decide +kernel
theorem dX7_ofSign_52 : decode cX7_ofSign 52 = .ok (.iconst 0, 1) := by decide +kernel
theorem dX7_ofSign_53 : decode cX7_ofSign 53 = .ok (.ireturn, 1) := by decide +kernel
theorem dX7_ofSign_54 : decode cX7_ofSign 54 = .ok (.iconst 1, 1) := by decide +kernel
theorem dX7_ofSign_55 : decode cX7_ofSign 55 = .ok (.ireturn, 1) := by decide +kernel
theorem dX7_ofSign_56 : decode cX7_ofSign 56 = .ok (.iconst 2, 1) := by decide +kernel
theorem dX7_ofSign_57 : decode cX7_ofSign 57 = .ok (.ireturn, 1) := by decide +kernel
theorem dX7_ofSign_58 : decode cX7_ofSign 58 = .ok (.iconst 3, 1) := by decide +kernel
theorem dX7_ofSign_59 : decode cX7_ofSign 59 = .ok (.ireturn, 1) := by decide +kernel
theorem dX7_ofSign_60 : decode cX7_ofSign 60 = .ok (.iconst 4, 1) := by decide +kernel
theorem dX7_ofSign_61 : decode cX7_ofSign 61 = .ok (.ireturn, 1) := by decide +kernel
theorem dX7_ofSign_62 : decode cX7_ofSign 62 = .ok (.iconst (-1), 1) := by decide +kernel
theorem dX7_ofSign_63 : decode cX7_ofSign 63 = .ok (.ireturn, 1) := by decide +kernel
theorem dX7_places_0 : decode cX7_places 0 = .ok (.iload_n 0, 1) := by decide +kernel
theorem dX7_places_1 : decode cX7_places 1 = .ok (.tableswitch 54 0 4 #[35, 35, 37, 39, 43], 35) := by decide +kernel
theorem dX7_places_36 : decode cX7_places 36 = .ok (.iload_n 1, 1) := by decide +kernel
theorem dX7_places_37 : decode cX7_places 37 = .ok (.ireturn, 1) := by decide +kernel
theorem dX7_places_38 : decode cX7_places 38 = .ok (.iconst 1, 1) := by decide +kernel
theorem dX7_places_39 : decode cX7_places 39 = .ok (.ireturn, 1) := by decide +kernel
theorem dX7_places_40 : decode cX7_places 40 = .ok (.iload_n 1, 1) := by decide +kernel
theorem dX7_places_41 : decode cX7_places 41 = .ok (.iconst 1, 1) := by decide +kernel
theorem dX7_places_42 : decode cX7_places 42 = .ok (.isub, 1) := by decide +kernel
theorem dX7_places_43 : decode cX7_places 43 = .ok (.ireturn, 1) := by decide +kernel
theorem dX7_places_44 : decode cX7_places 44 = .ok (.iload_n 1, 1) := by decide +kernel
theorem dX7_places_45 : decode cX7_places 45 = .ok (.iconst 1, 1) := by decide +kernel
theorem dX7_places_46 : decode cX7_places 46 = .ok (.if_icmp .le 7, 3) := by decide +kernel
theorem dX7_places_49 : decode cX7_places 49 = .ok (.iload_n 1, 1) := by decide +kernel
theorem dX7_places_50 : decode cX7_places 50 = .ok (.goto 4, 3) := by decide +kernel
theorem dX7_places_53 : decode cX7_places 53 = .ok (.iconst 0, 1) := by decide +kernel
theorem dX7_places_54 : decode cX7_places 54 = .ok (.ireturn, 1) := by decide +kernel
theorem dX7_places_55 : decode cX7_places 55 = .ok (.iconst 0, 1) := by decide +kernel
theorem dX7_places_56 : decode cX7_places 56 = .ok (.ireturn, 1) := by decide +kernel
set_option maxRecDepth 20000 in
theorem ggX8_init_X1_init : GoodIn wsX8_init wsX1_init := goodIn_r _ [18, 19, 2, 3, 20, 21, 22, 23, 24, 25, 50, 51, 52, 53, 54, 55] (by decide +kernel) (by decide +kernel)
set_option maxRecDepth 20000 in
theorem gX8_init_X1_init_n11 : GoodIn wsX8_init (wsX1_init) := ggX8_init_X1_init
set_option maxRecDepth 20000 in
theorem ggX8_init_X4_init : GoodIn wsX8_init wsX4_init := goodIn_r _ [27, 28, 2, 3, 29, 30, 31, 32, 33, 63, 64, 65, 66] (by decide +kernel) (by decide +kernel)
set_option maxRecDepth 20000 in
theorem gX8_init_X4_init_n31 : GoodIn wsX8_init (wsX4_init) := ggX8_init_X4_init
set_option maxRecDepth 20000 in
theorem ggX8_init_X1_begin : GoodIn wsX8_init wsX1_begin := goodIn_r _ [37, 20, 21, 22, 23, 38, 39, 40, 41, 42, 43, 44, 45, 46, 47, 48, 6, 49, 24, 25, 50, 51, 52, 53, 54, 55] (by decide +kernel) (by decide +kernel)
set_option maxRecDepth 20000 in
theorem gX8_init_X1_begin : GoodIn wsX8_init (wsV RX8 40 RX1 yX1_begin wsX1_begin) := goodIn_app (goodIn_of _ (by decide +kernel)) ggX8_init_X1_begin
