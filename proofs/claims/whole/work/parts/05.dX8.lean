theorem dX8_init_0 : decode cX8_init 0 = .ok (.aload_n 0, 1) := by decide +kernel
theorem dX8_init_1 : decode cX8_init 1 = .ok (.invokespecial 3, 3) := by decide +kernel
theorem dX8_init_4 : decode cX8_init 4 = .ok (.aload_n 0, 1) := by decide +kernel
theorem dX8_init_5 : decode cX8_init 5 = .ok (.new 9, 3) := by decide +kernel
theorem dX8_init_8 : decode cX8_init 8 = .ok (.dup, 1) := by decide +kernel
theorem dX8_init_9 : decode cX8_init 9 = .ok (.invokespecial 11, 3) := by decide +kernel
theorem dX8_init_12 : decode cX8_init 12 = .ok (.putfield 12, 3) := by decide +kernel
theorem dX8_init_15 : decode cX8_init 15 = .ok (.aload_n 0, 1) := by decide +kernel
theorem dX8_init_16 : decode cX8_init 16 = .ok (.new 9, 3) := by decide +kernel
theorem dX8_init_19 : decode cX8_init 19 = .ok (.dup, 1) := by decide +kernel
theorem dX8_init_20 : decode cX8_init 20 = .ok (.invokespecial 11, 3) := by decide +kernel
theorem dX8_init_23 : decode cX8_init 23 = .ok (.putfield 16, 3) := by decide +kernel
theorem dX8_init_26 : decode cX8_init 26 = .ok (.aload_n 0, 1) := by decide +kernel
theorem dX8_init_27 : decode cX8_init 27 = .ok (.new 9, 3) := by decide +kernel
theorem dX8_init_30 : decode cX8_init 30 = .ok (.dup, 1) := by decide +kernel
theorem dX8_init_31 : decode cX8_init 31 = .ok (.invokespecial 11, 3) := by decide +kernel
theorem dX8_init_34 : decode cX8_init 34 = .ok (.putfield 19, 3) := by decide +kernel
theorem dX8_init_37 : decode cX8_init 37 = .ok (.aload_n 0, 1) := by decide +kernel
theorem dX8_init_38 : decode cX8_init 38 = .ok (.iconst 0, 1) := by decide +kernel
theorem dX8_init_39 : decode cX8_init 39 = .ok (.putfield 22, 3) := by decide +kernel
theorem dX8_init_42 : decode cX8_init 42 = .ok (.aload_n 0, 1) := by decide +kernel
theorem dX8_init_43 : decode cX8_init 43 = .ok (.iconst 0, 1) := by decide +kernel
theorem dX8_init_44 : decode cX8_init 44 = .ok (.putfield 26, 3) := by decide +kernel
theorem dX8_init_47 : decode cX8_init 47 = .ok (.aload_n 0, 1) := by decide +kernel
theorem dX8_init_48 : decode cX8_init 48 = .ok (.new 29, 3) := by decide +kernel
theorem dX8_init_51 : decode cX8_init 51 = .ok (.dup, 1) := by decide +kernel
theorem dX8_init_52 : decode cX8_init 52 = .ok (.invokespecial 31, 3) := by decide +kernel
theorem dX8_init_55 : decode cX8_init 55 = .ok (.putfield 32, 3) := by decide +kernel
theorem dX8_init_58 : decode cX8_init 58 = .ok (.aload_n 0, 1) := by decide +kernel
theorem dX8_init_59 : decode cX8_init 59 = .ok (.aconst_null, 1) := by decide +kernel
theorem dX8_init_60 : decode cX8_init 60 = .ok (.putfield 36, 3) := by decide +kernel
theorem dX8_init_63 : decode cX8_init 63 = .ok (.aload_n 0, 1) := by decide +kernel
theorem dX8_init_64 : decode cX8_init 64 = .ok (.getfield 12, 3) := by decide +kernel
theorem dX8_init_67 : decode cX8_init 67 = .ok (.iconst 4, 1) := by decide +kernel
theorem dX8_init_68 : decode cX8_init 68 = .ok (.invokevirtual 40, 3) := by decide +kernel
theorem dX8_init_71 : decode cX8_init 71 = .ok (.return_, 1) := by decide +kernel
set_option maxRecDepth 20000 in
theorem ggX8_swans_X1_begin : GoodIn wsX8_swans wsX1_begin := goodIn_r _ [7, 8, 9, 10, 11, 12, 13, 14, 15, 16, 17, 18, 19, 20, 21, 22, 6, 23, 24, 25, 33, 34, 35, 36, 37, 38] (by decide +kernel) (by decide +kernel)
set_option maxRecDepth 20000 in
theorem gX8_swans_X1_begin : GoodIn wsX8_swans (wsV RX8 40 RX1 yX1_begin wsX1_begin) := goodIn_app (goodIn_of _ (by decide +kernel)) ggX8_swans_X1_begin
theorem dX8_swans_0 : decode cX8_swans 0 = .ok (.iload_n 1, 1) := by decide +kernel
theorem dX8_swans_1 : decode cX8_swans 1 = .ok (.iconst 1, 1) := by decide +kernel
theorem dX8_swans_2 : decode cX8_swans 2 = .ok (.if_icmp .lt 9, 3) := by decide +kernel
theorem dX8_swans_5 : decode cX8_swans 5 = .ok (.iload_n 1, 1) := by decide +kernel
theorem dX8_swans_6 : decode cX8_swans 6 = .ok (.bipush 7, 2) := by decide +kernel
theorem dX8_swans_8 : decode cX8_swans 8 = .ok (.if_icmp .le 6, 3) := by decide +kernel
theorem dX8_swans_11 : decode cX8_swans 11 = .ok (.bipush (-2), 2) := by decide +kernel
theorem dX8_swans_13 : decode cX8_swans 13 = .ok (.ireturn, 1) := by decide +kernel
theorem dX8_swans_14 : decode cX8_swans 14 = .ok (.aload_n 0, 1) := by decide +kernel
theorem dX8_swans_15 : decode cX8_swans 15 = .ok (.getfield 12, 3) := by decide +kernel
theorem dX8_swans_18 : decode cX8_swans 18 = .ok (.getfield 44, 3) := by decide +kernel
theorem dX8_swans_21 : decode cX8_swans 21 = .ok (.istore_n 2, 1) := by decide +kernel
theorem dX8_swans_22 : decode cX8_swans 22 = .ok (.aload_n 0, 1) := by decide +kernel
theorem dX8_swans_23 : decode cX8_swans 23 = .ok (.getfield 12, 3) := by decide +kernel
theorem dX8_swans_26 : decode cX8_swans 26 = .ok (.iload_n 1, 1) := by decide +kernel
theorem dX8_swans_27 : decode cX8_swans 27 = .ok (.invokevirtual 40, 3) := by decide +kernel
theorem dX8_swans_30 : decode cX8_swans 30 = .ok (.iload_n 2, 1) := by decide +kernel
theorem dX8_swans_31 : decode cX8_swans 31 = .ok (.ireturn, 1) := by decide +kernel
set_option maxRecDepth 20000 in
theorem ggX8_number_X1_has : GoodIn wsX8_number wsX1_has := goodIn_r _ [7, 8, 25, 26, 27, 28, 29, 30] (by decide +kernel) (by decide +kernel)
set_option maxRecDepth 20000 in
theorem gX8_number_X1_has : GoodIn wsX8_number (wsV RX8 48 RX1 yX1_has wsX1_has) := goodIn_app (goodIn_of _ (by decide +kernel)) ggX8_number_X1_has
set_option maxRecDepth 20000 in
theorem ggX8_number_X3_numberAt : GoodIn wsX8_number wsX3_numberAt := goodIn_r _ [12, 13] (by decide +kernel) (by decide +kernel)
set_option maxRecDepth 20000 in
theorem gX8_number_X3_numberAt : GoodIn wsX8_number (va_wsS RX8 56 yX3_numberAt wsX3_numberAt) := goodIn_app (goodIn_of _ (by decide +kernel)) ggX8_number_X3_numberAt
set_option maxRecDepth 20000 in
theorem ggX8_number_X3_with : GoodIn wsX8_number wsX3_with := goodIn_r _ [16, 13, 17] (by decide +kernel) (by decide +kernel)
set_option maxRecDepth 20000 in
theorem gX8_number_X3_with : GoodIn wsX8_number (va_wsS RX8 62 yX3_with wsX3_with) := goodIn_app (goodIn_of _ (by decide +kernel)) ggX8_number_X3_with
theorem dX8_number_0 : decode cX8_number 0 = .ok (.aload_n 0, 1) := by decide +kernel
theorem dX8_number_1 : decode cX8_number 1 = .ok (.getfield 12, 3) := by decide +kernel
theorem dX8_number_4 : decode cX8_number 4 = .ok (.iload_n 1, 1) := by decide +kernel
theorem dX8_number_5 : decode cX8_number 5 = .ok (.invokevirtual 48, 3) := by decide +kernel
theorem dX8_number_8 : decode cX8_number 8 = .ok (.ifCond .ne 5, 3) := by decide +kernel
theorem dX8_number_11 : decode cX8_number 11 = .ok (.iconst (-1), 1) := by decide +kernel
theorem dX8_number_12 : decode cX8_number 12 = .ok (.ireturn, 1) := by decide +kernel
theorem dX8_number_13 : decode cX8_number 13 = .ok (.iload_n 2, 1) := by decide +kernel
theorem dX8_number_14 : decode cX8_number 14 = .ok (.ifCond .lt 9, 3) := by decide +kernel
theorem dX8_number_17 : decode cX8_number 17 = .ok (.iload_n 2, 1) := by decide +kernel
theorem dX8_number_18 : decode cX8_number 18 = .ok (.bipush 99, 2) := by decide +kernel
theorem dX8_number_20 : decode cX8_number 20 = .ok (.if_icmp .le 6, 3) := by decide +kernel
theorem dX8_number_23 : decode cX8_number 23 = .ok (.bipush (-2), 2) := by decide +kernel
theorem dX8_number_25 : decode cX8_number 25 = .ok (.ireturn, 1) := by decide +kernel
theorem dX8_number_26 : decode cX8_number 26 = .ok (.aload_n 0, 1) := by decide +kernel
theorem dX8_number_27 : decode cX8_number 27 = .ok (.getfield 12, 3) := by decide +kernel
theorem dX8_number_30 : decode cX8_number 30 = .ok (.getfield 52, 3) := by decide +kernel
theorem dX8_number_33 : decode cX8_number 33 = .ok (.iload_n 1, 1) := by decide +kernel
theorem dX8_number_34 : decode cX8_number 34 = .ok (.invokestatic 56, 3) := by decide +kernel
theorem dX8_number_37 : decode cX8_number 37 = .ok (.istore_n 3, 1) := by decide +kernel
theorem dX8_number_38 : decode cX8_number 38 = .ok (.aload_n 0, 1) := by decide +kernel
theorem dX8_number_39 : decode cX8_number 39 = .ok (.getfield 12, 3) := by decide +kernel
theorem dX8_number_42 : decode cX8_number 42 = .ok (.aload_n 0, 1) := by decide +kernel
theorem dX8_number_43 : decode cX8_number 43 = .ok (.getfield 12, 3) := by decide +kernel
theorem dX8_number_46 : decode cX8_number 46 = .ok (.getfield 52, 3) := by decide +kernel
theorem dX8_number_49 : decode cX8_number 49 = .ok (.iload_n 1, 1) := by decide +kernel
theorem dX8_number_50 : decode cX8_number 50 = .ok (.iload_n 2, 1) := by decide +kernel
theorem dX8_number_51 : decode cX8_number 51 = .ok (.invokestatic 62, 3) := by decide +kernel
theorem dX8_number_54 : decode cX8_number 54 = .ok (.putfield 52, 3) := by decide +kernel
theorem dX8_number_57 : decode cX8_number 57 = .ok (.iload_n 3, 1) := by decide +kernel
theorem dX8_number_58 : decode cX8_number 58 = .ok (.ireturn, 1) := by decide +kernel
set_option maxRecDepth 20000 in
theorem ggX8_say_X4_add : GoodIn wsX8_say wsX4_add := goodIn_r _ [7, 8, 9, 17, 18, 19, 20] (by decide +kernel) (by decide +kernel)
set_option maxRecDepth 20000 in
theorem gX8_say_X4_add : GoodIn wsX8_say (wsV RX8 66 RX4 yX4_add wsX4_add) := goodIn_app (goodIn_of _ (by decide +kernel)) ggX8_say_X4_add
theorem dX8_say_0 : decode cX8_say 0 = .ok (.iload_n 1, 1) := by decide +kernel
theorem dX8_say_1 : decode cX8_say 1 = .ok (.bipush 33, 2) := by decide +kernel
theorem dX8_say_3 : decode cX8_say 3 = .ok (.if_icmp .lt 9, 3) := by decide +kernel
theorem dX8_say_6 : decode cX8_say 6 = .ok (.iload_n 1, 1) := by decide +kernel
theorem dX8_say_7 : decode cX8_say 7 = .ok (.bipush 126, 2) := by decide +kernel
theorem dX8_say_9 : decode cX8_say 9 = .ok (.if_icmp .le 6, 3) := by decide +kernel
theorem dX8_say_12 : decode cX8_say 12 = .ok (.bipush (-2), 2) := by decide +kernel
theorem dX8_say_14 : decode cX8_say 14 = .ok (.ireturn, 1) := by decide +kernel
theorem dX8_say_15 : decode cX8_say 15 = .ok (.aload_n 0, 1) := by decide +kernel
theorem dX8_say_16 : decode cX8_say 16 = .ok (.getfield 32, 3) := by decide +kernel
theorem dX8_say_19 : decode cX8_say 19 = .ok (.iload_n 1, 1) := by decide +kernel
theorem dX8_say_20 : decode cX8_say 20 = .ok (.invokevirtual 66, 3) := by decide +kernel
theorem dX8_say_23 : decode cX8_say 23 = .ok (.ifCond .eq 13, 3) := by decide +kernel
theorem dX8_say_26 : decode cX8_say 26 = .ok (.aload_n 0, 1) := by decide +kernel
theorem dX8_say_27 : decode cX8_say 27 = .ok (.getfield 32, 3) := by decide +kernel
theorem dX8_say_30 : decode cX8_say 30 = .ok (.getfield 69, 3) := by decide +kernel
theorem dX8_say_33 : decode cX8_say 33 = .ok (.goto 5, 3) := by decide +kernel
theorem dX8_say_36 : decode cX8_say 36 = .ok (.bipush (-4), 2) := by decide +kernel
theorem dX8_say_38 : decode cX8_say 38 = .ok (.ireturn, 1) := by decide +kernel
theorem dX8_wipe_0 : decode cX8_wipe 0 = .ok (.aload_n 0, 1) := by decide +kernel
theorem dX8_wipe_1 : decode cX8_wipe 1 = .ok (.getfield 32, 3) := by decide +kernel
theorem dX8_wipe_4 : decode cX8_wipe 4 = .ok (.getfield 69, 3) := by decide +kernel
theorem dX8_wipe_7 : decode cX8_wipe 7 = .ok (.istore_n 1, 1) := by decide +kernel
theorem dX8_wipe_8 : decode cX8_wipe 8 = .ok (.aload_n 0, 1) := by decide +kernel
theorem dX8_wipe_9 : decode cX8_wipe 9 = .ok (.getfield 32, 3) := by decide +kernel
theorem dX8_wipe_12 : decode cX8_wipe 12 = .ok (.iconst 0, 1) := by decide +kernel
theorem dX8_wipe_13 : decode cX8_wipe 13 = .ok (.putfield 69, 3) := by decide +kernel
theorem dX8_wipe_16 : decode cX8_wipe 16 = .ok (.iload_n 1, 1) := by decide +kernel
theorem dX8_wipe_17 : decode cX8_wipe 17 = .ok (.ireturn, 1) := by decide +kernel
set_option maxRecDepth 20000 in
theorem ggX8_fault_X4_firstFault : GoodIn wsX8_fault wsX4_firstFault := goodIn_r _ [6, 7, 8, 9, 10, 5, 11, 12, 13, 14, 15, 16, 24, 25, 26, 27] (by decide +kernel) (by decide +kernel)
set_option maxRecDepth 20000 in
theorem gX8_fault_X4_firstFault : GoodIn wsX8_fault (wsV RX8 72 RX4 yX4_firstFault wsX4_firstFault) := goodIn_app (goodIn_of _ (by decide +kernel)) ggX8_fault_X4_firstFault
theorem dX8_fault_0 : decode cX8_fault 0 = .ok (.aload_n 0, 1) := by decide +kernel
theorem dX8_fault_1 : decode cX8_fault 1 = .ok (.getfield 32, 3) := by decide +kernel
theorem dX8_fault_4 : decode cX8_fault 4 = .ok (.invokevirtual 72, 3) := by decide +kernel
theorem dX8_fault_7 : decode cX8_fault 7 = .ok (.ireturn, 1) := by decide +kernel
set_option maxRecDepth 20000 in
theorem ggX8_judge_X4_firstFault : GoodIn wsX8_judge wsX4_firstFault := goodIn_r _ [9, 10, 11, 12, 13, 8, 14, 15, 16, 17, 18, 19, 77, 78, 79, 80] (by decide +kernel) (by decide +kernel)
set_option maxRecDepth 20000 in
theorem gX8_judge_X4_firstFault : GoodIn wsX8_judge (wsV RX8 72 RX4 yX4_firstFault wsX4_firstFault) := goodIn_app (goodIn_of _ (by decide +kernel)) ggX8_judge_X4_firstFault
set_option maxRecDepth 20000 in
theorem ggX8_judge_X4_gaps : GoodIn wsX8_judge wsX4_gaps := goodIn_r _ [23, 10, 11, 12, 13, 8, 14, 15, 77, 78, 79, 80] (by decide +kernel) (by decide +kernel)
set_option maxRecDepth 20000 in
theorem gX8_judge_X4_gaps : GoodIn wsX8_judge (wsV RX8 76 RX4 yX4_gaps wsX4_gaps) := goodIn_app (goodIn_of _ (by decide +kernel)) ggX8_judge_X4_gaps
set_option maxRecDepth 20000 in
theorem ggX8_judge_X4_pass : GoodIn wsX8_judge wsX4_pass := goodIn_r _ [27, 28, 29, 10, 30, 21, 22, 8, 23, 11, 12, 13, 14, 15, 16, 17, 18, 19, 31, 32, 33, 34, 35, 36, 37, 38, 39, 40, 41, 42, 43, 44, 45, 46, 47, 48, 49, 50, 51, 52, 53, 54, 55, 56, 57, 58, 59, 60, 61, 62, 63, 77, 78, 79, 80] (by decide +kernel) (by decide +kernel)
set_option maxRecDepth 20000 in
theorem gX8_judge_X4_pass : GoodIn wsX8_judge (wsV RX8 85 RX4 yX4_pass wsX4_pass) := goodIn_app (goodIn_of _ (by decide +kernel)) ggX8_judge_X4_pass
theorem dX8_judge_0 : decode cX8_judge 0 = .ok (.aload_n 0, 1) := by decide +kernel
theorem dX8_judge_1 : decode cX8_judge 1 = .ok (.getfield 32, 3) := by decide +kernel
theorem dX8_judge_4 : decode cX8_judge 4 = .ok (.invokevirtual 72, 3) := by decide +kernel
theorem dX8_judge_7 : decode cX8_judge 7 = .ok (.bipush (-6), 2) := by decide +kernel
theorem dX8_judge_9 : decode cX8_judge 9 = .ok (.if_icmp .eq 6, 3) := by decide +kernel
theorem dX8_judge_12 : decode cX8_judge 12 = .ok (.bipush (-5), 2) := by decide +kernel
theorem dX8_judge_14 : decode cX8_judge 14 = .ok (.ireturn, 1) := by decide +kernel
theorem dX8_judge_15 : decode cX8_judge 15 = .ok (.aload_n 0, 1) := by decide +kernel
theorem dX8_judge_16 : decode cX8_judge 16 = .ok (.getfield 32, 3) := by decide +kernel
theorem dX8_judge_19 : decode cX8_judge 19 = .ok (.invokevirtual 76, 3) := by decide +kernel
theorem dX8_judge_22 : decode cX8_judge 22 = .ok (.ifCond .le 6, 3) := by decide +kernel
theorem dX8_judge_25 : decode cX8_judge 25 = .ok (.bipush (-3), 2) := by decide +kernel
theorem dX8_judge_27 : decode cX8_judge 27 = .ok (.ireturn, 1) := by decide +kernel
theorem dX8_judge_28 : decode cX8_judge 28 = .ok (.aload_n 0, 1) := by decide +kernel
theorem dX8_judge_29 : decode cX8_judge 29 = .ok (.getfield 32, 3) := by decide +kernel
theorem dX8_judge_32 : decode cX8_judge 32 = .ok (.aload_n 0, 1) := by decide +kernel
theorem dX8_judge_33 : decode cX8_judge 33 = .ok (.getfield 12, 3) := by decide +kernel
theorem dX8_judge_36 : decode cX8_judge 36 = .ok (.getfield 79, 3) := by decide +kernel
theorem dX8_judge_39 : decode cX8_judge 39 = .ok (.aload_n 0, 1) := by decide +kernel
theorem dX8_judge_40 : decode cX8_judge 40 = .ok (.getfield 12, 3) := by decide +kernel
theorem dX8_judge_43 : decode cX8_judge 43 = .ok (.getfield 82, 3) := by decide +kernel
theorem dX8_judge_46 : decode cX8_judge 46 = .ok (.iconst 0, 1) := by decide +kernel
theorem dX8_judge_47 : decode cX8_judge 47 = .ok (.invokevirtual 85, 3) := by decide +kernel
theorem dX8_judge_50 : decode cX8_judge 50 = .ok (.ireturn, 1) := by decide +kernel
set_option maxRecDepth 20000 in
theorem ggX8_done_X8_refusalOfDay : GoodIn wsX8_done wsX8_refusalOfDay := goodIn_r _ [12, 1, 2, 4, 6, 13, 14, 15, 16, 17, 18, 19, 20, 21, 22, 23, 24, 25, 26, 27, 28, 29, 30, 31, 32, 33, 34, 35, 36, 37, 38, 39, 40, 41, 42, 43, 44, 45, 46, 47, 48, 49, 50, 51, 52, 53, 54, 55, 56, 57, 58, 59, 60, 61, 62, 63, 64, 65, 66, 67, 68, 69, 70, 71, 76, 77, 78, 79, 80, 81, 82, 87, 88, 89, 90, 91, 92, 83, 84, 85, 86] (by decide +kernel) (by decide +kernel)
set_option maxRecDepth 20000 in
theorem gX8_done_X8_refusalOfDay : GoodIn wsX8_done (wsV RX8 89 RX8 yX8_refusalOfDay wsX8_refusalOfDay) := goodIn_app (goodIn_of _ (by decide +kernel)) ggX8_done_X8_refusalOfDay
set_option maxRecDepth 20000 in
theorem ggX8_done_X4_events : GoodIn wsX8_done wsX4_events := goodIn_r _ [75, 18, 19, 20, 21, 16, 22, 23, 24, 25, 26, 27, 83, 84, 85, 86] (by decide +kernel) (by decide +kernel)
set_option maxRecDepth 20000 in
theorem gX8_done_X4_events : GoodIn wsX8_done (wsV RX8 92 RX4 yX4_events wsX4_events) := goodIn_app (goodIn_of _ (by decide +kernel)) ggX8_done_X4_events
theorem dX8_done_0 : decode cX8_done 0 = .ok (.aload_n 0, 1) := by decide +kernel
theorem dX8_done_1 : decode cX8_done 1 = .ok (.invokevirtual 89, 3) := by decide +kernel
theorem dX8_done_4 : decode cX8_done 4 = .ok (.istore_n 1, 1) := by decide +kernel
theorem dX8_done_5 : decode cX8_done 5 = .ok (.iload_n 1, 1) := by decide +kernel
theorem dX8_done_6 : decode cX8_done 6 = .ok (.bipush (-6), 2) := by decide +kernel
theorem dX8_done_8 : decode cX8_done 8 = .ok (.if_icmp .eq 5, 3) := by decide +kernel
theorem dX8_done_11 : decode cX8_done 11 = .ok (.iload_n 1, 1) := by decide +kernel
theorem dX8_done_12 : decode cX8_done 12 = .ok (.ireturn, 1) := by decide +kernel
theorem dX8_done_13 : decode cX8_done 13 = .ok (.aload_n 0, 1) := by decide +kernel
theorem dX8_done_14 : decode cX8_done 14 = .ok (.getfield 32, 3) := by decide +kernel
theorem dX8_done_17 : decode cX8_done 17 = .ok (.invokevirtual 92, 3) := by decide +kernel
theorem dX8_done_20 : decode cX8_done 20 = .ok (.istore_n 2, 1) := by decide +kernel
theorem dX8_done_21 : decode cX8_done 21 = .ok (.aload_n 0, 1) := by decide +kernel
theorem dX8_done_22 : decode cX8_done 22 = .ok (.getfield 12, 3) := by decide +kernel
theorem dX8_done_25 : decode cX8_done 25 = .ok (.aload_n 0, 1) := by decide +kernel
theorem dX8_done_26 : decode cX8_done 26 = .ok (.getfield 32, 3) := by decide +kernel
theorem dX8_done_29 : decode cX8_done 29 = .ok (.getfield 95, 3) := by decide +kernel
theorem dX8_done_32 : decode cX8_done 32 = .ok (.putfield 79, 3) := by decide +kernel
theorem dX8_done_35 : decode cX8_done 35 = .ok (.aload_n 0, 1) := by decide +kernel
theorem dX8_done_36 : decode cX8_done 36 = .ok (.getfield 12, 3) := by decide +kernel
theorem dX8_done_39 : decode cX8_done 39 = .ok (.aload_n 0, 1) := by decide +kernel
theorem dX8_done_40 : decode cX8_done 40 = .ok (.getfield 32, 3) := by decide +kernel
theorem dX8_done_43 : decode cX8_done 43 = .ok (.getfield 98, 3) := by decide +kernel
theorem dX8_done_46 : decode cX8_done 46 = .ok (.putfield 82, 3) := by decide +kernel
theorem dX8_done_49 : decode cX8_done 49 = .ok (.aload_n 0, 1) := by decide +kernel
theorem dX8_done_50 : decode cX8_done 50 = .ok (.getfield 32, 3) := by decide +kernel
theorem dX8_done_53 : decode cX8_done 53 = .ok (.iconst 0, 1) := by decide +kernel
theorem dX8_done_54 : decode cX8_done 54 = .ok (.putfield 69, 3) := by decide +kernel
theorem dX8_done_57 : decode cX8_done 57 = .ok (.iload_n 2, 1) := by decide +kernel
theorem dX8_done_58 : decode cX8_done 58 = .ok (.ireturn, 1) := by decide +kernel
set_option maxRecDepth 20000 in
theorem ggX8_at_X6_who : GoodIn wsX8_at wsX6_who := goodIn_r _ [7] (by decide +kernel) (by decide +kernel)
set_option maxRecDepth 20000 in
theorem gX8_at_X6_who : GoodIn wsX8_at (va_wsS RX8 101 yX6_who wsX6_who) := goodIn_app (goodIn_of _ (by decide +kernel)) ggX8_at_X6_who
theorem dX8_at_0 : decode cX8_at 0 = .ok (.iload_n 1, 1) := by decide +kernel
theorem dX8_at_1 : decode cX8_at 1 = .ok (.ifCond .lt 14, 3) := by decide +kernel
theorem dX8_at_4 : decode cX8_at 4 = .ok (.iload_n 1, 1) := by decide +kernel
theorem dX8_at_5 : decode cX8_at 5 = .ok (.aload_n 0, 1) := by decide +kernel
theorem dX8_at_6 : decode cX8_at 6 = .ok (.getfield 12, 3) := by decide +kernel
theorem dX8_at_9 : decode cX8_at 9 = .ok (.getfield 82, 3) := by decide +kernel
theorem dX8_at_12 : decode cX8_at 12 = .ok (.if_icmp .lt 5, 3) := by decide +kernel
theorem dX8_at_15 : decode cX8_at 15 = .ok (.iconst (-1), 1) := by decide +kernel
theorem dX8_at_16 : decode cX8_at 16 = .ok (.ireturn, 1) := by decide +kernel
theorem dX8_at_17 : decode cX8_at 17 = .ok (.aload_n 0, 1) := by decide +kernel
theorem dX8_at_18 : decode cX8_at 18 = .ok (.getfield 12, 3) := by decide +kernel
theorem dX8_at_21 : decode cX8_at 21 = .ok (.getfield 79, 3) := by decide +kernel
theorem dX8_at_24 : decode cX8_at 24 = .ok (.iload_n 1, 1) := by decide +kernel
theorem dX8_at_25 : decode cX8_at 25 = .ok (.invokestatic 101, 3) := by decide +kernel
theorem dX8_at_28 : decode cX8_at 28 = .ok (.ireturn, 1) := by decide +kernel
set_option maxRecDepth 20000 in
theorem ggX8_behind_X8_refusalOfDay : GoodIn wsX8_behind wsX8_refusalOfDay := goodIn_r _ [8, 1, 9, 10, 11, 12, 13, 14, 15, 16, 17, 18, 19, 20, 21, 22, 23, 24, 25, 26, 27, 28, 29, 30, 31, 32, 33, 34, 35, 36, 37, 38, 39, 40, 41, 42, 43, 44, 45, 46, 47, 48, 49, 50, 51, 52, 53, 54, 55, 56, 57, 58, 59, 60, 61, 62, 63, 64, 65, 66, 67, 68, 69, 70, 72, 73, 74, 75, 76, 77, 78, 83, 84, 85, 86, 87, 88, 79, 80, 81, 82] (by decide +kernel) (by decide +kernel)
set_option maxRecDepth 20000 in
theorem gX8_behind_X8_refusalOfDay : GoodIn wsX8_behind (wsV RX8 89 RX8 yX8_refusalOfDay wsX8_refusalOfDay) := goodIn_app (goodIn_of _ (by decide +kernel)) ggX8_behind_X8_refusalOfDay
set_option maxRecDepth 20000 in
theorem ggX8_behind_X6_who : GoodIn wsX8_behind wsX6_who := goodIn_r _ [58] (by decide +kernel) (by decide +kernel)
set_option maxRecDepth 20000 in
theorem gX8_behind_X6_who : GoodIn wsX8_behind (va_wsS RX8 101 yX6_who wsX6_who) := goodIn_app (goodIn_of _ (by decide +kernel)) ggX8_behind_X6_who
theorem dX8_behind_0 : decode cX8_behind 0 = .ok (.aload_n 0, 1) := by decide +kernel
theorem dX8_behind_1 : decode cX8_behind 1 = .ok (.invokevirtual 89, 3) := by decide +kernel
theorem dX8_behind_4 : decode cX8_behind 4 = .ok (.istore_n 2, 1) := by decide +kernel
theorem dX8_behind_5 : decode cX8_behind 5 = .ok (.iload_n 2, 1) := by decide +kernel
theorem dX8_behind_6 : decode cX8_behind 6 = .ok (.bipush (-6), 2) := by decide +kernel
theorem dX8_behind_8 : decode cX8_behind 8 = .ok (.if_icmp .eq 5, 3) := by decide +kernel
theorem dX8_behind_11 : decode cX8_behind 11 = .ok (.iload_n 2, 1) := by decide +kernel
theorem dX8_behind_12 : decode cX8_behind 12 = .ok (.ireturn, 1) := by decide +kernel
theorem dX8_behind_13 : decode cX8_behind 13 = .ok (.iload_n 1, 1) := by decide +kernel
theorem dX8_behind_14 : decode cX8_behind 14 = .ok (.iconst (-1), 1) := by decide +kernel
theorem dX8_behind_15 : decode cX8_behind 15 = .ok (.if_icmp .ne 11, 3) := by decide +kernel
theorem dX8_behind_18 : decode cX8_behind 18 = .ok (.aload_n 0, 1) := by decide +kernel
theorem dX8_behind_19 : decode cX8_behind 19 = .ok (.getfield 32, 3) := by decide +kernel
theorem dX8_behind_22 : decode cX8_behind 22 = .ok (.getfield 98, 3) := by decide +kernel
theorem dX8_behind_25 : decode cX8_behind 25 = .ok (.ireturn, 1) := by decide +kernel
theorem dX8_behind_26 : decode cX8_behind 26 = .ok (.iload_n 1, 1) := by decide +kernel
theorem dX8_behind_27 : decode cX8_behind 27 = .ok (.ifCond .lt 14, 3) := by decide +kernel
theorem dX8_behind_30 : decode cX8_behind 30 = .ok (.iload_n 1, 1) := by decide +kernel
theorem dX8_behind_31 : decode cX8_behind 31 = .ok (.aload_n 0, 1) := by decide +kernel
theorem dX8_behind_32 : decode cX8_behind 32 = .ok (.getfield 32, 3) := by decide +kernel
theorem dX8_behind_35 : decode cX8_behind 35 = .ok (.getfield 98, 3) := by decide +kernel
theorem dX8_behind_38 : decode cX8_behind 38 = .ok (.if_icmp .lt 6, 3) := by decide +kernel
theorem dX8_behind_41 : decode cX8_behind 41 = .ok (.bipush (-6), 2) := by decide +kernel
theorem dX8_behind_43 : decode cX8_behind 43 = .ok (.ireturn, 1) := by decide +kernel
theorem dX8_behind_44 : decode cX8_behind 44 = .ok (.aload_n 0, 1) := by decide +kernel
theorem dX8_behind_45 : decode cX8_behind 45 = .ok (.getfield 32, 3) := by decide +kernel
theorem dX8_behind_48 : decode cX8_behind 48 = .ok (.getfield 95, 3) := by decide +kernel
theorem dX8_behind_51 : decode cX8_behind 51 = .ok (.iload_n 1, 1) := by decide +kernel
theorem dX8_behind_52 : decode cX8_behind 52 = .ok (.invokestatic 101, 3) := by decide +kernel
theorem dX8_behind_55 : decode cX8_behind 55 = .ok (.ireturn, 1) := by decide +kernel
set_option maxRecDepth 20000 in
theorem ggX8_taught_X1_line : GoodIn wsX8_taught wsX1_line := goodIn_r _ [11, 12, 13, 14, 15, 16, 17, 18, 19, 20, 21, 22, 23, 24, 25, 26, 136, 137, 138, 139, 140, 141] (by decide +kernel) (by decide +kernel)
set_option maxRecDepth 20000 in
theorem gX8_taught_X1_line : GoodIn wsX8_taught (wsV RX8 107 RX1 yX1_line wsX1_line) := goodIn_app (goodIn_of _ (by decide +kernel)) ggX8_taught_X1_line
set_option maxRecDepth 20000 in
theorem ggX8_taught_X2_asBits : GoodIn wsX8_taught wsX2_asBits := goodIn_r _ [30, 31, 32, 29, 33, 34, 35, 36, 37, 38, 39, 17, 40, 41, 42, 43, 23, 24, 25, 26, 44, 45, 46, 47, 48, 49, 50, 51, 52, 53, 54, 55, 56, 57, 58, 59, 60, 61, 62, 63, 64, 65, 66] (by decide +kernel) (by decide +kernel)
set_option maxRecDepth 20000 in
theorem gX8_taught_X2_asBits : GoodIn wsX8_taught (va_wsS RX8 111 yX2_asBits wsX2_asBits) := goodIn_app (goodIn_of _ (by decide +kernel)) ggX8_taught_X2_asBits
set_option maxRecDepth 20000 in
theorem ggX8_taught_X8_refusalOfDay : GoodIn wsX8_taught wsX8_refusalOfDay := goodIn_r _ [71, 4, 1, 72, 2, 73, 74, 75, 76, 77, 78, 79, 80, 81, 82, 83, 84, 85, 86, 87, 88, 89, 90, 91, 92, 93, 94, 95, 96, 97, 98, 99, 100, 50, 101, 102, 103, 104, 105, 106, 107, 108, 109, 110, 21, 111, 112, 113, 114, 115, 20, 22, 116, 117, 118, 119, 120, 121, 122, 123, 124, 125, 126, 127, 129, 130, 131, 132, 133, 134, 135, 136, 137, 138, 139, 140, 141, 142, 143, 144, 145] (by decide +kernel) (by decide +kernel)
set_option maxRecDepth 20000 in
theorem gX8_taught_X8_refusalOfDay : GoodIn wsX8_taught (wsV RX8 89 RX8 yX8_refusalOfDay wsX8_refusalOfDay) := goodIn_app (goodIn_of _ (by decide +kernel)) ggX8_taught_X8_refusalOfDay
set_option maxRecDepth 20000 in
theorem ggX8_taught_X3_inOrder : GoodIn wsX8_taught wsX3_inOrder := goodIn_r _ [18, 19, 20, 21, 22, 23, 24, 17, 25, 26] (by decide +kernel) (by decide +kernel)
set_option maxRecDepth 20000 in
theorem gX8_taught_X3_inOrder : GoodIn wsX8_taught (va_wsS RX8 116 yX3_inOrder wsX3_inOrder) := goodIn_app (goodIn_of _ (by decide +kernel)) ggX8_taught_X3_inOrder
theorem dX8_taught_0 : decode cX8_taught 0 = .ok (.iload_n 1, 1) := by decide +kernel
theorem dX8_taught_1 : decode cX8_taught 1 = .ok (.ifCond .lt 8, 3) := by decide +kernel
theorem dX8_taught_4 : decode cX8_taught 4 = .ok (.iload_n 1, 1) := by decide +kernel
theorem dX8_taught_5 : decode cX8_taught 5 = .ok (.iconst 1, 1) := by decide +kernel
theorem dX8_taught_6 : decode cX8_taught 6 = .ok (.if_icmp .le 6, 3) := by decide +kernel
theorem dX8_taught_9 : decode cX8_taught 9 = .ok (.bipush (-2), 2) := by decide +kernel
theorem dX8_taught_11 : decode cX8_taught 11 = .ok (.ireturn, 1) := by decide +kernel
theorem dX8_taught_12 : decode cX8_taught 12 = .ok (.iload_n 1, 1) := by decide +kernel
theorem dX8_taught_13 : decode cX8_taught 13 = .ok (.ifCond .ne 21, 3) := by decide +kernel
theorem dX8_taught_16 : decode cX8_taught 16 = .ok (.aload_n 0, 1) := by decide +kernel
theorem dX8_taught_17 : decode cX8_taught 17 = .ok (.getfield 12, 3) := by decide +kernel
theorem dX8_taught_20 : decode cX8_taught 20 = .ok (.invokevirtual 107, 3) := by decide +kernel
theorem dX8_taught_23 : decode cX8_taught 23 = .ok (.aload_n 0, 1) := by decide +kernel
theorem dX8_taught_24 : decode cX8_taught 24 = .ok (.getfield 12, 3) := by decide +kernel
theorem dX8_taught_27 : decode cX8_taught 27 = .ok (.getfield 82, 3) := by decide +kernel
theorem dX8_taught_30 : decode cX8_taught 30 = .ok (.invokestatic 111, 3) := by decide +kernel
theorem dX8_taught_33 : decode cX8_taught 33 = .ok (.ireturn, 1) := by decide +kernel
theorem dX8_taught_34 : decode cX8_taught 34 = .ok (.aload_n 0, 1) := by decide +kernel
theorem dX8_taught_35 : decode cX8_taught 35 = .ok (.invokevirtual 89, 3) := by decide +kernel
theorem dX8_taught_38 : decode cX8_taught 38 = .ok (.istore_n 2, 1) := by decide +kernel
theorem dX8_taught_39 : decode cX8_taught 39 = .ok (.iload_n 2, 1) := by decide +kernel
theorem dX8_taught_40 : decode cX8_taught 40 = .ok (.bipush (-6), 2) := by decide +kernel
theorem dX8_taught_42 : decode cX8_taught 42 = .ok (.if_icmp .eq 5, 3) := by decide +kernel
theorem dX8_taught_45 : decode cX8_taught 45 = .ok (.iload_n 2, 1) := by decide +kernel
theorem dX8_taught_46 : decode cX8_taught 46 = .ok (.ireturn, 1) := by decide +kernel
theorem dX8_taught_47 : decode cX8_taught 47 = .ok (.aload_n 0, 1) := by decide +kernel
theorem dX8_taught_48 : decode cX8_taught 48 = .ok (.getfield 12, 3) := by decide +kernel
theorem dX8_taught_51 : decode cX8_taught 51 = .ok (.getfield 52, 3) := by decide +kernel
theorem dX8_taught_54 : decode cX8_taught 54 = .ok (.aload_n 0, 1) := by decide +kernel
theorem dX8_taught_55 : decode cX8_taught 55 = .ok (.getfield 32, 3) := by decide +kernel
theorem dX8_taught_58 : decode cX8_taught 58 = .ok (.getfield 95, 3) := by decide +kernel
theorem dX8_taught_61 : decode cX8_taught 61 = .ok (.aload_n 0, 1) := by decide +kernel
theorem dX8_taught_62 : decode cX8_taught 62 = .ok (.getfield 32, 3) := by decide +kernel
theorem dX8_taught_65 : decode cX8_taught 65 = .ok (.getfield 98, 3) := by decide +kernel
theorem dX8_taught_68 : decode cX8_taught 68 = .ok (.invokestatic 116, 3) := by decide +kernel
theorem dX8_taught_71 : decode cX8_taught 71 = .ok (.aload_n 0, 1) := by decide +kernel
theorem dX8_taught_72 : decode cX8_taught 72 = .ok (.getfield 32, 3) := by decide +kernel
theorem dX8_taught_75 : decode cX8_taught 75 = .ok (.getfield 98, 3) := by decide +kernel
theorem dX8_taught_78 : decode cX8_taught 78 = .ok (.invokestatic 111, 3) := by decide +kernel
theorem dX8_taught_81 : decode cX8_taught 81 = .ok (.ireturn, 1) := by decide +kernel
set_option maxRecDepth 20000 in
theorem ggX8_read_X1_line : GoodIn wsX8_read wsX1_line := goodIn_r _ [7, 8, 9, 10, 11, 12, 13, 14, 15, 16, 17, 18, 19, 20, 21, 22, 42, 43, 44, 45, 46, 47] (by decide +kernel) (by decide +kernel)
set_option maxRecDepth 20000 in
theorem gX8_read_X1_line : GoodIn wsX8_read (wsV RX8 107 RX1 yX1_line wsX1_line) := goodIn_app (goodIn_of _ (by decide +kernel)) ggX8_read_X1_line
set_option maxRecDepth 20000 in
theorem ggX8_read_X3_stretches : GoodIn wsX8_read wsX3_stretches := goodIn_r _ [25, 26, 27, 13, 28, 19, 20, 21, 22] (by decide +kernel) (by decide +kernel)
set_option maxRecDepth 20000 in
theorem gX8_read_X3_stretches : GoodIn wsX8_read (va_wsS RX8 119 yX3_stretches wsX3_stretches) := goodIn_app (goodIn_of _ (by decide +kernel)) ggX8_read_X3_stretches
set_option maxRecDepth 20000 in
theorem ggX8_read_X3_firstStretch : GoodIn wsX8_read wsX3_firstStretch := goodIn_r _ [31, 26, 27, 13, 28, 19, 20, 21, 22] (by decide +kernel) (by decide +kernel)
set_option maxRecDepth 20000 in
theorem gX8_read_X3_firstStretch : GoodIn wsX8_read (va_wsS RX8 123 yX3_firstStretch wsX3_firstStretch) := goodIn_app (goodIn_of _ (by decide +kernel)) ggX8_read_X3_firstStretch
set_option maxRecDepth 20000 in
theorem ggX8_read_X3_shortestStretch : GoodIn wsX8_read wsX3_shortestStretch := goodIn_r _ [34, 26, 27, 13, 28, 19, 20, 21, 22] (by decide +kernel) (by decide +kernel)
set_option maxRecDepth 20000 in
theorem gX8_read_X3_shortestStretch : GoodIn wsX8_read (va_wsS RX8 126 yX3_shortestStretch wsX3_shortestStretch) := goodIn_app (goodIn_of _ (by decide +kernel)) ggX8_read_X3_shortestStretch
theorem dX8_read_0 : decode cX8_read 0 = .ok (.iload_n 1, 1) := by decide +kernel
theorem dX8_read_1 : decode cX8_read 1 = .ok (.ifCond .lt 19, 3) := by decide +kernel
theorem dX8_read_4 : decode cX8_read 4 = .ok (.iload_n 1, 1) := by decide +kernel
theorem dX8_read_5 : decode cX8_read 5 = .ok (.sipush 693, 3) := by decide +kernel
theorem dX8_read_8 : decode cX8_read 8 = .ok (.if_icmp .gt 12, 3) := by decide +kernel
theorem dX8_read_11 : decode cX8_read 11 = .ok (.iload_n 2, 1) := by decide +kernel
theorem dX8_read_12 : decode cX8_read 12 = .ok (.ifCond .lt 8, 3) := by decide +kernel
theorem dX8_read_15 : decode cX8_read 15 = .ok (.iload_n 2, 1) := by decide +kernel
theorem dX8_read_16 : decode cX8_read 16 = .ok (.iconst 2, 1) := by decide +kernel
theorem dX8_read_17 : decode cX8_read 17 = .ok (.if_icmp .le 6, 3) := by decide +kernel
theorem dX8_read_20 : decode cX8_read 20 = .ok (.bipush (-2), 2) := by decide +kernel
theorem dX8_read_22 : decode cX8_read 22 = .ok (.ireturn, 1) := by decide +kernel
theorem dX8_read_23 : decode cX8_read 23 = .ok (.aload_n 0, 1) := by decide +kernel
theorem dX8_read_24 : decode cX8_read 24 = .ok (.getfield 12, 3) := by decide +kernel
theorem dX8_read_27 : decode cX8_read 27 = .ok (.invokevirtual 107, 3) := by decide +kernel
theorem dX8_read_30 : decode cX8_read 30 = .ok (.lstore_n 3, 1) := by decide +kernel
theorem dX8_read_31 : decode cX8_read 31 = .ok (.iload_n 2, 1) := by decide +kernel
theorem dX8_read_32 : decode cX8_read 32 = .ok (.ifCond .ne 16, 3) := by decide +kernel
theorem dX8_read_35 : decode cX8_read 35 = .ok (.lload_n 3, 1) := by decide +kernel
theorem dX8_read_36 : decode cX8_read 36 = .ok (.aload_n 0, 1) := by decide +kernel
theorem dX8_read_37 : decode cX8_read 37 = .ok (.getfield 12, 3) := by decide +kernel
theorem dX8_read_40 : decode cX8_read 40 = .ok (.getfield 82, 3) := by decide +kernel
theorem dX8_read_43 : decode cX8_read 43 = .ok (.iload_n 1, 1) := by decide +kernel
theorem dX8_read_44 : decode cX8_read 44 = .ok (.invokestatic 119, 3) := by decide +kernel
theorem dX8_read_47 : decode cX8_read 47 = .ok (.ireturn, 1) := by decide +kernel
theorem dX8_read_48 : decode cX8_read 48 = .ok (.iload_n 2, 1) := by decide +kernel
theorem dX8_read_49 : decode cX8_read 49 = .ok (.iconst 1, 1) := by decide +kernel
theorem dX8_read_50 : decode cX8_read 50 = .ok (.if_icmp .ne 18, 3) := by decide +kernel
theorem dX8_read_53 : decode cX8_read 53 = .ok (.lload_n 3, 1) := by decide +kernel
theorem dX8_read_54 : decode cX8_read 54 = .ok (.aload_n 0, 1) := by decide +kernel
theorem dX8_read_55 : decode cX8_read 55 = .ok (.getfield 12, 3) := by decide +kernel
theorem dX8_read_58 : decode cX8_read 58 = .ok (.getfield 82, 3) := by decide +kernel
theorem dX8_read_61 : decode cX8_read 61 = .ok (.iload_n 1, 1) := by decide +kernel
theorem dX8_read_62 : decode cX8_read 62 = .ok (.invokestatic 123, 3) := by decide +kernel
theorem dX8_read_65 : decode cX8_read 65 = .ok (.goto 15, 3) := by decide +kernel
theorem dX8_read_68 : decode cX8_read 68 = .ok (.lload_n 3, 1) := by decide +kernel
theorem dX8_read_69 : decode cX8_read 69 = .ok (.aload_n 0, 1) := by decide +kernel
theorem dX8_read_70 : decode cX8_read 70 = .ok (.getfield 12, 3) := by decide +kernel
theorem dX8_read_73 : decode cX8_read 73 = .ok (.getfield 82, 3) := by decide +kernel
theorem dX8_read_76 : decode cX8_read 76 = .ok (.iload_n 1, 1) := by decide +kernel
theorem dX8_read_77 : decode cX8_read 77 = .ok (.invokestatic 126, 3) := by decide +kernel
theorem dX8_read_80 : decode cX8_read 80 = .ok (.ireturn, 1) := by decide +kernel
set_option maxRecDepth 20000 in
theorem ggX8_longest_X1_line : GoodIn wsX8_longest wsX1_line := goodIn_r _ [7, 8, 9, 10, 11, 12, 13, 14, 15, 16, 17, 18, 19, 20, 21, 22, 37, 38, 39, 40, 41, 42] (by decide +kernel) (by decide +kernel)
set_option maxRecDepth 20000 in
theorem gX8_longest_X1_line : GoodIn wsX8_longest (wsV RX8 107 RX1 yX1_line wsX1_line) := goodIn_app (goodIn_of _ (by decide +kernel)) ggX8_longest_X1_line
set_option maxRecDepth 20000 in
theorem ggX8_longest_X3_longestRise : GoodIn wsX8_longest wsX3_longestRise := goodIn_r _ [25, 26, 27, 28, 29, 19, 20, 13, 21, 22] (by decide +kernel) (by decide +kernel)
set_option maxRecDepth 20000 in
theorem gX8_longest_X3_longestRise : GoodIn wsX8_longest (va_wsS RX8 129 yX3_longestRise wsX3_longestRise) := goodIn_app (goodIn_of _ (by decide +kernel)) ggX8_longest_X3_longestRise
theorem dX8_longest_0 : decode cX8_longest 0 = .ok (.aload_n 0, 1) := by decide +kernel
theorem dX8_longest_1 : decode cX8_longest 1 = .ok (.getfield 12, 3) := by decide +kernel
theorem dX8_longest_4 : decode cX8_longest 4 = .ok (.invokevirtual 107, 3) := by decide +kernel
theorem dX8_longest_7 : decode cX8_longest 7 = .ok (.aload_n 0, 1) := by decide +kernel
theorem dX8_longest_8 : decode cX8_longest 8 = .ok (.getfield 12, 3) := by decide +kernel
theorem dX8_longest_11 : decode cX8_longest 11 = .ok (.getfield 82, 3) := by decide +kernel
theorem dX8_longest_14 : decode cX8_longest 14 = .ok (.invokestatic 129, 3) := by decide +kernel
theorem dX8_longest_17 : decode cX8_longest 17 = .ok (.ireturn, 1) := by decide +kernel
set_option maxRecDepth 20000 in
theorem ggX8_plan_X8_isLesson : GoodIn wsX8_plan wsX8_isLesson := goodIn_r _ [5] (by decide +kernel) (by decide +kernel)
set_option maxRecDepth 20000 in
theorem gX8_plan_X8_isLesson : GoodIn wsX8_plan (va_wsS RX8 132 yX8_isLesson wsX8_isLesson) := goodIn_app (goodIn_of _ (by decide +kernel)) ggX8_plan_X8_isLesson
set_option maxRecDepth 20000 in
theorem ggX8_plan_X8_routesOfNow : GoodIn wsX8_plan wsX8_routesOfNow := goodIn_r _ [9, 10, 11, 12, 13, 1, 14, 15, 16, 17, 18, 19, 20, 21, 22, 23, 24, 25, 26, 27, 28, 29, 30, 31, 32, 33, 34, 35, 36, 37, 38, 39, 40, 41, 42, 43, 44, 45, 46, 47, 48, 49, 50, 51, 52, 53, 54, 55, 56, 57, 58, 59, 60, 61, 62, 63, 64, 65, 66, 67, 68, 69, 70, 71, 72, 73, 74, 75, 76, 77, 78, 79, 80, 81, 82, 83, 155, 156, 157, 158, 159, 160, 161, 162, 163, 164, 165, 166, 167, 168, 169, 170, 171, 172, 173, 174] (by decide +kernel) (by decide +kernel)
set_option maxRecDepth 20000 in
theorem gX8_plan_X8_routesOfNow : GoodIn wsX8_plan (wsV RX8 135 RX8 yX8_routesOfNow wsX8_routesOfNow) := goodIn_app (goodIn_of _ (by decide +kernel)) ggX8_plan_X8_routesOfNow
set_option maxRecDepth 20000 in
theorem ggX8_plan_X1_line : GoodIn wsX8_plan wsX1_line := goodIn_r _ [88, 89, 90, 91, 92, 93, 94, 95, 96, 70, 39, 71, 97, 98, 99, 100, 169, 170, 171, 172, 173, 174] (by decide +kernel) (by decide +kernel)
set_option maxRecDepth 20000 in
theorem gX8_plan_X1_line : GoodIn wsX8_plan (wsV RX8 107 RX1 yX1_line wsX1_line) := goodIn_app (goodIn_of _ (by decide +kernel)) ggX8_plan_X1_line
set_option maxRecDepth 20000 in
theorem ggX8_plan_X5_firstTaught : GoodIn wsX8_plan wsX5_firstTaught := goodIn_r _ [104, 23, 24, 55, 56, 57, 13, 58, 21, 105, 93, 94, 95, 96, 70, 39, 71, 97, 98, 99, 100, 106, 107, 108, 109, 110, 111, 112, 113, 114, 115, 116, 117, 118, 119, 120, 121, 122, 123, 124, 125, 126, 127, 128, 129, 130, 131, 132, 133, 134, 135, 136, 137, 138, 139, 140, 141, 142, 162, 163, 164, 165, 166, 167, 168] (by decide +kernel) (by decide +kernel)
set_option maxRecDepth 20000 in
theorem gX8_plan_X5_firstTaught : GoodIn wsX8_plan (wsV RX8 139 RX5 yX5_firstTaught wsX5_firstTaught) := goodIn_app (goodIn_of _ (by decide +kernel)) ggX8_plan_X5_firstTaught
set_option maxRecDepth 20000 in
theorem ggX8_plan_X5_length : GoodIn wsX8_plan wsX5_length := goodIn_r _ [146, 147, 148, 149, 13, 150, 22, 162, 163, 164, 165, 166, 167, 168] (by decide +kernel) (by decide +kernel)
set_option maxRecDepth 20000 in
theorem gX8_plan_X5_length : GoodIn wsX8_plan (wsV RX8 145 RX5 yX5_length wsX5_length) := goodIn_app (goodIn_of _ (by decide +kernel)) ggX8_plan_X5_length
set_option maxRecDepth 20000 in
theorem ggX8_plan_X5_event : GoodIn wsX8_plan wsX5_event := goodIn_r _ [154, 147, 148, 149, 13, 150, 22, 162, 163, 164, 165, 166, 167, 168] (by decide +kernel) (by decide +kernel)
set_option maxRecDepth 20000 in
theorem gX8_plan_X5_event : GoodIn wsX8_plan (wsV RX8 149 RX5 yX5_event wsX5_event) := goodIn_app (goodIn_of _ (by decide +kernel)) ggX8_plan_X5_event
theorem dX8_plan_0 : decode cX8_plan 0 = .ok (.iload_n 1, 1) := by decide +kernel
theorem dX8_plan_1 : decode cX8_plan 1 = .ok (.invokestatic 132, 3) := by decide +kernel
theorem dX8_plan_4 : decode cX8_plan 4 = .ok (.ifCond .ne 6, 3) := by decide +kernel
theorem dX8_plan_7 : decode cX8_plan 7 = .ok (.bipush (-2), 2) := by decide +kernel
theorem dX8_plan_9 : decode cX8_plan 9 = .ok (.ireturn, 1) := by decide +kernel
theorem dX8_plan_10 : decode cX8_plan 10 = .ok (.aload_n 0, 1) := by decide +kernel
theorem dX8_plan_11 : decode cX8_plan 11 = .ok (.invokevirtual 135, 3) := by decide +kernel
theorem dX8_plan_14 : decode cX8_plan 14 = .ok (.astore_n 3, 1) := by decide +kernel
theorem dX8_plan_15 : decode cX8_plan 15 = .ok (.aload_n 3, 1) := by decide +kernel
theorem dX8_plan_16 : decode cX8_plan 16 = .ok (.iload_n 1, 1) := by decide +kernel
theorem dX8_plan_17 : decode cX8_plan 17 = .ok (.aload_n 0, 1) := by decide +kernel
theorem dX8_plan_18 : decode cX8_plan 18 = .ok (.getfield 12, 3) := by decide +kernel
theorem dX8_plan_21 : decode cX8_plan 21 = .ok (.invokevirtual 107, 3) := by decide +kernel
theorem dX8_plan_24 : decode cX8_plan 24 = .ok (.invokevirtual 139, 3) := by decide +kernel
theorem dX8_plan_27 : decode cX8_plan 27 = .ok (.istore 4, 2) := by decide +kernel
theorem dX8_plan_29 : decode cX8_plan 29 = .ok (.iload 4, 2) := by decide +kernel
theorem dX8_plan_31 : decode cX8_plan 31 = .ok (.ifCond .ge 6, 3) := by decide +kernel
theorem dX8_plan_34 : decode cX8_plan 34 = .ok (.bipush (-6), 2) := by decide +kernel
theorem dX8_plan_36 : decode cX8_plan 36 = .ok (.ireturn, 1) := by decide +kernel
theorem dX8_plan_37 : decode cX8_plan 37 = .ok (.aload_n 3, 1) := by decide +kernel
theorem dX8_plan_38 : decode cX8_plan 38 = .ok (.iload 4, 2) := by decide +kernel
theorem dX8_plan_40 : decode cX8_plan 40 = .ok (.invokevirtual 145, 3) := by decide +kernel
theorem dX8_plan_43 : decode cX8_plan 43 = .ok (.istore 5, 2) := by decide +kernel
theorem dX8_plan_45 : decode cX8_plan 45 = .ok (.iload_n 2, 1) := by decide +kernel
theorem dX8_plan_46 : decode cX8_plan 46 = .ok (.iconst (-1), 1) := by decide +kernel
theorem dX8_plan_47 : decode cX8_plan 47 = .ok (.if_icmp .ne 6, 3) := by decide +kernel
theorem dX8_plan_50 : decode cX8_plan 50 = .ok (.iload 5, 2) := by decide +kernel
theorem dX8_plan_52 : decode cX8_plan 52 = .ok (.ireturn, 1) := by decide +kernel
theorem dX8_plan_53 : decode cX8_plan 53 = .ok (.iload_n 2, 1) := by decide +kernel
theorem dX8_plan_54 : decode cX8_plan 54 = .ok (.ifCond .lt 9, 3) := by decide +kernel
theorem dX8_plan_57 : decode cX8_plan 57 = .ok (.iload_n 2, 1) := by decide +kernel
theorem dX8_plan_58 : decode cX8_plan 58 = .ok (.iload 5, 2) := by decide +kernel
theorem dX8_plan_60 : decode cX8_plan 60 = .ok (.if_icmp .lt 8, 3) := by decide +kernel
theorem dX8_plan_63 : decode cX8_plan 63 = .ok (.bipush (-6), 2) := by decide +kernel
theorem dX8_plan_65 : decode cX8_plan 65 = .ok (.goto 15, 3) := by decide +kernel
theorem dX8_plan_68 : decode cX8_plan 68 = .ok (.aload_n 3, 1) := by decide +kernel
theorem dX8_plan_69 : decode cX8_plan 69 = .ok (.iload 4, 2) := by decide +kernel
theorem dX8_plan_71 : decode cX8_plan 71 = .ok (.iload 5, 2) := by decide +kernel
theorem dX8_plan_73 : decode cX8_plan 73 = .ok (.iconst 1, 1) := by decide +kernel
theorem dX8_plan_74 : decode cX8_plan 74 = .ok (.isub, 1) := by decide +kernel
theorem dX8_plan_75 : decode cX8_plan 75 = .ok (.iload_n 2, 1) := by decide +kernel
theorem dX8_plan_76 : decode cX8_plan 76 = .ok (.isub, 1) := by decide +kernel
theorem dX8_plan_77 : decode cX8_plan 77 = .ok (.invokevirtual 149, 3) := by decide +kernel
theorem dX8_plan_80 : decode cX8_plan 80 = .ok (.ireturn, 1) := by decide +kernel
set_option maxRecDepth 20000 in
theorem ggX8_week_X8_areLessons : GoodIn wsX8_week wsX8_areLessons := goodIn_r _ [5, 6, 7, 8, 9, 10, 11, 12, 13, 14, 4, 15] (by decide +kernel) (by decide +kernel)
set_option maxRecDepth 20000 in
theorem gX8_week_X8_areLessons : GoodIn wsX8_week (va_wsS RX8 152 yX8_areLessons wsX8_areLessons) := goodIn_app (goodIn_of _ (by decide +kernel)) ggX8_week_X8_areLessons
set_option maxRecDepth 20000 in
theorem ggX8_week_X8_routesOfNow : GoodIn wsX8_week wsX8_routesOfNow := goodIn_r _ [19, 20, 21, 22, 23, 1, 24, 25, 26, 27, 28, 29, 30, 31, 32, 33, 34, 35, 36, 37, 38, 39, 40, 41, 42, 43, 44, 45, 46, 47, 48, 49, 50, 51, 52, 53, 54, 55, 56, 57, 58, 59, 60, 61, 62, 63, 64, 65, 66, 67, 68, 69, 70, 71, 72, 73, 74, 75, 76, 77, 78, 79, 80, 81, 82, 83, 84, 85, 86, 87, 88, 89, 90, 91, 92, 93, 174, 175, 176, 177, 178, 179, 180, 181, 182, 183, 184, 185, 186, 187, 188, 189, 190, 191, 192, 193] (by decide +kernel) (by decide +kernel)
set_option maxRecDepth 20000 in
theorem gX8_week_X8_routesOfNow : GoodIn wsX8_week (wsV RX8 135 RX8 yX8_routesOfNow wsX8_routesOfNow) := goodIn_app (goodIn_of _ (by decide +kernel)) ggX8_week_X8_routesOfNow
set_option maxRecDepth 20000 in
theorem ggX8_week_X1_line : GoodIn wsX8_week wsX1_line := goodIn_r _ [98, 99, 100, 101, 102, 103, 104, 105, 106, 80, 49, 81, 107, 108, 109, 110, 188, 189, 190, 191, 192, 193] (by decide +kernel) (by decide +kernel)
set_option maxRecDepth 20000 in
theorem gX8_week_X1_line : GoodIn wsX8_week (wsV RX8 107 RX1 yX1_line wsX1_line) := goodIn_app (goodIn_of _ (by decide +kernel)) ggX8_week_X1_line
set_option maxRecDepth 20000 in
theorem ggX8_week_X5_fewestInTurn : GoodIn wsX8_week wsX5_fewestInTurn := goodIn_r _ [114, 36, 38, 34, 37, 115, 116, 117, 23, 118, 119, 11, 8, 12, 120, 121, 122, 123, 33, 65, 66, 67, 68, 31, 124, 103, 104, 105, 106, 80, 49, 81, 107, 108, 109, 110, 125, 126, 127, 128, 129, 130, 131, 132, 133, 134, 135, 136, 137, 138, 139, 140, 141, 142, 143, 144, 145, 146, 147, 148, 149, 150, 151, 152, 153, 154, 155, 156, 157, 158, 159, 160, 43, 44, 45, 46, 47, 48, 50, 161, 162, 163, 164, 55, 56, 57, 58, 59, 60, 165, 166, 167, 168, 169, 170, 171, 172, 173, 69, 70, 71, 72, 73, 74, 75, 76, 77, 78, 79, 82, 83, 84, 85, 86, 87, 88, 89, 90, 91, 92, 93, 181, 182, 183, 184, 185, 186, 187] (by decide +kernel) (by decide +kernel)
set_option maxRecDepth 20000 in
theorem gX8_week_X5_fewestInTurn : GoodIn wsX8_week (wsV RX8 156 RX5 yX5_fewestInTurn wsX5_fewestInTurn) := goodIn_app (goodIn_of _ (by decide +kernel)) ggX8_week_X5_fewestInTurn
theorem dX8_week_0 : decode cX8_week 0 = .ok (.iload_n 2, 1) := by decide +kernel
theorem dX8_week_1 : decode cX8_week 1 = .ok (.iconst 1, 1) := by decide +kernel
theorem dX8_week_2 : decode cX8_week 2 = .ok (.if_icmp .lt 16, 3) := by decide +kernel
theorem dX8_week_5 : decode cX8_week 5 = .ok (.iload_n 2, 1) := by decide +kernel
theorem dX8_week_6 : decode cX8_week 6 = .ok (.iconst 4, 1) := by decide +kernel
theorem dX8_week_7 : decode cX8_week 7 = .ok (.if_icmp .gt 11, 3) := by decide +kernel
theorem dX8_week_10 : decode cX8_week 10 = .ok (.iload_n 1, 1) := by decide +kernel
theorem dX8_week_11 : decode cX8_week 11 = .ok (.iload_n 2, 1) := by decide +kernel
theorem dX8_week_12 : decode cX8_week 12 = .ok (.invokestatic 152, 3) := by decide +kernel
theorem dX8_week_15 : decode cX8_week 15 = .ok (.ifCond .ne 6, 3) := by decide +kernel
theorem dX8_week_18 : decode cX8_week 18 = .ok (.bipush (-2), 2) := by decide +kernel
theorem dX8_week_20 : decode cX8_week 20 = .ok (.ireturn, 1) := by decide +kernel
theorem dX8_week_21 : decode cX8_week 21 = .ok (.aload_n 0, 1) := by decide +kernel
theorem dX8_week_22 : decode cX8_week 22 = .ok (.invokevirtual 135, 3) := by decide +kernel
theorem dX8_week_25 : decode cX8_week 25 = .ok (.iload_n 1, 1) := by decide +kernel
theorem dX8_week_26 : decode cX8_week 26 = .ok (.iload_n 2, 1) := by decide +kernel
theorem dX8_week_27 : decode cX8_week 27 = .ok (.aload_n 0, 1) := by decide +kernel
theorem dX8_week_28 : decode cX8_week 28 = .ok (.getfield 12, 3) := by decide +kernel
theorem dX8_week_31 : decode cX8_week 31 = .ok (.invokevirtual 107, 3) := by decide +kernel
theorem dX8_week_34 : decode cX8_week 34 = .ok (.invokevirtual 156, 3) := by decide +kernel
theorem dX8_week_37 : decode cX8_week 37 = .ok (.ireturn, 1) := by decide +kernel
set_option maxRecDepth 20000 in
theorem ggX8_sell_X8_isLesson : GoodIn wsX8_sell wsX8_isLesson := goodIn_r _ [8] (by decide +kernel) (by decide +kernel)
set_option maxRecDepth 20000 in
theorem gX8_sell_X8_isLesson : GoodIn wsX8_sell (va_wsS RX8 132 yX8_isLesson wsX8_isLesson) := goodIn_app (goodIn_of _ (by decide +kernel)) ggX8_sell_X8_isLesson
set_option maxRecDepth 20000 in
theorem ggX8_sell_X6_sold : GoodIn wsX8_sell wsX6_sold := goodIn_r _ [12] (by decide +kernel) (by decide +kernel)
set_option maxRecDepth 20000 in
theorem gX8_sell_X6_sold : GoodIn wsX8_sell (va_wsS RX8 160 yX6_sold wsX6_sold) := goodIn_app (goodIn_of _ (by decide +kernel)) ggX8_sell_X6_sold
set_option maxRecDepth 20000 in
theorem ggX8_sell_X3_inOrder : GoodIn wsX8_sell wsX3_inOrder := goodIn_r _ [16, 17, 18, 11, 19, 20, 21, 15, 22, 23] (by decide +kernel) (by decide +kernel)
set_option maxRecDepth 20000 in
theorem gX8_sell_X3_inOrder : GoodIn wsX8_sell (va_wsS RX8 116 yX3_inOrder wsX3_inOrder) := goodIn_app (goodIn_of _ (by decide +kernel)) ggX8_sell_X3_inOrder
set_option maxRecDepth 20000 in
theorem ggX8_sell_X2_teach : GoodIn wsX8_sell wsX2_teach := goodIn_r _ [27, 28, 29, 30, 31, 32, 33, 15, 34, 35, 36, 37, 20, 21, 22, 23, 38, 39, 26, 40, 41, 42, 43, 44, 45, 46, 47, 48, 49, 50, 51, 52, 53, 54, 55, 56, 57, 58, 59, 60] (by decide +kernel) (by decide +kernel)
set_option maxRecDepth 20000 in
theorem gX8_sell_X2_teach : GoodIn wsX8_sell (va_wsS RX8 163 yX2_teach wsX2_teach) := goodIn_app (goodIn_of _ (by decide +kernel)) ggX8_sell_X2_teach
set_option maxRecDepth 20000 in
theorem ggX8_sell_X6_who : GoodIn wsX8_sell wsX6_who := goodIn_r _ [19] (by decide +kernel) (by decide +kernel)
set_option maxRecDepth 20000 in
theorem gX8_sell_X6_who : GoodIn wsX8_sell (va_wsS RX8 101 yX6_who wsX6_who) := goodIn_app (goodIn_of _ (by decide +kernel)) ggX8_sell_X6_who
theorem dX8_sell_0 : decode cX8_sell 0 = .ok (.iload_n 1, 1) := by decide +kernel
theorem dX8_sell_1 : decode cX8_sell 1 = .ok (.invokestatic 132, 3) := by decide +kernel
theorem dX8_sell_4 : decode cX8_sell 4 = .ok (.ifCond .ne 6, 3) := by decide +kernel
theorem dX8_sell_7 : decode cX8_sell 7 = .ok (.bipush (-2), 2) := by decide +kernel
theorem dX8_sell_9 : decode cX8_sell 9 = .ok (.ireturn, 1) := by decide +kernel
theorem dX8_sell_10 : decode cX8_sell 10 = .ok (.iconst 0, 1) := by decide +kernel
theorem dX8_sell_11 : decode cX8_sell 11 = .ok (.istore_n 2, 1) := by decide +kernel
theorem dX8_sell_12 : decode cX8_sell 12 = .ok (.aload_n 0, 1) := by decide +kernel
theorem dX8_sell_13 : decode cX8_sell 13 = .ok (.getfield 12, 3) := by decide +kernel
theorem dX8_sell_16 : decode cX8_sell 16 = .ok (.getfield 82, 3) := by decide +kernel
theorem dX8_sell_19 : decode cX8_sell 19 = .ok (.iconst 1, 1) := by decide +kernel
theorem dX8_sell_20 : decode cX8_sell 20 = .ok (.isub, 1) := by decide +kernel
theorem dX8_sell_21 : decode cX8_sell 21 = .ok (.istore_n 3, 1) := by decide +kernel
theorem dX8_sell_22 : decode cX8_sell 22 = .ok (.iconst 0, 1) := by decide +kernel
theorem dX8_sell_23 : decode cX8_sell 23 = .ok (.istore 4, 2) := by decide +kernel
theorem dX8_sell_25 : decode cX8_sell 25 = .ok (.iload_n 3, 1) := by decide +kernel
theorem dX8_sell_26 : decode cX8_sell 26 = .ok (.ifCond .le 67, 3) := by decide +kernel
theorem dX8_sell_29 : decode cX8_sell 29 = .ok (.iload 4, 2) := by decide +kernel
theorem dX8_sell_31 : decode cX8_sell 31 = .ok (.iload_n 3, 1) := by decide +kernel
theorem dX8_sell_32 : decode cX8_sell 32 = .ok (.if_icmp .gt 61, 3) := by decide +kernel
theorem dX8_sell_35 : decode cX8_sell 35 = .ok (.aload_n 0, 1) := by decide +kernel
theorem dX8_sell_36 : decode cX8_sell 36 = .ok (.getfield 12, 3) := by decide +kernel
theorem dX8_sell_39 : decode cX8_sell 39 = .ok (.getfield 52, 3) := by decide +kernel
theorem dX8_sell_42 : decode cX8_sell 42 = .ok (.aload_n 0, 1) := by decide +kernel
theorem dX8_sell_43 : decode cX8_sell 43 = .ok (.getfield 12, 3) := by decide +kernel
theorem dX8_sell_46 : decode cX8_sell 46 = .ok (.getfield 79, 3) := by decide +kernel
theorem dX8_sell_49 : decode cX8_sell 49 = .ok (.iload 4, 2) := by decide +kernel
theorem dX8_sell_51 : decode cX8_sell 51 = .ok (.invokestatic 160, 3) := by decide +kernel
theorem dX8_sell_54 : decode cX8_sell 54 = .ok (.iload_n 3, 1) := by decide +kernel
theorem dX8_sell_55 : decode cX8_sell 55 = .ok (.invokestatic 116, 3) := by decide +kernel
theorem dX8_sell_58 : decode cX8_sell 58 = .ok (.lstore 5, 2) := by decide +kernel
theorem dX8_sell_60 : decode cX8_sell 60 = .ok (.iload_n 1, 1) := by decide +kernel
theorem dX8_sell_61 : decode cX8_sell 61 = .ok (.lload 5, 2) := by decide +kernel
theorem dX8_sell_63 : decode cX8_sell 63 = .ok (.iload_n 3, 1) := by decide +kernel
theorem dX8_sell_64 : decode cX8_sell 64 = .ok (.invokestatic 163, 3) := by decide +kernel
theorem dX8_sell_67 : decode cX8_sell 67 = .ok (.ifCond .eq 20, 3) := by decide +kernel
theorem dX8_sell_70 : decode cX8_sell 70 = .ok (.iload_n 2, 1) := by decide +kernel
theorem dX8_sell_71 : decode cX8_sell 71 = .ok (.iconst 1, 1) := by decide +kernel
theorem dX8_sell_72 : decode cX8_sell 72 = .ok (.aload_n 0, 1) := by decide +kernel
theorem dX8_sell_73 : decode cX8_sell 73 = .ok (.getfield 12, 3) := by decide +kernel
theorem dX8_sell_76 : decode cX8_sell 76 = .ok (.getfield 79, 3) := by decide +kernel
theorem dX8_sell_79 : decode cX8_sell 79 = .ok (.iload 4, 2) := by decide +kernel
theorem dX8_sell_81 : decode cX8_sell 81 = .ok (.invokestatic 101, 3) := by decide +kernel
theorem dX8_sell_84 : decode cX8_sell 84 = .ok (.ishl, 1) := by decide +kernel
theorem dX8_sell_85 : decode cX8_sell 85 = .ok (.ior, 1) := by decide +kernel
theorem dX8_sell_86 : decode cX8_sell 86 = .ok (.istore_n 2, 1) := by decide +kernel
theorem dX8_sell_87 : decode cX8_sell 87 = .ok (.iinc 4 1, 3) := by decide +kernel
theorem dX8_sell_90 : decode cX8_sell 90 = .ok (.goto (-65), 3) := by decide +kernel
theorem dX8_sell_93 : decode cX8_sell 93 = .ok (.iload_n 2, 1) := by decide +kernel
theorem dX8_sell_94 : decode cX8_sell 94 = .ok (.ireturn, 1) := by decide +kernel
set_option maxRecDepth 20000 in
theorem ggX8_worn_X1_placeOf : GoodIn wsX8_worn wsX1_placeOf := goodIn_r _ [7, 8, 9, 10, 11, 12, 13, 80, 81, 82, 83, 84, 85] (by decide +kernel) (by decide +kernel)
set_option maxRecDepth 20000 in
theorem gX8_worn_X1_placeOf : GoodIn wsX8_worn (wsV RX8 167 RX1 yX1_placeOf wsX1_placeOf) := goodIn_app (goodIn_of _ (by decide +kernel)) ggX8_worn_X1_placeOf
set_option maxRecDepth 20000 in
theorem ggX8_worn_X8_isLesson : GoodIn wsX8_worn wsX8_isLesson := goodIn_r _ [17] (by decide +kernel) (by decide +kernel)
set_option maxRecDepth 20000 in
theorem gX8_worn_X8_isLesson : GoodIn wsX8_worn (va_wsS RX8 132 yX8_isLesson wsX8_isLesson) := goodIn_app (goodIn_of _ (by decide +kernel)) ggX8_worn_X8_isLesson
set_option maxRecDepth 20000 in
theorem ggX8_worn_X1_line : GoodIn wsX8_worn wsX1_line := goodIn_r _ [21, 22, 9, 8, 23, 24, 25, 26, 27, 11, 12, 13, 28, 29, 30, 31, 80, 81, 82, 83, 84, 85] (by decide +kernel) (by decide +kernel)
set_option maxRecDepth 20000 in
theorem gX8_worn_X1_line : GoodIn wsX8_worn (wsV RX8 107 RX1 yX1_line wsX1_line) := goodIn_app (goodIn_of _ (by decide +kernel)) ggX8_worn_X1_line
set_option maxRecDepth 20000 in
theorem ggX8_worn_X3_with : GoodIn wsX8_worn wsX3_with := goodIn_r _ [34, 31, 35] (by decide +kernel) (by decide +kernel)
set_option maxRecDepth 20000 in
theorem gX8_worn_X3_with : GoodIn wsX8_worn (va_wsS RX8 62 yX3_with wsX3_with) := goodIn_app (goodIn_of _ (by decide +kernel)) ggX8_worn_X3_with
set_option maxRecDepth 20000 in
theorem ggX8_worn_X2_teach : GoodIn wsX8_worn wsX2_teach := goodIn_r _ [39, 40, 41, 42, 43, 44, 45, 25, 46, 47, 48, 49, 28, 29, 30, 31, 50, 51, 38, 52, 53, 54, 55, 56, 57, 58, 59, 60, 61, 62, 63, 64, 65, 66, 67, 68, 69, 70, 71, 72] (by decide +kernel) (by decide +kernel)
set_option maxRecDepth 20000 in
theorem gX8_worn_X2_teach : GoodIn wsX8_worn (va_wsS RX8 163 yX2_teach wsX2_teach) := goodIn_app (goodIn_of _ (by decide +kernel)) ggX8_worn_X2_teach
theorem dX8_worn_0 : decode cX8_worn 0 = .ok (.aload_n 0, 1) := by decide +kernel
theorem dX8_worn_1 : decode cX8_worn 1 = .ok (.getfield 12, 3) := by decide +kernel
theorem dX8_worn_4 : decode cX8_worn 4 = .ok (.iload_n 1, 1) := by decide +kernel
theorem dX8_worn_5 : decode cX8_worn 5 = .ok (.invokevirtual 167, 3) := by decide +kernel
theorem dX8_worn_8 : decode cX8_worn 8 = .ok (.istore 4, 2) := by decide +kernel
theorem dX8_worn_10 : decode cX8_worn 10 = .ok (.iload 4, 2) := by decide +kernel
theorem dX8_worn_12 : decode cX8_worn 12 = .ok (.ifCond .ge 5, 3) := by decide +kernel
theorem dX8_worn_15 : decode cX8_worn 15 = .ok (.iconst (-1), 1) := by decide +kernel
theorem dX8_worn_16 : decode cX8_worn 16 = .ok (.ireturn, 1) := by decide +kernel
theorem dX8_worn_17 : decode cX8_worn 17 = .ok (.iload_n 2, 1) := by decide +kernel
theorem dX8_worn_18 : decode cX8_worn 18 = .ok (.invokestatic 132, 3) := by decide +kernel
theorem dX8_worn_21 : decode cX8_worn 21 = .ok (.ifCond .eq 12, 3) := by decide +kernel
theorem dX8_worn_24 : decode cX8_worn 24 = .ok (.iload_n 3, 1) := by decide +kernel
theorem dX8_worn_25 : decode cX8_worn 25 = .ok (.ifCond .lt 8, 3) := by decide +kernel
theorem dX8_worn_28 : decode cX8_worn 28 = .ok (.iload_n 3, 1) := by decide +kernel
theorem dX8_worn_29 : decode cX8_worn 29 = .ok (.iconst 2, 1) := by decide +kernel
theorem dX8_worn_30 : decode cX8_worn 30 = .ok (.if_icmp .le 6, 3) := by decide +kernel
theorem dX8_worn_33 : decode cX8_worn 33 = .ok (.bipush (-2), 2) := by decide +kernel
theorem dX8_worn_35 : decode cX8_worn 35 = .ok (.ireturn, 1) := by decide +kernel
theorem dX8_worn_36 : decode cX8_worn 36 = .ok (.aload_n 0, 1) := by decide +kernel
theorem dX8_worn_37 : decode cX8_worn 37 = .ok (.getfield 12, 3) := by decide +kernel
theorem dX8_worn_40 : decode cX8_worn 40 = .ok (.invokevirtual 107, 3) := by decide +kernel
theorem dX8_worn_43 : decode cX8_worn 43 = .ok (.lstore 5, 2) := by decide +kernel
theorem dX8_worn_45 : decode cX8_worn 45 = .ok (.iconst 0, 1) := by decide +kernel
theorem dX8_worn_46 : decode cX8_worn 46 = .ok (.istore 7, 2) := by decide +kernel
theorem dX8_worn_48 : decode cX8_worn 48 = .ok (.bipush (-6), 2) := by decide +kernel
theorem dX8_worn_50 : decode cX8_worn 50 = .ok (.istore 8, 2) := by decide +kernel
theorem dX8_worn_52 : decode cX8_worn 52 = .ok (.bipush (-6), 2) := by decide +kernel
theorem dX8_worn_54 : decode cX8_worn 54 = .ok (.istore 9, 2) := by decide +kernel
theorem dX8_worn_56 : decode cX8_worn 56 = .ok (.iconst 0, 1) := by decide +kernel
theorem dX8_worn_57 : decode cX8_worn 57 = .ok (.istore 10, 2) := by decide +kernel
theorem dX8_worn_59 : decode cX8_worn 59 = .ok (.iload 10, 2) := by decide +kernel
theorem dX8_worn_61 : decode cX8_worn 61 = .ok (.bipush 99, 2) := by decide +kernel
theorem dX8_worn_63 : decode cX8_worn 63 = .ok (.if_icmp .gt 53, 3) := by decide +kernel
theorem dX8_worn_66 : decode cX8_worn 66 = .ok (.iload_n 2, 1) := by decide +kernel
theorem dX8_worn_67 : decode cX8_worn 67 = .ok (.lload 5, 2) := by decide +kernel
theorem dX8_worn_69 : decode cX8_worn 69 = .ok (.iload 4, 2) := by decide +kernel
theorem dX8_worn_71 : decode cX8_worn 71 = .ok (.iload 10, 2) := by decide +kernel
theorem dX8_worn_73 : decode cX8_worn 73 = .ok (.invokestatic 62, 3) := by decide +kernel
theorem dX8_worn_76 : decode cX8_worn 76 = .ok (.aload_n 0, 1) := by decide +kernel
theorem dX8_worn_77 : decode cX8_worn 77 = .ok (.getfield 12, 3) := by decide +kernel
theorem dX8_worn_80 : decode cX8_worn 80 = .ok (.getfield 82, 3) := by decide +kernel
theorem dX8_worn_83 : decode cX8_worn 83 = .ok (.invokestatic 163, 3) := by decide +kernel
theorem dX8_worn_86 : decode cX8_worn 86 = .ok (.ifCond .eq 24, 3) := by decide +kernel
theorem dX8_worn_89 : decode cX8_worn 89 = .ok (.iload 7, 2) := by decide +kernel
theorem dX8_worn_91 : decode cX8_worn 91 = .ok (.ifCond .ne 8, 3) := by decide +kernel
theorem dX8_worn_94 : decode cX8_worn 94 = .ok (.iload 10, 2) := by decide +kernel
theorem dX8_worn_96 : decode cX8_worn 96 = .ok (.goto 5, 3) := by decide +kernel
theorem dX8_worn_99 : decode cX8_worn 99 = .ok (.iload 8, 2) := by decide +kernel
theorem dX8_worn_101 : decode cX8_worn 101 = .ok (.istore 8, 2) := by decide +kernel
theorem dX8_worn_103 : decode cX8_worn 103 = .ok (.iload 10, 2) := by decide +kernel
theorem dX8_worn_105 : decode cX8_worn 105 = .ok (.istore 9, 2) := by decide +kernel
theorem dX8_worn_107 : decode cX8_worn 107 = .ok (.iinc 7 1, 3) := by decide +kernel
theorem dX8_worn_110 : decode cX8_worn 110 = .ok (.iinc 10 1, 3) := by decide +kernel
theorem dX8_worn_113 : decode cX8_worn 113 = .ok (.goto (-54), 3) := by decide +kernel
theorem dX8_worn_116 : decode cX8_worn 116 = .ok (.iload_n 3, 1) := by decide +kernel
theorem dX8_worn_117 : decode cX8_worn 117 = .ok (.ifCond .ne 6, 3) := by decide +kernel
theorem dX8_worn_120 : decode cX8_worn 120 = .ok (.iload 7, 2) := by decide +kernel
theorem dX8_worn_122 : decode cX8_worn 122 = .ok (.ireturn, 1) := by decide +kernel
theorem dX8_worn_123 : decode cX8_worn 123 = .ok (.iload_n 3, 1) := by decide +kernel
theorem dX8_worn_124 : decode cX8_worn 124 = .ok (.iconst 1, 1) := by decide +kernel
theorem dX8_worn_125 : decode cX8_worn 125 = .ok (.if_icmp .ne 8, 3) := by decide +kernel
theorem dX8_worn_128 : decode cX8_worn 128 = .ok (.iload 8, 2) := by decide +kernel
theorem dX8_worn_130 : decode cX8_worn 130 = .ok (.goto 5, 3) := by decide +kernel
theorem dX8_worn_133 : decode cX8_worn 133 = .ok (.iload 9, 2) := by decide +kernel
theorem dX8_worn_135 : decode cX8_worn 135 = .ok (.ireturn, 1) := by decide +kernel
set_option maxRecDepth 20000 in
theorem ggX8_rivals_X1_line : GoodIn wsX8_rivals wsX1_line := goodIn_r _ [7, 8, 9, 10, 11, 12, 13, 14, 15, 16, 17, 18, 19, 20, 21, 22, 46, 47, 48, 49, 50, 51] (by decide +kernel) (by decide +kernel)
set_option maxRecDepth 20000 in
theorem gX8_rivals_X1_line : GoodIn wsX8_rivals (wsV RX8 107 RX1 yX1_line wsX1_line) := goodIn_app (goodIn_of _ (by decide +kernel)) ggX8_rivals_X1_line
set_option maxRecDepth 20000 in
theorem ggX8_rivals_X3_lead : GoodIn wsX8_rivals wsX3_lead := goodIn_r _ [24, 25, 26, 27, 28, 29, 30, 13, 31, 32, 33, 19, 20, 21, 22, 34, 23, 35] (by decide +kernel) (by decide +kernel)
set_option maxRecDepth 20000 in
theorem gX8_rivals_X3_lead_n170 : GoodIn wsX8_rivals (wsX3_lead) := ggX8_rivals_X3_lead
set_option maxRecDepth 20000 in
theorem ggX8_rivals_X3_sum : GoodIn wsX8_rivals wsX3_sum := goodIn_r _ [38, 19, 20, 13, 21, 22] (by decide +kernel) (by decide +kernel)
set_option maxRecDepth 20000 in
theorem gX8_rivals_X3_sum : GoodIn wsX8_rivals (va_wsS RX8 173 yX3_sum wsX3_sum) := goodIn_app (goodIn_of _ (by decide +kernel)) ggX8_rivals_X3_sum
set_option maxRecDepth 20000 in
theorem ggX8_rivals_X3_leadByFirst : GoodIn wsX8_rivals wsX3_leadByFirst := goodIn_r _ [33, 19, 20, 13, 21, 22, 34, 23, 24, 25, 26, 27, 28, 29, 30, 31, 32, 35] (by decide +kernel) (by decide +kernel)
set_option maxRecDepth 20000 in
theorem gX8_rivals_X3_leadByFirst_n176 : GoodIn wsX8_rivals (wsX3_leadByFirst) := ggX8_rivals_X3_leadByFirst
theorem dX8_rivals_0 : decode cX8_rivals 0 = .ok (.iload_n 1, 1) := by decide +kernel
theorem dX8_rivals_1 : decode cX8_rivals 1 = .ok (.ifCond .lt 8, 3) := by decide +kernel
theorem dX8_rivals_4 : decode cX8_rivals 4 = .ok (.iload_n 1, 1) := by decide +kernel
theorem dX8_rivals_5 : decode cX8_rivals 5 = .ok (.iconst 1, 1) := by decide +kernel
theorem dX8_rivals_6 : decode cX8_rivals 6 = .ok (.if_icmp .le 6, 3) := by decide +kernel
theorem dX8_rivals_9 : decode cX8_rivals 9 = .ok (.bipush (-2), 2) := by decide +kernel
theorem dX8_rivals_11 : decode cX8_rivals 11 = .ok (.ireturn, 1) := by decide +kernel
theorem dX8_rivals_12 : decode cX8_rivals 12 = .ok (.aload_n 0, 1) := by decide +kernel
theorem dX8_rivals_13 : decode cX8_rivals 13 = .ok (.getfield 12, 3) := by decide +kernel
theorem dX8_rivals_16 : decode cX8_rivals 16 = .ok (.invokevirtual 107, 3) := by decide +kernel
theorem dX8_rivals_19 : decode cX8_rivals 19 = .ok (.lstore_n 2, 1) := by decide +kernel
theorem dX8_rivals_20 : decode cX8_rivals 20 = .ok (.lload_n 2, 1) := by decide +kernel
theorem dX8_rivals_21 : decode cX8_rivals 21 = .ok (.aload_n 0, 1) := by decide +kernel
theorem dX8_rivals_22 : decode cX8_rivals 22 = .ok (.getfield 12, 3) := by decide +kernel
theorem dX8_rivals_25 : decode cX8_rivals 25 = .ok (.getfield 82, 3) := by decide +kernel
theorem dX8_rivals_28 : decode cX8_rivals 28 = .ok (.invokestatic 170, 3) := by decide +kernel
theorem dX8_rivals_31 : decode cX8_rivals 31 = .ok (.istore 4, 2) := by decide +kernel
theorem dX8_rivals_33 : decode cX8_rivals 33 = .ok (.iload_n 1, 1) := by decide +kernel
theorem dX8_rivals_34 : decode cX8_rivals 34 = .ok (.ifCond .ne 21, 3) := by decide +kernel
theorem dX8_rivals_37 : decode cX8_rivals 37 = .ok (.lload_n 2, 1) := by decide +kernel
theorem dX8_rivals_38 : decode cX8_rivals 38 = .ok (.iconst 0, 1) := by decide +kernel
theorem dX8_rivals_39 : decode cX8_rivals 39 = .ok (.aload_n 0, 1) := by decide +kernel
theorem dX8_rivals_40 : decode cX8_rivals 40 = .ok (.getfield 12, 3) := by decide +kernel
theorem dX8_rivals_43 : decode cX8_rivals 43 = .ok (.getfield 82, 3) := by decide +kernel
theorem dX8_rivals_46 : decode cX8_rivals 46 = .ok (.invokestatic 173, 3) := by decide +kernel
theorem dX8_rivals_49 : decode cX8_rivals 49 = .ok (.iload 4, 2) := by decide +kernel
theorem dX8_rivals_51 : decode cX8_rivals 51 = .ok (.iadd, 1) := by decide +kernel
theorem dX8_rivals_52 : decode cX8_rivals 52 = .ok (.iconst 2, 1) := by decide +kernel
theorem dX8_rivals_53 : decode cX8_rivals 53 = .ok (.idiv, 1) := by decide +kernel
theorem dX8_rivals_54 : decode cX8_rivals 54 = .ok (.ireturn, 1) := by decide +kernel
theorem dX8_rivals_55 : decode cX8_rivals 55 = .ok (.lload_n 2, 1) := by decide +kernel
theorem dX8_rivals_56 : decode cX8_rivals 56 = .ok (.aload_n 0, 1) := by decide +kernel
theorem dX8_rivals_57 : decode cX8_rivals 57 = .ok (.getfield 12, 3) := by decide +kernel
theorem dX8_rivals_60 : decode cX8_rivals 60 = .ok (.getfield 82, 3) := by decide +kernel
theorem dX8_rivals_63 : decode cX8_rivals 63 = .ok (.invokestatic 176, 3) := by decide +kernel
theorem dX8_rivals_66 : decode cX8_rivals 66 = .ok (.iload 4, 2) := by decide +kernel
theorem dX8_rivals_68 : decode cX8_rivals 68 = .ok (.if_icmp .ne 7, 3) := by decide +kernel
theorem dX8_rivals_71 : decode cX8_rivals 71 = .ok (.iconst 0, 1) := by decide +kernel
theorem dX8_rivals_72 : decode cX8_rivals 72 = .ok (.goto 4, 3) := by decide +kernel
theorem dX8_rivals_75 : decode cX8_rivals 75 = .ok (.iconst 1, 1) := by decide +kernel
theorem dX8_rivals_76 : decode cX8_rivals 76 = .ok (.ireturn, 1) := by decide +kernel
set_option maxRecDepth 20000 in
theorem ggX8_seen_X1_has : GoodIn wsX8_seen wsX1_has := goodIn_r _ [7, 8, 22, 23, 24, 25, 26, 27] (by decide +kernel) (by decide +kernel)
set_option maxRecDepth 20000 in
theorem gX8_seen_X1_has : GoodIn wsX8_seen (wsV RX8 48 RX1 yX1_has wsX1_has) := goodIn_app (goodIn_of _ (by decide +kernel)) ggX8_seen_X1_has
set_option maxRecDepth 20000 in
theorem ggX8_seen_X1_addSight : GoodIn wsX8_seen wsX1_addSight := goodIn_r _ [12, 13, 14, 22, 23, 24, 25, 26, 27] (by decide +kernel) (by decide +kernel)
set_option maxRecDepth 20000 in
theorem gX8_seen_X1_addSight : GoodIn wsX8_seen (wsV RX8 179 RX1 yX1_addSight wsX1_addSight) := goodIn_app (goodIn_of _ (by decide +kernel)) ggX8_seen_X1_addSight
theorem dX8_seen_0 : decode cX8_seen 0 = .ok (.aload_n 0, 1) := by decide +kernel
theorem dX8_seen_1 : decode cX8_seen 1 = .ok (.getfield 12, 3) := by decide +kernel
theorem dX8_seen_4 : decode cX8_seen 4 = .ok (.iload_n 1, 1) := by decide +kernel
theorem dX8_seen_5 : decode cX8_seen 5 = .ok (.invokevirtual 48, 3) := by decide +kernel
theorem dX8_seen_8 : decode cX8_seen 8 = .ok (.ifCond .ne 5, 3) := by decide +kernel
theorem dX8_seen_11 : decode cX8_seen 11 = .ok (.iconst (-1), 1) := by decide +kernel
theorem dX8_seen_12 : decode cX8_seen 12 = .ok (.ireturn, 1) := by decide +kernel
theorem dX8_seen_13 : decode cX8_seen 13 = .ok (.iload_n 2, 1) := by decide +kernel
theorem dX8_seen_14 : decode cX8_seen 14 = .ok (.ifCond .lt 9, 3) := by decide +kernel
theorem dX8_seen_17 : decode cX8_seen 17 = .ok (.iload_n 2, 1) := by decide +kernel
theorem dX8_seen_18 : decode cX8_seen 18 = .ok (.bipush 7, 2) := by decide +kernel
theorem dX8_seen_20 : decode cX8_seen 20 = .ok (.if_icmp .lt 6, 3) := by decide +kernel
theorem dX8_seen_23 : decode cX8_seen 23 = .ok (.bipush (-2), 2) := by decide +kernel
theorem dX8_seen_25 : decode cX8_seen 25 = .ok (.ireturn, 1) := by decide +kernel
theorem dX8_seen_26 : decode cX8_seen 26 = .ok (.aload_n 0, 1) := by decide +kernel
theorem dX8_seen_27 : decode cX8_seen 27 = .ok (.getfield 12, 3) := by decide +kernel
theorem dX8_seen_30 : decode cX8_seen 30 = .ok (.iload_n 1, 1) := by decide +kernel
theorem dX8_seen_31 : decode cX8_seen 31 = .ok (.iload_n 2, 1) := by decide +kernel
theorem dX8_seen_32 : decode cX8_seen 32 = .ok (.invokevirtual 179, 3) := by decide +kernel
theorem dX8_seen_35 : decode cX8_seen 35 = .ok (.ifCond .eq 13, 3) := by decide +kernel
theorem dX8_seen_38 : decode cX8_seen 38 = .ok (.aload_n 0, 1) := by decide +kernel
theorem dX8_seen_39 : decode cX8_seen 39 = .ok (.getfield 12, 3) := by decide +kernel
theorem dX8_seen_42 : decode cX8_seen 42 = .ok (.getfield 182, 3) := by decide +kernel
theorem dX8_seen_45 : decode cX8_seen 45 = .ok (.goto 5, 3) := by decide +kernel
theorem dX8_seen_48 : decode cX8_seen 48 = .ok (.bipush (-4), 2) := by decide +kernel
theorem dX8_seen_50 : decode cX8_seen 50 = .ok (.ireturn, 1) := by decide +kernel
set_option maxRecDepth 20000 in
theorem ggX8_forget_X1_dropSights : GoodIn wsX8_forget wsX1_dropSights := goodIn_r _ [7, 8, 9, 17, 18, 19, 20, 21, 22] (by decide +kernel) (by decide +kernel)
set_option maxRecDepth 20000 in
theorem gX8_forget_X1_dropSights : GoodIn wsX8_forget (wsV RX8 185 RX1 yX1_dropSights wsX1_dropSights) := goodIn_app (goodIn_of _ (by decide +kernel)) ggX8_forget_X1_dropSights
theorem dX8_forget_0 : decode cX8_forget 0 = .ok (.aload_n 0, 1) := by decide +kernel
theorem dX8_forget_1 : decode cX8_forget 1 = .ok (.getfield 12, 3) := by decide +kernel
theorem dX8_forget_4 : decode cX8_forget 4 = .ok (.getfield 182, 3) := by decide +kernel
theorem dX8_forget_7 : decode cX8_forget 7 = .ok (.istore_n 1, 1) := by decide +kernel
theorem dX8_forget_8 : decode cX8_forget 8 = .ok (.aload_n 0, 1) := by decide +kernel
theorem dX8_forget_9 : decode cX8_forget 9 = .ok (.getfield 12, 3) := by decide +kernel
theorem dX8_forget_12 : decode cX8_forget 12 = .ok (.invokevirtual 185, 3) := by decide +kernel
theorem dX8_forget_15 : decode cX8_forget 15 = .ok (.iload_n 1, 1) := by decide +kernel
theorem dX8_forget_16 : decode cX8_forget 16 = .ok (.ireturn, 1) := by decide +kernel
set_option maxRecDepth 20000 in
theorem ggX8_filled_X4_firstFault : GoodIn wsX8_filled wsX4_firstFault := goodIn_r _ [11, 12, 13, 14, 15, 10, 16, 17, 18, 19, 20, 21, 91, 92, 93, 94] (by decide +kernel) (by decide +kernel)
set_option maxRecDepth 20000 in
theorem gX8_filled_X4_firstFault : GoodIn wsX8_filled (wsV RX8 72 RX4 yX4_firstFault wsX4_firstFault) := goodIn_app (goodIn_of _ (by decide +kernel)) ggX8_filled_X4_firstFault
set_option maxRecDepth 20000 in
theorem ggX8_filled_X4_gaps : GoodIn wsX8_filled wsX4_gaps := goodIn_r _ [25, 12, 13, 14, 15, 10, 16, 17, 91, 92, 93, 94] (by decide +kernel) (by decide +kernel)
set_option maxRecDepth 20000 in
theorem gX8_filled_X4_gaps : GoodIn wsX8_filled (wsV RX8 76 RX4 yX4_gaps wsX4_gaps) := goodIn_app (goodIn_of _ (by decide +kernel)) ggX8_filled_X4_gaps
set_option maxRecDepth 20000 in
theorem ggX8_filled_X0_power : GoodIn wsX8_filled wsX0_power := goodIn_r _ [29] (by decide +kernel) (by decide +kernel)
set_option maxRecDepth 20000 in
theorem gX8_filled_X0_power : GoodIn wsX8_filled (va_wsS RX8 188 yX0_power wsX0_power) := goodIn_app (goodIn_of _ (by decide +kernel)) ggX8_filled_X0_power
set_option maxRecDepth 20000 in
theorem ggX8_filled_X4_pass : GoodIn wsX8_filled wsX4_pass := goodIn_r _ [33, 34, 35, 12, 36, 23, 24, 10, 25, 13, 14, 15, 16, 17, 18, 19, 20, 21, 37, 38, 28, 39, 40, 41, 42, 43, 44, 45, 46, 47, 48, 49, 50, 51, 52, 53, 54, 55, 56, 57, 58, 59, 60, 61, 62, 63, 64, 65, 66, 67, 68, 91, 92, 93, 94] (by decide +kernel) (by decide +kernel)
set_option maxRecDepth 20000 in
theorem gX8_filled_X4_pass : GoodIn wsX8_filled (wsV RX8 85 RX4 yX4_pass wsX4_pass) := goodIn_app (goodIn_of _ (by decide +kernel)) ggX8_filled_X4_pass
set_option maxRecDepth 20000 in
theorem ggX8_filled_X1_sightsHold : GoodIn wsX8_filled wsX1_sightsHold := goodIn_r _ [73, 74, 75, 76, 55, 49, 56, 85, 86, 87, 88, 89, 90] (by decide +kernel) (by decide +kernel)
set_option maxRecDepth 20000 in
theorem gX8_filled_X1_sightsHold : GoodIn wsX8_filled (wsV RX8 193 RX1 yX1_sightsHold wsX1_sightsHold) := goodIn_app (goodIn_of _ (by decide +kernel)) ggX8_filled_X1_sightsHold
set_option maxRecDepth 20000 in
theorem ggX8_filled_X0_digit : GoodIn wsX8_filled wsX0_digit := goodIn_r _ [39] (by decide +kernel) (by decide +kernel)
set_option maxRecDepth 20000 in
theorem gX8_filled_X0_digit : GoodIn wsX8_filled (va_wsS RX8 196 yX0_digit wsX0_digit) := goodIn_app (goodIn_of _ (by decide +kernel)) ggX8_filled_X0_digit
theorem dX8_filled_0 : decode cX8_filled 0 = .ok (.aload_n 0, 1) := by decide +kernel
theorem dX8_filled_1 : decode cX8_filled 1 = .ok (.getfield 32, 3) := by decide +kernel
theorem dX8_filled_4 : decode cX8_filled 4 = .ok (.invokevirtual 72, 3) := by decide +kernel
theorem dX8_filled_7 : decode cX8_filled 7 = .ok (.bipush (-6), 2) := by decide +kernel
theorem dX8_filled_9 : decode cX8_filled 9 = .ok (.if_icmp .eq 6, 3) := by decide +kernel
theorem dX8_filled_12 : decode cX8_filled 12 = .ok (.bipush (-5), 2) := by decide +kernel
theorem dX8_filled_14 : decode cX8_filled 14 = .ok (.ireturn, 1) := by decide +kernel
theorem dX8_filled_15 : decode cX8_filled 15 = .ok (.aload_n 0, 1) := by decide +kernel
theorem dX8_filled_16 : decode cX8_filled 16 = .ok (.getfield 32, 3) := by decide +kernel
theorem dX8_filled_19 : decode cX8_filled 19 = .ok (.invokevirtual 76, 3) := by decide +kernel
theorem dX8_filled_22 : decode cX8_filled 22 = .ok (.istore_n 2, 1) := by decide +kernel
theorem dX8_filled_23 : decode cX8_filled 23 = .ok (.aload_n 0, 1) := by decide +kernel
theorem dX8_filled_24 : decode cX8_filled 24 = .ok (.getfield 12, 3) := by decide +kernel
theorem dX8_filled_27 : decode cX8_filled 27 = .ok (.getfield 82, 3) := by decide +kernel
theorem dX8_filled_30 : decode cX8_filled 30 = .ok (.iload_n 2, 1) := by decide +kernel
theorem dX8_filled_31 : decode cX8_filled 31 = .ok (.invokestatic 188, 3) := by decide +kernel
theorem dX8_filled_34 : decode cX8_filled 34 = .ok (.istore_n 3, 1) := by decide +kernel
theorem dX8_filled_35 : decode cX8_filled 35 = .ok (.iconst 0, 1) := by decide +kernel
theorem dX8_filled_36 : decode cX8_filled 36 = .ok (.istore 4, 2) := by decide +kernel
theorem dX8_filled_38 : decode cX8_filled 38 = .ok (.iconst 0, 1) := by decide +kernel
theorem dX8_filled_39 : decode cX8_filled 39 = .ok (.istore 5, 2) := by decide +kernel
theorem dX8_filled_41 : decode cX8_filled 41 = .ok (.iconst 0, 1) := by decide +kernel
theorem dX8_filled_42 : decode cX8_filled 42 = .ok (.istore 6, 2) := by decide +kernel
theorem dX8_filled_44 : decode cX8_filled 44 = .ok (.iload 6, 2) := by decide +kernel
theorem dX8_filled_46 : decode cX8_filled 46 = .ok (.iload_n 3, 1) := by decide +kernel
theorem dX8_filled_47 : decode cX8_filled 47 = .ok (.if_icmp .ge 82, 3) := by decide +kernel
theorem dX8_filled_50 : decode cX8_filled 50 = .ok (.aload_n 0, 1) := by decide +kernel
theorem dX8_filled_51 : decode cX8_filled 51 = .ok (.getfield 32, 3) := by decide +kernel
theorem dX8_filled_54 : decode cX8_filled 54 = .ok (.aload_n 0, 1) := by decide +kernel
theorem dX8_filled_55 : decode cX8_filled 55 = .ok (.getfield 12, 3) := by decide +kernel
theorem dX8_filled_58 : decode cX8_filled 58 = .ok (.getfield 79, 3) := by decide +kernel
theorem dX8_filled_61 : decode cX8_filled 61 = .ok (.aload_n 0, 1) := by decide +kernel
theorem dX8_filled_62 : decode cX8_filled 62 = .ok (.getfield 12, 3) := by decide +kernel
theorem dX8_filled_65 : decode cX8_filled 65 = .ok (.getfield 82, 3) := by decide +kernel
theorem dX8_filled_68 : decode cX8_filled 68 = .ok (.iload 6, 2) := by decide +kernel
theorem dX8_filled_70 : decode cX8_filled 70 = .ok (.invokevirtual 85, 3) := by decide +kernel
theorem dX8_filled_73 : decode cX8_filled 73 = .ok (.istore 7, 2) := by decide +kernel
theorem dX8_filled_75 : decode cX8_filled 75 = .ok (.iload 7, 2) := by decide +kernel
theorem dX8_filled_77 : decode cX8_filled 77 = .ok (.bipush (-6), 2) := by decide +kernel
theorem dX8_filled_79 : decode cX8_filled 79 = .ok (.if_icmp .ne 44, 3) := by decide +kernel
theorem dX8_filled_82 : decode cX8_filled 82 = .ok (.aload_n 0, 1) := by decide +kernel
theorem dX8_filled_83 : decode cX8_filled 83 = .ok (.getfield 12, 3) := by decide +kernel
theorem dX8_filled_86 : decode cX8_filled 86 = .ok (.aload_n 0, 1) := by decide +kernel
theorem dX8_filled_87 : decode cX8_filled 87 = .ok (.getfield 32, 3) := by decide +kernel
theorem dX8_filled_90 : decode cX8_filled 90 = .ok (.getfield 95, 3) := by decide +kernel
theorem dX8_filled_93 : decode cX8_filled 93 = .ok (.aload_n 0, 1) := by decide +kernel
theorem dX8_filled_94 : decode cX8_filled 94 = .ok (.getfield 32, 3) := by decide +kernel
theorem dX8_filled_97 : decode cX8_filled 97 = .ok (.getfield 98, 3) := by decide +kernel
theorem dX8_filled_100 : decode cX8_filled 100 = .ok (.invokevirtual 193, 3) := by decide +kernel
theorem dX8_filled_103 : decode cX8_filled 103 = .ok (.ifCond .eq 20, 3) := by decide +kernel
theorem dX8_filled_106 : decode cX8_filled 106 = .ok (.iload 4, 2) := by decide +kernel
theorem dX8_filled_108 : decode cX8_filled 108 = .ok (.ifCond .ne 8, 3) := by decide +kernel
theorem dX8_filled_111 : decode cX8_filled 111 = .ok (.iload 6, 2) := by decide +kernel
theorem dX8_filled_113 : decode cX8_filled 113 = .ok (.goto 5, 3) := by decide +kernel
theorem dX8_filled_116 : decode cX8_filled 116 = .ok (.iload 5, 2) := by decide +kernel
theorem dX8_filled_118 : decode cX8_filled 118 = .ok (.istore 5, 2) := by decide +kernel
theorem dX8_filled_120 : decode cX8_filled 120 = .ok (.iinc 4 1, 3) := by decide +kernel
theorem dX8_filled_123 : decode cX8_filled 123 = .ok (.iinc 6 1, 3) := by decide +kernel
theorem dX8_filled_126 : decode cX8_filled 126 = .ok (.goto (-82), 3) := by decide +kernel
theorem dX8_filled_129 : decode cX8_filled 129 = .ok (.iload_n 1, 1) := by decide +kernel
theorem dX8_filled_130 : decode cX8_filled 130 = .ok (.iconst (-1), 1) := by decide +kernel
theorem dX8_filled_131 : decode cX8_filled 131 = .ok (.if_icmp .ne 6, 3) := by decide +kernel
theorem dX8_filled_134 : decode cX8_filled 134 = .ok (.iload 4, 2) := by decide +kernel
theorem dX8_filled_136 : decode cX8_filled 136 = .ok (.ireturn, 1) := by decide +kernel
theorem dX8_filled_137 : decode cX8_filled 137 = .ok (.iload 4, 2) := by decide +kernel
theorem dX8_filled_139 : decode cX8_filled 139 = .ok (.ifCond .eq 12, 3) := by decide +kernel
theorem dX8_filled_142 : decode cX8_filled 142 = .ok (.iload_n 1, 1) := by decide +kernel
theorem dX8_filled_143 : decode cX8_filled 143 = .ok (.ifCond .lt 8, 3) := by decide +kernel
theorem dX8_filled_146 : decode cX8_filled 146 = .ok (.iload_n 1, 1) := by decide +kernel
theorem dX8_filled_147 : decode cX8_filled 147 = .ok (.iload_n 2, 1) := by decide +kernel
theorem dX8_filled_148 : decode cX8_filled 148 = .ok (.if_icmp .lt 6, 3) := by decide +kernel
theorem dX8_filled_151 : decode cX8_filled 151 = .ok (.bipush (-6), 2) := by decide +kernel
theorem dX8_filled_153 : decode cX8_filled 153 = .ok (.ireturn, 1) := by decide +kernel
theorem dX8_filled_154 : decode cX8_filled 154 = .ok (.iload 5, 2) := by decide +kernel
theorem dX8_filled_156 : decode cX8_filled 156 = .ok (.aload_n 0, 1) := by decide +kernel
theorem dX8_filled_157 : decode cX8_filled 157 = .ok (.getfield 12, 3) := by decide +kernel
theorem dX8_filled_160 : decode cX8_filled 160 = .ok (.getfield 82, 3) := by decide +kernel
theorem dX8_filled_163 : decode cX8_filled 163 = .ok (.iload_n 2, 1) := by decide +kernel
theorem dX8_filled_164 : decode cX8_filled 164 = .ok (.iconst 1, 1) := by decide +kernel
theorem dX8_filled_165 : decode cX8_filled 165 = .ok (.isub, 1) := by decide +kernel
theorem dX8_filled_166 : decode cX8_filled 166 = .ok (.iload_n 1, 1) := by decide +kernel
theorem dX8_filled_167 : decode cX8_filled 167 = .ok (.isub, 1) := by decide +kernel
theorem dX8_filled_168 : decode cX8_filled 168 = .ok (.invokestatic 196, 3) := by decide +kernel
theorem dX8_filled_171 : decode cX8_filled 171 = .ok (.ireturn, 1) := by decide +kernel
set_option maxRecDepth 20000 in
theorem ggX8_pikes_X8_isLesson : GoodIn wsX8_pikes wsX8_isLesson := goodIn_r _ [8] (by decide +kernel) (by decide +kernel)
set_option maxRecDepth 20000 in
theorem gX8_pikes_X8_isLesson : GoodIn wsX8_pikes (va_wsS RX8 132 yX8_isLesson wsX8_isLesson) := goodIn_app (goodIn_of _ (by decide +kernel)) ggX8_pikes_X8_isLesson
set_option maxRecDepth 20000 in
theorem ggX8_pikes_X0_power : GoodIn wsX8_pikes wsX0_power := goodIn_r _ [12] (by decide +kernel) (by decide +kernel)
set_option maxRecDepth 20000 in
theorem gX8_pikes_X0_power : GoodIn wsX8_pikes (va_wsS RX8 188 yX0_power wsX0_power) := goodIn_app (goodIn_of _ (by decide +kernel)) ggX8_pikes_X0_power
set_option maxRecDepth 20000 in
theorem ggX8_pikes_X8_rowBehindPikes : GoodIn wsX8_pikes wsX8_rowBehindPikes := goodIn_r _ [16, 2, 17, 3, 18, 19, 11, 20, 21, 22, 23, 24, 25, 26, 27, 28, 29, 30, 79, 80, 81, 82, 83, 84, 85, 86, 87, 88, 89, 90, 91] (by decide +kernel) (by decide +kernel)
set_option maxRecDepth 20000 in
theorem gX8_pikes_X8_rowBehindPikes : GoodIn wsX8_pikes (wsV RX8 201 RX8 yX8_rowBehindPikes wsX8_rowBehindPikes) := goodIn_app (goodIn_of _ (by decide +kernel)) ggX8_pikes_X8_rowBehindPikes
set_option maxRecDepth 20000 in
theorem ggX8_pikes_X3_inOrder : GoodIn wsX8_pikes wsX3_inOrder := goodIn_r _ [34, 35, 29, 23, 30, 36, 37, 33, 38, 39] (by decide +kernel) (by decide +kernel)
set_option maxRecDepth 20000 in
theorem gX8_pikes_X3_inOrder : GoodIn wsX8_pikes (va_wsS RX8 116 yX3_inOrder wsX3_inOrder) := goodIn_app (goodIn_of _ (by decide +kernel)) ggX8_pikes_X3_inOrder
set_option maxRecDepth 20000 in
theorem ggX8_pikes_X2_teach : GoodIn wsX8_pikes wsX2_teach := goodIn_r _ [43, 44, 45, 46, 47, 48, 49, 33, 50, 51, 52, 53, 36, 37, 38, 39, 54, 55, 42, 56, 57, 58, 59, 11, 60, 61, 62, 63, 64, 65, 66, 67, 68, 69, 70, 71, 72, 73, 74, 75] (by decide +kernel) (by decide +kernel)
set_option maxRecDepth 20000 in
theorem gX8_pikes_X2_teach : GoodIn wsX8_pikes (va_wsS RX8 163 yX2_teach wsX2_teach) := goodIn_app (goodIn_of _ (by decide +kernel)) ggX8_pikes_X2_teach
set_option maxRecDepth 20000 in
theorem ggX8_pikes_X0_commonDivisor : GoodIn wsX8_pikes wsX0_commonDivisor := goodIn_r _ [78] (by decide +kernel) (by decide +kernel)
set_option maxRecDepth 20000 in
theorem gX8_pikes_X0_commonDivisor : GoodIn wsX8_pikes (va_wsS RX8 204 yX0_commonDivisor wsX0_commonDivisor) := goodIn_app (goodIn_of _ (by decide +kernel)) ggX8_pikes_X0_commonDivisor
theorem dX8_pikes_0 : decode cX8_pikes 0 = .ok (.iload_n 1, 1) := by decide +kernel
theorem dX8_pikes_1 : decode cX8_pikes 1 = .ok (.invokestatic 132, 3) := by decide +kernel
theorem dX8_pikes_4 : decode cX8_pikes 4 = .ok (.ifCond .eq 21, 3) := by decide +kernel
theorem dX8_pikes_7 : decode cX8_pikes 7 = .ok (.iload_n 2, 1) := by decide +kernel
theorem dX8_pikes_8 : decode cX8_pikes 8 = .ok (.ifCond .lt 17, 3) := by decide +kernel
theorem dX8_pikes_11 : decode cX8_pikes 11 = .ok (.iload_n 2, 1) := by decide +kernel
theorem dX8_pikes_12 : decode cX8_pikes 12 = .ok (.iconst 3, 1) := by decide +kernel
theorem dX8_pikes_13 : decode cX8_pikes 13 = .ok (.if_icmp .gt 12, 3) := by decide +kernel
theorem dX8_pikes_16 : decode cX8_pikes 16 = .ok (.iload_n 3, 1) := by decide +kernel
theorem dX8_pikes_17 : decode cX8_pikes 17 = .ok (.ifCond .lt 8, 3) := by decide +kernel
theorem dX8_pikes_20 : decode cX8_pikes 20 = .ok (.iload_n 3, 1) := by decide +kernel
theorem dX8_pikes_21 : decode cX8_pikes 21 = .ok (.iconst 1, 1) := by decide +kernel
theorem dX8_pikes_22 : decode cX8_pikes 22 = .ok (.if_icmp .le 7, 3) := by decide +kernel
theorem dX8_pikes_25 : decode cX8_pikes 25 = .ok (.ldc2_w 199, 3) := by decide +kernel
theorem dX8_pikes_28 : decode cX8_pikes 28 = .ok (.lreturn, 1) := by decide +kernel
theorem dX8_pikes_29 : decode cX8_pikes 29 = .ok (.aload_n 0, 1) := by decide +kernel
theorem dX8_pikes_30 : decode cX8_pikes 30 = .ok (.getfield 12, 3) := by decide +kernel
theorem dX8_pikes_33 : decode cX8_pikes 33 = .ok (.getfield 82, 3) := by decide +kernel
theorem dX8_pikes_36 : decode cX8_pikes 36 = .ok (.iload_n 2, 1) := by decide +kernel
theorem dX8_pikes_37 : decode cX8_pikes 37 = .ok (.invokestatic 188, 3) := by decide +kernel
theorem dX8_pikes_40 : decode cX8_pikes 40 = .ok (.istore 4, 2) := by decide +kernel
theorem dX8_pikes_42 : decode cX8_pikes 42 = .ok (.iconst 0, 1) := by decide +kernel
theorem dX8_pikes_43 : decode cX8_pikes 43 = .ok (.istore 5, 2) := by decide +kernel
theorem dX8_pikes_45 : decode cX8_pikes 45 = .ok (.iconst 0, 1) := by decide +kernel
theorem dX8_pikes_46 : decode cX8_pikes 46 = .ok (.istore 6, 2) := by decide +kernel
theorem dX8_pikes_48 : decode cX8_pikes 48 = .ok (.iload 6, 2) := by decide +kernel
theorem dX8_pikes_50 : decode cX8_pikes 50 = .ok (.iload 4, 2) := by decide +kernel
theorem dX8_pikes_52 : decode cX8_pikes 52 = .ok (.if_icmp .ge 54, 3) := by decide +kernel
theorem dX8_pikes_55 : decode cX8_pikes 55 = .ok (.aload_n 0, 1) := by decide +kernel
theorem dX8_pikes_56 : decode cX8_pikes 56 = .ok (.getfield 12, 3) := by decide +kernel
theorem dX8_pikes_59 : decode cX8_pikes 59 = .ok (.getfield 52, 3) := by decide +kernel
theorem dX8_pikes_62 : decode cX8_pikes 62 = .ok (.aload_n 0, 1) := by decide +kernel
theorem dX8_pikes_63 : decode cX8_pikes 63 = .ok (.iload 6, 2) := by decide +kernel
theorem dX8_pikes_65 : decode cX8_pikes 65 = .ok (.iload_n 2, 1) := by decide +kernel
theorem dX8_pikes_66 : decode cX8_pikes 66 = .ok (.invokevirtual 201, 3) := by decide +kernel
theorem dX8_pikes_69 : decode cX8_pikes 69 = .ok (.aload_n 0, 1) := by decide +kernel
theorem dX8_pikes_70 : decode cX8_pikes 70 = .ok (.getfield 12, 3) := by decide +kernel
theorem dX8_pikes_73 : decode cX8_pikes 73 = .ok (.getfield 82, 3) := by decide +kernel
theorem dX8_pikes_76 : decode cX8_pikes 76 = .ok (.invokestatic 116, 3) := by decide +kernel
theorem dX8_pikes_79 : decode cX8_pikes 79 = .ok (.lstore 7, 2) := by decide +kernel
theorem dX8_pikes_81 : decode cX8_pikes 81 = .ok (.iload_n 1, 1) := by decide +kernel
theorem dX8_pikes_82 : decode cX8_pikes 82 = .ok (.lload 7, 2) := by decide +kernel
theorem dX8_pikes_84 : decode cX8_pikes 84 = .ok (.aload_n 0, 1) := by decide +kernel
theorem dX8_pikes_85 : decode cX8_pikes 85 = .ok (.getfield 12, 3) := by decide +kernel
theorem dX8_pikes_88 : decode cX8_pikes 88 = .ok (.getfield 82, 3) := by decide +kernel
theorem dX8_pikes_91 : decode cX8_pikes 91 = .ok (.invokestatic 163, 3) := by decide +kernel
theorem dX8_pikes_94 : decode cX8_pikes 94 = .ok (.ifCond .eq 6, 3) := by decide +kernel
theorem dX8_pikes_97 : decode cX8_pikes 97 = .ok (.iinc 5 1, 3) := by decide +kernel
theorem dX8_pikes_100 : decode cX8_pikes 100 = .ok (.iinc 6 1, 3) := by decide +kernel
theorem dX8_pikes_103 : decode cX8_pikes 103 = .ok (.goto (-55), 3) := by decide +kernel
theorem dX8_pikes_106 : decode cX8_pikes 106 = .ok (.iload 5, 2) := by decide +kernel
theorem dX8_pikes_108 : decode cX8_pikes 108 = .ok (.iload 4, 2) := by decide +kernel
theorem dX8_pikes_110 : decode cX8_pikes 110 = .ok (.invokestatic 204, 3) := by decide +kernel
theorem dX8_pikes_113 : decode cX8_pikes 113 = .ok (.istore 6, 2) := by decide +kernel
theorem dX8_pikes_115 : decode cX8_pikes 115 = .ok (.iload_n 3, 1) := by decide +kernel
theorem dX8_pikes_116 : decode cX8_pikes 116 = .ok (.ifCond .ne 8, 3) := by decide +kernel
theorem dX8_pikes_119 : decode cX8_pikes 119 = .ok (.iload 5, 2) := by decide +kernel
theorem dX8_pikes_121 : decode cX8_pikes 121 = .ok (.goto 5, 3) := by decide +kernel
theorem dX8_pikes_124 : decode cX8_pikes 124 = .ok (.iload 4, 2) := by decide +kernel
theorem dX8_pikes_126 : decode cX8_pikes 126 = .ok (.istore 7, 2) := by decide +kernel
theorem dX8_pikes_128 : decode cX8_pikes 128 = .ok (.iload 6, 2) := by decide +kernel
theorem dX8_pikes_130 : decode cX8_pikes 130 = .ok (.ifCond .le 12, 3) := by decide +kernel
theorem dX8_pikes_133 : decode cX8_pikes 133 = .ok (.iload 7, 2) := by decide +kernel
theorem dX8_pikes_135 : decode cX8_pikes 135 = .ok (.iload 6, 2) := by decide +kernel
theorem dX8_pikes_137 : decode cX8_pikes 137 = .ok (.idiv, 1) := by decide +kernel
theorem dX8_pikes_138 : decode cX8_pikes 138 = .ok (.i2l, 1) := by decide +kernel
theorem dX8_pikes_139 : decode cX8_pikes 139 = .ok (.goto 6, 3) := by decide +kernel
theorem dX8_pikes_142 : decode cX8_pikes 142 = .ok (.iload 7, 2) := by decide +kernel
theorem dX8_pikes_144 : decode cX8_pikes 144 = .ok (.i2l, 1) := by decide +kernel
theorem dX8_pikes_145 : decode cX8_pikes 145 = .ok (.lreturn, 1) := by decide +kernel
set_option maxRecDepth 20000 in
theorem ggX8_year_X1_has : GoodIn wsX8_year wsX1_has := goodIn_r _ [10, 11, 86, 87, 88, 89, 90, 91] (by decide +kernel) (by decide +kernel)
set_option maxRecDepth 20000 in
theorem gX8_year_X1_has : GoodIn wsX8_year (wsV RX8 48 RX1 yX1_has wsX1_has) := goodIn_app (goodIn_of _ (by decide +kernel)) ggX8_year_X1_has
set_option maxRecDepth 20000 in
theorem ggX8_year_X8_isLesson : GoodIn wsX8_year wsX8_isLesson := goodIn_r _ [15] (by decide +kernel) (by decide +kernel)
set_option maxRecDepth 20000 in
theorem gX8_year_X8_isLesson : GoodIn wsX8_year (va_wsS RX8 132 yX8_isLesson wsX8_isLesson) := goodIn_app (goodIn_of _ (by decide +kernel)) ggX8_year_X8_isLesson
set_option maxRecDepth 20000 in
theorem ggX8_year_X8_rowBehindDraw : GoodIn wsX8_year wsX8_rowBehindDraw := goodIn_r _ [18, 19, 20, 21, 22, 23, 24, 25, 26, 27, 28, 29, 30, 31] (by decide +kernel) (by decide +kernel)
set_option maxRecDepth 20000 in
theorem gX8_year_X8_rowBehindDraw : GoodIn wsX8_year (va_wsS RX8 208 yX8_rowBehindDraw wsX8_rowBehindDraw) := goodIn_app (goodIn_of _ (by decide +kernel)) ggX8_year_X8_rowBehindDraw
set_option maxRecDepth 20000 in
theorem ggX8_year_X6_who : GoodIn wsX8_year wsX6_who := goodIn_r _ [25] (by decide +kernel) (by decide +kernel)
set_option maxRecDepth 20000 in
theorem gX8_year_X6_who : GoodIn wsX8_year (va_wsS RX8 101 yX6_who wsX6_who) := goodIn_app (goodIn_of _ (by decide +kernel)) ggX8_year_X6_who
set_option maxRecDepth 20000 in
theorem ggX8_year_X3_inOrder : GoodIn wsX8_year wsX3_inOrder := goodIn_r _ [36, 37, 24, 21, 25, 38, 39, 35, 40, 41] (by decide +kernel) (by decide +kernel)
set_option maxRecDepth 20000 in
theorem gX8_year_X3_inOrder : GoodIn wsX8_year (va_wsS RX8 116 yX3_inOrder wsX3_inOrder) := goodIn_app (goodIn_of _ (by decide +kernel)) ggX8_year_X3_inOrder
set_option maxRecDepth 20000 in
theorem ggX8_year_X2_teach : GoodIn wsX8_year wsX2_teach := goodIn_r _ [45, 46, 47, 48, 49, 50, 51, 35, 52, 53, 54, 55, 38, 39, 40, 41, 56, 57, 44, 58, 59, 60, 61, 62, 63, 64, 65, 66, 67, 68, 69, 70, 71, 72, 73, 74, 75, 76, 77, 78] (by decide +kernel) (by decide +kernel)
set_option maxRecDepth 20000 in
theorem gX8_year_X2_teach : GoodIn wsX8_year (va_wsS RX8 163 yX2_teach wsX2_teach) := goodIn_app (goodIn_of _ (by decide +kernel)) ggX8_year_X2_teach
theorem dX8_year_0 : decode cX8_year 0 = .ok (.iload_n 3, 1) := by decide +kernel
theorem dX8_year_1 : decode cX8_year 1 = .ok (.bipush 10, 2) := by decide +kernel
theorem dX8_year_3 : decode cX8_year 3 = .ok (.if_icmp .lt 21, 3) := by decide +kernel
theorem dX8_year_6 : decode cX8_year 6 = .ok (.aload_n 0, 1) := by decide +kernel
theorem dX8_year_7 : decode cX8_year 7 = .ok (.getfield 12, 3) := by decide +kernel
theorem dX8_year_10 : decode cX8_year 10 = .ok (.iload_n 3, 1) := by decide +kernel
theorem dX8_year_11 : decode cX8_year 11 = .ok (.bipush 10, 2) := by decide +kernel
theorem dX8_year_13 : decode cX8_year 13 = .ok (.isub, 1) := by decide +kernel
theorem dX8_year_14 : decode cX8_year 14 = .ok (.invokevirtual 48, 3) := by decide +kernel
theorem dX8_year_17 : decode cX8_year 17 = .ok (.ifCond .eq 7, 3) := by decide +kernel
theorem dX8_year_20 : decode cX8_year 20 = .ok (.iconst 1, 1) := by decide +kernel
theorem dX8_year_21 : decode cX8_year 21 = .ok (.goto 4, 3) := by decide +kernel
theorem dX8_year_24 : decode cX8_year 24 = .ok (.iconst 0, 1) := by decide +kernel
theorem dX8_year_25 : decode cX8_year 25 = .ok (.istore 4, 2) := by decide +kernel
theorem dX8_year_27 : decode cX8_year 27 = .ok (.iload_n 1, 1) := by decide +kernel
theorem dX8_year_28 : decode cX8_year 28 = .ok (.ifCond .lt 33, 3) := by decide +kernel
theorem dX8_year_31 : decode cX8_year 31 = .ok (.iload_n 1, 1) := by decide +kernel
theorem dX8_year_32 : decode cX8_year 32 = .ok (.sipush 9999, 3) := by decide +kernel
theorem dX8_year_35 : decode cX8_year 35 = .ok (.if_icmp .gt 26, 3) := by decide +kernel
theorem dX8_year_38 : decode cX8_year 38 = .ok (.iload_n 2, 1) := by decide +kernel
theorem dX8_year_39 : decode cX8_year 39 = .ok (.iconst 1, 1) := by decide +kernel
theorem dX8_year_40 : decode cX8_year 40 = .ok (.if_icmp .lt 21, 3) := by decide +kernel
theorem dX8_year_43 : decode cX8_year 43 = .ok (.iload_n 2, 1) := by decide +kernel
theorem dX8_year_44 : decode cX8_year 44 = .ok (.bipush 99, 2) := by decide +kernel
theorem dX8_year_46 : decode cX8_year 46 = .ok (.if_icmp .gt 15, 3) := by decide +kernel
theorem dX8_year_49 : decode cX8_year 49 = .ok (.iload_n 3, 1) := by decide +kernel
theorem dX8_year_50 : decode cX8_year 50 = .ok (.invokestatic 132, 3) := by decide +kernel
theorem dX8_year_53 : decode cX8_year 53 = .ok (.ifCond .ne 11, 3) := by decide +kernel
theorem dX8_year_56 : decode cX8_year 56 = .ok (.iload 4, 2) := by decide +kernel
theorem dX8_year_58 : decode cX8_year 58 = .ok (.ifCond .ne 6, 3) := by decide +kernel
theorem dX8_year_61 : decode cX8_year 61 = .ok (.bipush (-2), 2) := by decide +kernel
theorem dX8_year_63 : decode cX8_year 63 = .ok (.ireturn, 1) := by decide +kernel
theorem dX8_year_64 : decode cX8_year 64 = .ok (.iload_n 1, 1) := by decide +kernel
theorem dX8_year_65 : decode cX8_year 65 = .ok (.istore 5, 2) := by decide +kernel
theorem dX8_year_67 : decode cX8_year 67 = .ok (.aload_n 0, 1) := by decide +kernel
theorem dX8_year_68 : decode cX8_year 68 = .ok (.getfield 12, 3) := by decide +kernel
theorem dX8_year_71 : decode cX8_year 71 = .ok (.getfield 79, 3) := by decide +kernel
theorem dX8_year_74 : decode cX8_year 74 = .ok (.istore 6, 2) := by decide +kernel
theorem dX8_year_76 : decode cX8_year 76 = .ok (.iconst 0, 1) := by decide +kernel
theorem dX8_year_77 : decode cX8_year 77 = .ok (.istore 7, 2) := by decide +kernel
theorem dX8_year_79 : decode cX8_year 79 = .ok (.iconst 0, 1) := by decide +kernel
theorem dX8_year_80 : decode cX8_year 80 = .ok (.istore 8, 2) := by decide +kernel
theorem dX8_year_82 : decode cX8_year 82 = .ok (.iload 8, 2) := by decide +kernel
theorem dX8_year_84 : decode cX8_year 84 = .ok (.iload_n 2, 1) := by decide +kernel
theorem dX8_year_85 : decode cX8_year 85 = .ok (.if_icmp .ge 111, 3) := by decide +kernel
theorem dX8_year_88 : decode cX8_year 88 = .ok (.bipush 75, 2) := by decide +kernel
theorem dX8_year_90 : decode cX8_year 90 = .ok (.iload 5, 2) := by decide +kernel
theorem dX8_year_92 : decode cX8_year 92 = .ok (.imul, 1) := by decide +kernel
theorem dX8_year_93 : decode cX8_year 93 = .ok (.bipush 74, 2) := by decide +kernel
theorem dX8_year_95 : decode cX8_year 95 = .ok (.iadd, 1) := by decide +kernel
theorem dX8_year_96 : decode cX8_year 96 = .ok (.ldc 207, 2) := by decide +kernel
theorem dX8_year_98 : decode cX8_year 98 = .ok (.irem, 1) := by decide +kernel
theorem dX8_year_99 : decode cX8_year 99 = .ok (.istore 5, 2) := by decide +kernel
theorem dX8_year_101 : decode cX8_year 101 = .ok (.iload 6, 2) := by decide +kernel
theorem dX8_year_103 : decode cX8_year 103 = .ok (.aload_n 0, 1) := by decide +kernel
theorem dX8_year_104 : decode cX8_year 104 = .ok (.getfield 12, 3) := by decide +kernel
theorem dX8_year_107 : decode cX8_year 107 = .ok (.getfield 82, 3) := by decide +kernel
theorem dX8_year_110 : decode cX8_year 110 = .ok (.iload 5, 2) := by decide +kernel
theorem dX8_year_112 : decode cX8_year 112 = .ok (.invokestatic 208, 3) := by decide +kernel
theorem dX8_year_115 : decode cX8_year 115 = .ok (.istore 6, 2) := by decide +kernel
theorem dX8_year_117 : decode cX8_year 117 = .ok (.iload 4, 2) := by decide +kernel
theorem dX8_year_119 : decode cX8_year 119 = .ok (.ifCond .eq 24, 3) := by decide +kernel
theorem dX8_year_122 : decode cX8_year 122 = .ok (.iload 6, 2) := by decide +kernel
theorem dX8_year_124 : decode cX8_year 124 = .ok (.iconst 0, 1) := by decide +kernel
theorem dX8_year_125 : decode cX8_year 125 = .ok (.invokestatic 101, 3) := by decide +kernel
theorem dX8_year_128 : decode cX8_year 128 = .ok (.iload_n 3, 1) := by decide +kernel
theorem dX8_year_129 : decode cX8_year 129 = .ok (.bipush 10, 2) := by decide +kernel
theorem dX8_year_131 : decode cX8_year 131 = .ok (.isub, 1) := by decide +kernel
theorem dX8_year_132 : decode cX8_year 132 = .ok (.if_icmp .ne 7, 3) := by decide +kernel
theorem dX8_year_135 : decode cX8_year 135 = .ok (.iconst 1, 1) := by decide +kernel
theorem dX8_year_136 : decode cX8_year 136 = .ok (.goto 37, 3) := by decide +kernel
theorem dX8_year_139 : decode cX8_year 139 = .ok (.iconst 0, 1) := by decide +kernel
theorem dX8_year_140 : decode cX8_year 140 = .ok (.goto 33, 3) := by decide +kernel
theorem dX8_year_143 : decode cX8_year 143 = .ok (.iload_n 3, 1) := by decide +kernel
theorem dX8_year_144 : decode cX8_year 144 = .ok (.aload_n 0, 1) := by decide +kernel
theorem dX8_year_145 : decode cX8_year 145 = .ok (.getfield 12, 3) := by decide +kernel
theorem dX8_year_148 : decode cX8_year 148 = .ok (.getfield 52, 3) := by decide +kernel
theorem dX8_year_151 : decode cX8_year 151 = .ok (.iload 6, 2) := by decide +kernel
theorem dX8_year_153 : decode cX8_year 153 = .ok (.aload_n 0, 1) := by decide +kernel
theorem dX8_year_154 : decode cX8_year 154 = .ok (.getfield 12, 3) := by decide +kernel
theorem dX8_year_157 : decode cX8_year 157 = .ok (.getfield 82, 3) := by decide +kernel
theorem dX8_year_160 : decode cX8_year 160 = .ok (.invokestatic 116, 3) := by decide +kernel
theorem dX8_year_163 : decode cX8_year 163 = .ok (.aload_n 0, 1) := by decide +kernel
theorem dX8_year_164 : decode cX8_year 164 = .ok (.getfield 12, 3) := by decide +kernel
theorem dX8_year_167 : decode cX8_year 167 = .ok (.getfield 82, 3) := by decide +kernel
theorem dX8_year_170 : decode cX8_year 170 = .ok (.invokestatic 163, 3) := by decide +kernel
theorem dX8_year_173 : decode cX8_year 173 = .ok (.istore 9, 2) := by decide +kernel
theorem dX8_year_175 : decode cX8_year 175 = .ok (.iload 7, 2) := by decide +kernel
theorem dX8_year_177 : decode cX8_year 177 = .ok (.iload 9, 2) := by decide +kernel
theorem dX8_year_179 : decode cX8_year 179 = .ok (.ifCond .eq 7, 3) := by decide +kernel
theorem dX8_year_182 : decode cX8_year 182 = .ok (.iconst 1, 1) := by decide +kernel
theorem dX8_year_183 : decode cX8_year 183 = .ok (.goto 4, 3) := by decide +kernel
theorem dX8_year_186 : decode cX8_year 186 = .ok (.iconst 0, 1) := by decide +kernel
theorem dX8_year_187 : decode cX8_year 187 = .ok (.iadd, 1) := by decide +kernel
theorem dX8_year_188 : decode cX8_year 188 = .ok (.istore 7, 2) := by decide +kernel
theorem dX8_year_190 : decode cX8_year 190 = .ok (.iinc 8 1, 3) := by decide +kernel
theorem dX8_year_193 : decode cX8_year 193 = .ok (.goto (-111), 3) := by decide +kernel
theorem dX8_year_196 : decode cX8_year 196 = .ok (.iload 7, 2) := by decide +kernel
theorem dX8_year_198 : decode cX8_year 198 = .ok (.ireturn, 1) := by decide +kernel
set_option maxRecDepth 20000 in
theorem ggX8_image_X1_become : GoodIn wsX8_image wsX1_become := goodIn_r _ [10, 11, 12, 13, 14, 15, 16, 24, 25, 26, 27, 28, 29] (by decide +kernel) (by decide +kernel)
set_option maxRecDepth 20000 in
theorem gX8_image_X1_become : GoodIn wsX8_image (wsV RX8 211 RX1 yX1_become wsX1_become) := goodIn_app (goodIn_of _ (by decide +kernel)) ggX8_image_X1_become
theorem dX8_image_0 : decode cX8_image 0 = .ok (.iload_n 1, 1) := by decide +kernel
theorem dX8_image_1 : decode cX8_image 1 = .ok (.ifCond .lt 8, 3) := by decide +kernel
theorem dX8_image_4 : decode cX8_image 4 = .ok (.iload_n 1, 1) := by decide +kernel
theorem dX8_image_5 : decode cX8_image 5 = .ok (.iconst 1, 1) := by decide +kernel
theorem dX8_image_6 : decode cX8_image 6 = .ok (.if_icmp .le 6, 3) := by decide +kernel
theorem dX8_image_9 : decode cX8_image 9 = .ok (.bipush (-2), 2) := by decide +kernel
theorem dX8_image_11 : decode cX8_image 11 = .ok (.ireturn, 1) := by decide +kernel
theorem dX8_image_12 : decode cX8_image 12 = .ok (.iload_n 1, 1) := by decide +kernel
theorem dX8_image_13 : decode cX8_image 13 = .ok (.ifCond .ne 22, 3) := by decide +kernel
theorem dX8_image_16 : decode cX8_image 16 = .ok (.aload_n 0, 1) := by decide +kernel
theorem dX8_image_17 : decode cX8_image 17 = .ok (.getfield 16, 3) := by decide +kernel
theorem dX8_image_20 : decode cX8_image 20 = .ok (.aload_n 0, 1) := by decide +kernel
theorem dX8_image_21 : decode cX8_image 21 = .ok (.getfield 12, 3) := by decide +kernel
theorem dX8_image_24 : decode cX8_image 24 = .ok (.invokevirtual 211, 3) := by decide +kernel
theorem dX8_image_27 : decode cX8_image 27 = .ok (.aload_n 0, 1) := by decide +kernel
theorem dX8_image_28 : decode cX8_image 28 = .ok (.iconst 1, 1) := by decide +kernel
theorem dX8_image_29 : decode cX8_image 29 = .ok (.putfield 22, 3) := by decide +kernel
theorem dX8_image_32 : decode cX8_image 32 = .ok (.goto 19, 3) := by decide +kernel
theorem dX8_image_35 : decode cX8_image 35 = .ok (.aload_n 0, 1) := by decide +kernel
theorem dX8_image_36 : decode cX8_image 36 = .ok (.getfield 19, 3) := by decide +kernel
theorem dX8_image_39 : decode cX8_image 39 = .ok (.aload_n 0, 1) := by decide +kernel
theorem dX8_image_40 : decode cX8_image 40 = .ok (.getfield 12, 3) := by decide +kernel
theorem dX8_image_43 : decode cX8_image 43 = .ok (.invokevirtual 211, 3) := by decide +kernel
theorem dX8_image_46 : decode cX8_image 46 = .ok (.aload_n 0, 1) := by decide +kernel
theorem dX8_image_47 : decode cX8_image 47 = .ok (.iconst 1, 1) := by decide +kernel
theorem dX8_image_48 : decode cX8_image 48 = .ok (.putfield 26, 3) := by decide +kernel
theorem dX8_image_51 : decode cX8_image 51 = .ok (.iconst 1, 1) := by decide +kernel
theorem dX8_image_52 : decode cX8_image 52 = .ok (.ireturn, 1) := by decide +kernel
set_option maxRecDepth 20000 in
theorem ggX8_restore_X1_become : GoodIn wsX8_restore wsX1_become := goodIn_r _ [10, 11, 12, 13, 14, 15, 16, 24, 25, 26, 27, 28, 29] (by decide +kernel) (by decide +kernel)
set_option maxRecDepth 20000 in
theorem gX8_restore_X1_become : GoodIn wsX8_restore (wsV RX8 211 RX1 yX1_become wsX1_become) := goodIn_app (goodIn_of _ (by decide +kernel)) ggX8_restore_X1_become
theorem dX8_restore_0 : decode cX8_restore 0 = .ok (.iload_n 1, 1) := by decide +kernel
theorem dX8_restore_1 : decode cX8_restore 1 = .ok (.ifCond .lt 8, 3) := by decide +kernel
theorem dX8_restore_4 : decode cX8_restore 4 = .ok (.iload_n 1, 1) := by decide +kernel
theorem dX8_restore_5 : decode cX8_restore 5 = .ok (.iconst 1, 1) := by decide +kernel
theorem dX8_restore_6 : decode cX8_restore 6 = .ok (.if_icmp .le 6, 3) := by decide +kernel
theorem dX8_restore_9 : decode cX8_restore 9 = .ok (.bipush (-2), 2) := by decide +kernel
theorem dX8_restore_11 : decode cX8_restore 11 = .ok (.ireturn, 1) := by decide +kernel
theorem dX8_restore_12 : decode cX8_restore 12 = .ok (.iload_n 1, 1) := by decide +kernel
theorem dX8_restore_13 : decode cX8_restore 13 = .ok (.ifCond .ne 10, 3) := by decide +kernel
theorem dX8_restore_16 : decode cX8_restore 16 = .ok (.aload_n 0, 1) := by decide +kernel
theorem dX8_restore_17 : decode cX8_restore 17 = .ok (.getfield 22, 3) := by decide +kernel
theorem dX8_restore_20 : decode cX8_restore 20 = .ok (.goto 7, 3) := by decide +kernel
theorem dX8_restore_23 : decode cX8_restore 23 = .ok (.aload_n 0, 1) := by decide +kernel
theorem dX8_restore_24 : decode cX8_restore 24 = .ok (.getfield 26, 3) := by decide +kernel
theorem dX8_restore_27 : decode cX8_restore 27 = .ok (.istore_n 2, 1) := by decide +kernel
theorem dX8_restore_28 : decode cX8_restore 28 = .ok (.iload_n 2, 1) := by decide +kernel
theorem dX8_restore_29 : decode cX8_restore 29 = .ok (.ifCond .ne 6, 3) := by decide +kernel
theorem dX8_restore_32 : decode cX8_restore 32 = .ok (.bipush (-3), 2) := by decide +kernel
theorem dX8_restore_34 : decode cX8_restore 34 = .ok (.ireturn, 1) := by decide +kernel
theorem dX8_restore_35 : decode cX8_restore 35 = .ok (.iload_n 1, 1) := by decide +kernel
theorem dX8_restore_36 : decode cX8_restore 36 = .ok (.ifCond .ne 17, 3) := by decide +kernel
theorem dX8_restore_39 : decode cX8_restore 39 = .ok (.aload_n 0, 1) := by decide +kernel
theorem dX8_restore_40 : decode cX8_restore 40 = .ok (.getfield 12, 3) := by decide +kernel
theorem dX8_restore_43 : decode cX8_restore 43 = .ok (.aload_n 0, 1) := by decide +kernel
theorem dX8_restore_44 : decode cX8_restore 44 = .ok (.getfield 16, 3) := by decide +kernel
theorem dX8_restore_47 : decode cX8_restore 47 = .ok (.invokevirtual 211, 3) := by decide +kernel
theorem dX8_restore_50 : decode cX8_restore 50 = .ok (.goto 14, 3) := by decide +kernel
theorem dX8_restore_53 : decode cX8_restore 53 = .ok (.aload_n 0, 1) := by decide +kernel
theorem dX8_restore_54 : decode cX8_restore 54 = .ok (.getfield 12, 3) := by decide +kernel
theorem dX8_restore_57 : decode cX8_restore 57 = .ok (.aload_n 0, 1) := by decide +kernel
theorem dX8_restore_58 : decode cX8_restore 58 = .ok (.getfield 19, 3) := by decide +kernel
theorem dX8_restore_61 : decode cX8_restore 61 = .ok (.invokevirtual 211, 3) := by decide +kernel
theorem dX8_restore_64 : decode cX8_restore 64 = .ok (.iconst 1, 1) := by decide +kernel
theorem dX8_restore_65 : decode cX8_restore 65 = .ok (.ireturn, 1) := by decide +kernel
set_option maxRecDepth 20000 in
theorem ggX8_told_X1_has : GoodIn wsX8_told wsX1_has := goodIn_r _ [12, 13, 30, 31, 32, 33, 34, 35] (by decide +kernel) (by decide +kernel)
set_option maxRecDepth 20000 in
theorem gX8_told_X1_has : GoodIn wsX8_told (wsV RX8 48 RX1 yX1_has wsX1_has) := goodIn_app (goodIn_of _ (by decide +kernel)) ggX8_told_X1_has
set_option maxRecDepth 20000 in
theorem ggX8_told_X3_numberAt : GoodIn wsX8_told wsX3_numberAt := goodIn_r _ [17, 18] (by decide +kernel) (by decide +kernel)
set_option maxRecDepth 20000 in
theorem gX8_told_X3_numberAt : GoodIn wsX8_told (va_wsS RX8 56 yX3_numberAt wsX3_numberAt) := goodIn_app (goodIn_of _ (by decide +kernel)) ggX8_told_X3_numberAt
theorem dX8_told_0 : decode cX8_told 0 = .ok (.iload_n 1, 1) := by decide +kernel
theorem dX8_told_1 : decode cX8_told 1 = .ok (.tableswitch 63 0 3 #[31, 39, 47, 55], 31) := by decide +kernel
theorem dX8_told_32 : decode cX8_told 32 = .ok (.aload_n 0, 1) := by decide +kernel
theorem dX8_told_33 : decode cX8_told 33 = .ok (.getfield 32, 3) := by decide +kernel
theorem dX8_told_36 : decode cX8_told 36 = .ok (.getfield 69, 3) := by decide +kernel
theorem dX8_told_39 : decode cX8_told 39 = .ok (.ireturn, 1) := by decide +kernel
theorem dX8_told_40 : decode cX8_told 40 = .ok (.aload_n 0, 1) := by decide +kernel
theorem dX8_told_41 : decode cX8_told 41 = .ok (.getfield 12, 3) := by decide +kernel
theorem dX8_told_44 : decode cX8_told 44 = .ok (.getfield 44, 3) := by decide +kernel
theorem dX8_told_47 : decode cX8_told 47 = .ok (.ireturn, 1) := by decide +kernel
theorem dX8_told_48 : decode cX8_told 48 = .ok (.aload_n 0, 1) := by decide +kernel
theorem dX8_told_49 : decode cX8_told 49 = .ok (.getfield 12, 3) := by decide +kernel
theorem dX8_told_52 : decode cX8_told 52 = .ok (.getfield 82, 3) := by decide +kernel
theorem dX8_told_55 : decode cX8_told 55 = .ok (.ireturn, 1) := by decide +kernel
theorem dX8_told_56 : decode cX8_told 56 = .ok (.aload_n 0, 1) := by decide +kernel
theorem dX8_told_57 : decode cX8_told 57 = .ok (.getfield 12, 3) := by decide +kernel
theorem dX8_told_60 : decode cX8_told 60 = .ok (.getfield 182, 3) := by decide +kernel
theorem dX8_told_63 : decode cX8_told 63 = .ok (.ireturn, 1) := by decide +kernel
theorem dX8_told_64 : decode cX8_told 64 = .ok (.iload_n 1, 1) := by decide +kernel
theorem dX8_told_65 : decode cX8_told 65 = .ok (.bipush 10, 2) := by decide +kernel
theorem dX8_told_67 : decode cX8_told 67 = .ok (.if_icmp .lt 17, 3) := by decide +kernel
theorem dX8_told_70 : decode cX8_told 70 = .ok (.aload_n 0, 1) := by decide +kernel
theorem dX8_told_71 : decode cX8_told 71 = .ok (.getfield 12, 3) := by decide +kernel
theorem dX8_told_74 : decode cX8_told 74 = .ok (.iload_n 1, 1) := by decide +kernel
theorem dX8_told_75 : decode cX8_told 75 = .ok (.bipush 10, 2) := by decide +kernel
theorem dX8_told_77 : decode cX8_told 77 = .ok (.isub, 1) := by decide +kernel
theorem dX8_told_78 : decode cX8_told 78 = .ok (.invokevirtual 48, 3) := by decide +kernel
theorem dX8_told_81 : decode cX8_told 81 = .ok (.ifCond .ne 6, 3) := by decide +kernel
theorem dX8_told_84 : decode cX8_told 84 = .ok (.bipush (-2), 2) := by decide +kernel
theorem dX8_told_86 : decode cX8_told 86 = .ok (.ireturn, 1) := by decide +kernel
theorem dX8_told_87 : decode cX8_told 87 = .ok (.aload_n 0, 1) := by decide +kernel
theorem dX8_told_88 : decode cX8_told 88 = .ok (.getfield 12, 3) := by decide +kernel
theorem dX8_told_91 : decode cX8_told 91 = .ok (.getfield 52, 3) := by decide +kernel
theorem dX8_told_94 : decode cX8_told 94 = .ok (.iload_n 1, 1) := by decide +kernel
theorem dX8_told_95 : decode cX8_told 95 = .ok (.bipush 10, 2) := by decide +kernel
theorem dX8_told_97 : decode cX8_told 97 = .ok (.isub, 1) := by decide +kernel
theorem dX8_told_98 : decode cX8_told 98 = .ok (.invokestatic 56, 3) := by decide +kernel
theorem dX8_told_101 : decode cX8_told 101 = .ok (.ireturn, 1) := by decide +kernel
theorem dX8_isLesson_0 : decode cX8_isLesson 0 = .ok (.iload_n 0, 1) := by decide +kernel
theorem dX8_isLesson_1 : decode cX8_isLesson 1 = .ok (.ifCond .lt 13, 3) := by decide +kernel
theorem dX8_isLesson_4 : decode cX8_isLesson 4 = .ok (.iload_n 0, 1) := by decide +kernel
theorem dX8_isLesson_5 : decode cX8_isLesson 5 = .ok (.bipush 7, 2) := by decide +kernel
theorem dX8_isLesson_7 : decode cX8_isLesson 7 = .ok (.if_icmp .ge 7, 3) := by decide +kernel
theorem dX8_isLesson_10 : decode cX8_isLesson 10 = .ok (.iconst 1, 1) := by decide +kernel
theorem dX8_isLesson_11 : decode cX8_isLesson 11 = .ok (.goto 4, 3) := by decide +kernel
theorem dX8_isLesson_14 : decode cX8_isLesson 14 = .ok (.iconst 0, 1) := by decide +kernel
theorem dX8_isLesson_15 : decode cX8_isLesson 15 = .ok (.ireturn, 1) := by decide +kernel
set_option maxRecDepth 20000 in
theorem ggX8_areLessons_X0_power : GoodIn wsX8_areLessons wsX0_power := goodIn_r _ [4] (by decide +kernel) (by decide +kernel)
set_option maxRecDepth 20000 in
theorem gX8_areLessons_X0_power : GoodIn wsX8_areLessons (va_wsS RX8 188 yX0_power wsX0_power) := goodIn_app (goodIn_of _ (by decide +kernel)) ggX8_areLessons_X0_power
set_option maxRecDepth 20000 in
theorem ggX8_areLessons_X0_digit : GoodIn wsX8_areLessons wsX0_digit := goodIn_r _ [7] (by decide +kernel) (by decide +kernel)
set_option maxRecDepth 20000 in
theorem gX8_areLessons_X0_digit : GoodIn wsX8_areLessons (va_wsS RX8 196 yX0_digit wsX0_digit) := goodIn_app (goodIn_of _ (by decide +kernel)) ggX8_areLessons_X0_digit
set_option maxRecDepth 20000 in
theorem ggX8_areLessons_X8_isLesson : GoodIn wsX8_areLessons wsX8_isLesson := goodIn_r _ [11] (by decide +kernel) (by decide +kernel)
set_option maxRecDepth 20000 in
theorem gX8_areLessons_X8_isLesson : GoodIn wsX8_areLessons (va_wsS RX8 132 yX8_isLesson wsX8_isLesson) := goodIn_app (goodIn_of _ (by decide +kernel)) ggX8_areLessons_X8_isLesson
theorem dX8_areLessons_0 : decode cX8_areLessons 0 = .ok (.iload_n 0, 1) := by decide +kernel
theorem dX8_areLessons_1 : decode cX8_areLessons 1 = .ok (.ifCond .lt 13, 3) := by decide +kernel
theorem dX8_areLessons_4 : decode cX8_areLessons 4 = .ok (.iload_n 0, 1) := by decide +kernel
theorem dX8_areLessons_5 : decode cX8_areLessons 5 = .ok (.bipush 10, 2) := by decide +kernel
theorem dX8_areLessons_7 : decode cX8_areLessons 7 = .ok (.iload_n 1, 1) := by decide +kernel
theorem dX8_areLessons_8 : decode cX8_areLessons 8 = .ok (.invokestatic 188, 3) := by decide +kernel
theorem dX8_areLessons_11 : decode cX8_areLessons 11 = .ok (.if_icmp .lt 5, 3) := by decide +kernel
theorem dX8_areLessons_14 : decode cX8_areLessons 14 = .ok (.iconst 0, 1) := by decide +kernel
theorem dX8_areLessons_15 : decode cX8_areLessons 15 = .ok (.ireturn, 1) := by decide +kernel
theorem dX8_areLessons_16 : decode cX8_areLessons 16 = .ok (.iconst 0, 1) := by decide +kernel
theorem dX8_areLessons_17 : decode cX8_areLessons 17 = .ok (.istore_n 2, 1) := by decide +kernel
theorem dX8_areLessons_18 : decode cX8_areLessons 18 = .ok (.iload_n 2, 1) := by decide +kernel
theorem dX8_areLessons_19 : decode cX8_areLessons 19 = .ok (.iload_n 1, 1) := by decide +kernel
theorem dX8_areLessons_20 : decode cX8_areLessons 20 = .ok (.if_icmp .ge 24, 3) := by decide +kernel
theorem dX8_areLessons_23 : decode cX8_areLessons 23 = .ok (.iload_n 0, 1) := by decide +kernel
theorem dX8_areLessons_24 : decode cX8_areLessons 24 = .ok (.bipush 10, 2) := by decide +kernel
theorem dX8_areLessons_26 : decode cX8_areLessons 26 = .ok (.iload_n 2, 1) := by decide +kernel
theorem dX8_areLessons_27 : decode cX8_areLessons 27 = .ok (.invokestatic 196, 3) := by decide +kernel
theorem dX8_areLessons_30 : decode cX8_areLessons 30 = .ok (.invokestatic 132, 3) := by decide +kernel
theorem dX8_areLessons_33 : decode cX8_areLessons 33 = .ok (.ifCond .ne 5, 3) := by decide +kernel
theorem dX8_areLessons_36 : decode cX8_areLessons 36 = .ok (.iconst 0, 1) := by decide +kernel
theorem dX8_areLessons_37 : decode cX8_areLessons 37 = .ok (.ireturn, 1) := by decide +kernel
theorem dX8_areLessons_38 : decode cX8_areLessons 38 = .ok (.iinc 2 1, 3) := by decide +kernel
theorem dX8_areLessons_41 : decode cX8_areLessons 41 = .ok (.goto (-23), 3) := by decide +kernel
theorem dX8_areLessons_44 : decode cX8_areLessons 44 = .ok (.iconst 1, 1) := by decide +kernel
theorem dX8_areLessons_45 : decode cX8_areLessons 45 = .ok (.ireturn, 1) := by decide +kernel
set_option maxRecDepth 20000 in
theorem ggX8_refusalOfDay_X4_firstFault : GoodIn wsX8_refusalOfDay wsX4_firstFault := goodIn_r _ [9, 10, 11, 12, 13, 8, 14, 15, 16, 17, 18, 19, 77, 78, 79, 80] (by decide +kernel) (by decide +kernel)
set_option maxRecDepth 20000 in
theorem gX8_refusalOfDay_X4_firstFault : GoodIn wsX8_refusalOfDay (wsV RX8 72 RX4 yX4_firstFault wsX4_firstFault) := goodIn_app (goodIn_of _ (by decide +kernel)) ggX8_refusalOfDay_X4_firstFault
set_option maxRecDepth 20000 in
theorem ggX8_refusalOfDay_X4_gaps : GoodIn wsX8_refusalOfDay wsX4_gaps := goodIn_r _ [23, 10, 11, 12, 13, 8, 14, 15, 77, 78, 79, 80] (by decide +kernel) (by decide +kernel)
set_option maxRecDepth 20000 in
theorem gX8_refusalOfDay_X4_gaps : GoodIn wsX8_refusalOfDay (wsV RX8 76 RX4 yX4_gaps wsX4_gaps) := goodIn_app (goodIn_of _ (by decide +kernel)) ggX8_refusalOfDay_X4_gaps
set_option maxRecDepth 20000 in
theorem ggX8_refusalOfDay_X4_pass : GoodIn wsX8_refusalOfDay wsX4_pass := goodIn_r _ [27, 28, 29, 10, 30, 21, 22, 8, 23, 11, 12, 13, 14, 15, 16, 17, 18, 19, 31, 32, 33, 34, 35, 36, 37, 38, 39, 40, 41, 42, 43, 44, 45, 46, 47, 48, 49, 50, 51, 52, 53, 54, 55, 56, 57, 58, 59, 60, 61, 62, 63, 77, 78, 79, 80] (by decide +kernel) (by decide +kernel)
set_option maxRecDepth 20000 in
theorem gX8_refusalOfDay_X4_pass : GoodIn wsX8_refusalOfDay (wsV RX8 85 RX4 yX4_pass wsX4_pass) := goodIn_app (goodIn_of _ (by decide +kernel)) ggX8_refusalOfDay_X4_pass
theorem dX8_refusalOfDay_0 : decode cX8_refusalOfDay 0 = .ok (.aload_n 0, 1) := by decide +kernel
theorem dX8_refusalOfDay_1 : decode cX8_refusalOfDay 1 = .ok (.getfield 32, 3) := by decide +kernel
theorem dX8_refusalOfDay_4 : decode cX8_refusalOfDay 4 = .ok (.invokevirtual 72, 3) := by decide +kernel
theorem dX8_refusalOfDay_7 : decode cX8_refusalOfDay 7 = .ok (.bipush (-6), 2) := by decide +kernel
theorem dX8_refusalOfDay_9 : decode cX8_refusalOfDay 9 = .ok (.if_icmp .eq 6, 3) := by decide +kernel
theorem dX8_refusalOfDay_12 : decode cX8_refusalOfDay 12 = .ok (.bipush (-5), 2) := by decide +kernel
theorem dX8_refusalOfDay_14 : decode cX8_refusalOfDay 14 = .ok (.ireturn, 1) := by decide +kernel
theorem dX8_refusalOfDay_15 : decode cX8_refusalOfDay 15 = .ok (.aload_n 0, 1) := by decide +kernel
theorem dX8_refusalOfDay_16 : decode cX8_refusalOfDay 16 = .ok (.getfield 32, 3) := by decide +kernel
theorem dX8_refusalOfDay_19 : decode cX8_refusalOfDay 19 = .ok (.invokevirtual 76, 3) := by decide +kernel
theorem dX8_refusalOfDay_22 : decode cX8_refusalOfDay 22 = .ok (.ifCond .le 6, 3) := by decide +kernel
theorem dX8_refusalOfDay_25 : decode cX8_refusalOfDay 25 = .ok (.bipush (-3), 2) := by decide +kernel
theorem dX8_refusalOfDay_27 : decode cX8_refusalOfDay 27 = .ok (.ireturn, 1) := by decide +kernel
theorem dX8_refusalOfDay_28 : decode cX8_refusalOfDay 28 = .ok (.aload_n 0, 1) := by decide +kernel
theorem dX8_refusalOfDay_29 : decode cX8_refusalOfDay 29 = .ok (.getfield 32, 3) := by decide +kernel
theorem dX8_refusalOfDay_32 : decode cX8_refusalOfDay 32 = .ok (.aload_n 0, 1) := by decide +kernel
theorem dX8_refusalOfDay_33 : decode cX8_refusalOfDay 33 = .ok (.getfield 12, 3) := by decide +kernel
theorem dX8_refusalOfDay_36 : decode cX8_refusalOfDay 36 = .ok (.getfield 79, 3) := by decide +kernel
theorem dX8_refusalOfDay_39 : decode cX8_refusalOfDay 39 = .ok (.aload_n 0, 1) := by decide +kernel
theorem dX8_refusalOfDay_40 : decode cX8_refusalOfDay 40 = .ok (.getfield 12, 3) := by decide +kernel
theorem dX8_refusalOfDay_43 : decode cX8_refusalOfDay 43 = .ok (.getfield 82, 3) := by decide +kernel
theorem dX8_refusalOfDay_46 : decode cX8_refusalOfDay 46 = .ok (.iconst 0, 1) := by decide +kernel
theorem dX8_refusalOfDay_47 : decode cX8_refusalOfDay 47 = .ok (.invokevirtual 85, 3) := by decide +kernel
theorem dX8_refusalOfDay_50 : decode cX8_refusalOfDay 50 = .ok (.bipush (-6), 2) := by decide +kernel
theorem dX8_refusalOfDay_52 : decode cX8_refusalOfDay 52 = .ok (.if_icmp .ne 8, 3) := by decide +kernel
theorem dX8_refusalOfDay_55 : decode cX8_refusalOfDay 55 = .ok (.bipush (-6), 2) := by decide +kernel
theorem dX8_refusalOfDay_57 : decode cX8_refusalOfDay 57 = .ok (.goto 5, 3) := by decide +kernel
theorem dX8_refusalOfDay_60 : decode cX8_refusalOfDay 60 = .ok (.bipush (-5), 2) := by decide +kernel
theorem dX8_refusalOfDay_62 : decode cX8_refusalOfDay 62 = .ok (.ireturn, 1) := by decide +kernel
set_option maxRecDepth 20000 in
theorem ggX8_routesOfNow_X5_init : GoodIn wsX8_routesOfNow wsX5_init := goodIn_r _ [8, 9, 10, 11, 12, 13, 14, 15, 16, 17, 18, 19, 20, 83, 84, 85, 86, 87, 88, 89] (by decide +kernel) (by decide +kernel)
set_option maxRecDepth 20000 in
theorem gX8_routesOfNow_X5_init_n215 : GoodIn wsX8_routesOfNow (wsX5_init) := ggX8_routesOfNow_X5_init
set_option maxRecDepth 20000 in
theorem ggX8_routesOfNow_X5_prepare : GoodIn wsX8_routesOfNow wsX5_prepare := goodIn_r _ [24, 16, 15, 18, 25, 26, 27, 28, 29, 30, 31, 32, 33, 34, 35, 4, 36, 13, 14, 37, 38, 39, 40, 41, 42, 43, 44, 45, 46, 47, 48, 49, 50, 51, 52, 53, 54, 55, 56, 57, 58, 59, 60, 61, 62, 63, 64, 65, 66, 67, 68, 69, 70, 71, 72, 73, 74, 75, 83, 84, 85, 86, 87, 88, 89] (by decide +kernel) (by decide +kernel)
set_option maxRecDepth 20000 in
theorem gX8_routesOfNow_X5_prepare : GoodIn wsX8_routesOfNow (wsV RX8 216 RX5 yX5_prepare wsX5_prepare) := goodIn_app (goodIn_of _ (by decide +kernel)) ggX8_routesOfNow_X5_prepare
theorem dX8_routesOfNow_0 : decode cX8_routesOfNow 0 = .ok (.aload_n 0, 1) := by decide +kernel
theorem dX8_routesOfNow_1 : decode cX8_routesOfNow 1 = .ok (.getfield 36, 3) := by decide +kernel
theorem dX8_routesOfNow_4 : decode cX8_routesOfNow 4 = .ok (.ifnonnull 14, 3) := by decide +kernel
theorem dX8_routesOfNow_7 : decode cX8_routesOfNow 7 = .ok (.aload_n 0, 1) := by decide +kernel
theorem dX8_routesOfNow_8 : decode cX8_routesOfNow 8 = .ok (.new 140, 3) := by decide +kernel
theorem dX8_routesOfNow_11 : decode cX8_routesOfNow 11 = .ok (.dup, 1) := by decide +kernel
theorem dX8_routesOfNow_12 : decode cX8_routesOfNow 12 = .ok (.invokespecial 215, 3) := by decide +kernel
theorem dX8_routesOfNow_15 : decode cX8_routesOfNow 15 = .ok (.putfield 36, 3) := by decide +kernel
theorem dX8_routesOfNow_18 : decode cX8_routesOfNow 18 = .ok (.aload_n 0, 1) := by decide +kernel
theorem dX8_routesOfNow_19 : decode cX8_routesOfNow 19 = .ok (.getfield 36, 3) := by decide +kernel
theorem dX8_routesOfNow_22 : decode cX8_routesOfNow 22 = .ok (.aload_n 0, 1) := by decide +kernel
theorem dX8_routesOfNow_23 : decode cX8_routesOfNow 23 = .ok (.getfield 12, 3) := by decide +kernel
theorem dX8_routesOfNow_26 : decode cX8_routesOfNow 26 = .ok (.getfield 82, 3) := by decide +kernel
theorem dX8_routesOfNow_29 : decode cX8_routesOfNow 29 = .ok (.invokevirtual 216, 3) := by decide +kernel
theorem dX8_routesOfNow_32 : decode cX8_routesOfNow 32 = .ok (.aload_n 0, 1) := by decide +kernel
theorem dX8_routesOfNow_33 : decode cX8_routesOfNow 33 = .ok (.getfield 36, 3) := by decide +kernel
theorem dX8_routesOfNow_36 : decode cX8_routesOfNow 36 = .ok (.areturn, 1) := by decide +kernel
set_option maxRecDepth 20000 in
theorem ggX8_rowBehindPikes_X0_digit : GoodIn wsX8_rowBehindPikes wsX0_digit := goodIn_r _ [7] (by decide +kernel) (by decide +kernel)
set_option maxRecDepth 20000 in
theorem gX8_rowBehindPikes_X0_digit : GoodIn wsX8_rowBehindPikes (va_wsS RX8 196 yX0_digit wsX0_digit) := goodIn_app (goodIn_of _ (by decide +kernel)) ggX8_rowBehindPikes_X0_digit
set_option maxRecDepth 20000 in
theorem ggX8_rowBehindPikes_X6_pike : GoodIn wsX8_rowBehindPikes wsX6_pike := goodIn_r _ [11, 12, 13, 10, 14, 15, 16, 17] (by decide +kernel) (by decide +kernel)
set_option maxRecDepth 20000 in
theorem gX8_rowBehindPikes_X6_pike : GoodIn wsX8_rowBehindPikes (va_wsS RX8 219 yX6_pike wsX6_pike) := goodIn_app (goodIn_of _ (by decide +kernel)) ggX8_rowBehindPikes_X6_pike
theorem dX8_rowBehindPikes_0 : decode cX8_rowBehindPikes 0 = .ok (.aload_n 0, 1) := by decide +kernel
theorem dX8_rowBehindPikes_1 : decode cX8_rowBehindPikes 1 = .ok (.getfield 12, 3) := by decide +kernel
theorem dX8_rowBehindPikes_4 : decode cX8_rowBehindPikes 4 = .ok (.getfield 79, 3) := by decide +kernel
theorem dX8_rowBehindPikes_7 : decode cX8_rowBehindPikes 7 = .ok (.istore_n 3, 1) := by decide +kernel
theorem dX8_rowBehindPikes_8 : decode cX8_rowBehindPikes 8 = .ok (.iconst 0, 1) := by decide +kernel
theorem dX8_rowBehindPikes_9 : decode cX8_rowBehindPikes 9 = .ok (.istore 4, 2) := by decide +kernel
theorem dX8_rowBehindPikes_11 : decode cX8_rowBehindPikes 11 = .ok (.iload 4, 2) := by decide +kernel
theorem dX8_rowBehindPikes_13 : decode cX8_rowBehindPikes 13 = .ok (.iload_n 2, 1) := by decide +kernel
theorem dX8_rowBehindPikes_14 : decode cX8_rowBehindPikes 14 = .ok (.if_icmp .ge 34, 3) := by decide +kernel
theorem dX8_rowBehindPikes_17 : decode cX8_rowBehindPikes 17 = .ok (.iload_n 3, 1) := by decide +kernel
theorem dX8_rowBehindPikes_18 : decode cX8_rowBehindPikes 18 = .ok (.iload_n 1, 1) := by decide +kernel
theorem dX8_rowBehindPikes_19 : decode cX8_rowBehindPikes 19 = .ok (.aload_n 0, 1) := by decide +kernel
theorem dX8_rowBehindPikes_20 : decode cX8_rowBehindPikes 20 = .ok (.getfield 12, 3) := by decide +kernel
theorem dX8_rowBehindPikes_23 : decode cX8_rowBehindPikes 23 = .ok (.getfield 82, 3) := by decide +kernel
theorem dX8_rowBehindPikes_26 : decode cX8_rowBehindPikes 26 = .ok (.iload 4, 2) := by decide +kernel
theorem dX8_rowBehindPikes_28 : decode cX8_rowBehindPikes 28 = .ok (.invokestatic 196, 3) := by decide +kernel
theorem dX8_rowBehindPikes_31 : decode cX8_rowBehindPikes 31 = .ok (.aload_n 0, 1) := by decide +kernel
theorem dX8_rowBehindPikes_32 : decode cX8_rowBehindPikes 32 = .ok (.getfield 12, 3) := by decide +kernel
theorem dX8_rowBehindPikes_35 : decode cX8_rowBehindPikes 35 = .ok (.getfield 82, 3) := by decide +kernel
theorem dX8_rowBehindPikes_38 : decode cX8_rowBehindPikes 38 = .ok (.invokestatic 219, 3) := by decide +kernel
theorem dX8_rowBehindPikes_41 : decode cX8_rowBehindPikes 41 = .ok (.istore_n 3, 1) := by decide +kernel
theorem dX8_rowBehindPikes_42 : decode cX8_rowBehindPikes 42 = .ok (.iinc 4 1, 3) := by decide +kernel
theorem dX8_rowBehindPikes_45 : decode cX8_rowBehindPikes 45 = .ok (.goto (-34), 3) := by decide +kernel
theorem dX8_rowBehindPikes_48 : decode cX8_rowBehindPikes 48 = .ok (.iload_n 3, 1) := by decide +kernel
theorem dX8_rowBehindPikes_49 : decode cX8_rowBehindPikes 49 = .ok (.ireturn, 1) := by decide +kernel
set_option maxRecDepth 20000 in
theorem ggX8_rowBehindDraw_X6_bread : GoodIn wsX8_rowBehindDraw wsX6_bread := goodIn_r _ [4, 5, 6, 3, 7] (by decide +kernel) (by decide +kernel)
set_option maxRecDepth 20000 in
theorem gX8_rowBehindDraw_X6_bread : GoodIn wsX8_rowBehindDraw (va_wsS RX8 222 yX6_bread wsX6_bread) := goodIn_app (goodIn_of _ (by decide +kernel)) ggX8_rowBehindDraw_X6_bread
set_option maxRecDepth 20000 in
theorem ggX8_rowBehindDraw_X6_pike : GoodIn wsX8_rowBehindDraw wsX6_pike := goodIn_r _ [10, 11, 12, 3, 13, 5, 6, 7] (by decide +kernel) (by decide +kernel)
set_option maxRecDepth 20000 in
theorem gX8_rowBehindDraw_X6_pike : GoodIn wsX8_rowBehindDraw (va_wsS RX8 219 yX6_pike wsX6_pike) := goodIn_app (goodIn_of _ (by decide +kernel)) ggX8_rowBehindDraw_X6_pike
theorem dX8_rowBehindDraw_0 : decode cX8_rowBehindDraw 0 = .ok (.iload_n 1, 1) := by decide +kernel
theorem dX8_rowBehindDraw_1 : decode cX8_rowBehindDraw 1 = .ok (.iconst 1, 1) := by decide +kernel
theorem dX8_rowBehindDraw_2 : decode cX8_rowBehindDraw 2 = .ok (.if_icmp .ge 5, 3) := by decide +kernel
theorem dX8_rowBehindDraw_5 : decode cX8_rowBehindDraw 5 = .ok (.iload_n 0, 1) := by decide +kernel
theorem dX8_rowBehindDraw_6 : decode cX8_rowBehindDraw 6 = .ok (.ireturn, 1) := by decide +kernel
theorem dX8_rowBehindDraw_7 : decode cX8_rowBehindDraw 7 = .ok (.iload_n 2, 1) := by decide +kernel
theorem dX8_rowBehindDraw_8 : decode cX8_rowBehindDraw 8 = .ok (.iconst 2, 1) := by decide +kernel
theorem dX8_rowBehindDraw_9 : decode cX8_rowBehindDraw 9 = .ok (.idiv, 1) := by decide +kernel
theorem dX8_rowBehindDraw_10 : decode cX8_rowBehindDraw 10 = .ok (.iload_n 1, 1) := by decide +kernel
theorem dX8_rowBehindDraw_11 : decode cX8_rowBehindDraw 11 = .ok (.irem, 1) := by decide +kernel
theorem dX8_rowBehindDraw_12 : decode cX8_rowBehindDraw 12 = .ok (.istore_n 3, 1) := by decide +kernel
theorem dX8_rowBehindDraw_13 : decode cX8_rowBehindDraw 13 = .ok (.iload_n 2, 1) := by decide +kernel
theorem dX8_rowBehindDraw_14 : decode cX8_rowBehindDraw 14 = .ok (.iconst 2, 1) := by decide +kernel
theorem dX8_rowBehindDraw_15 : decode cX8_rowBehindDraw 15 = .ok (.irem, 1) := by decide +kernel
theorem dX8_rowBehindDraw_16 : decode cX8_rowBehindDraw 16 = .ok (.ifCond .ne 11, 3) := by decide +kernel
theorem dX8_rowBehindDraw_19 : decode cX8_rowBehindDraw 19 = .ok (.iload_n 0, 1) := by decide +kernel
theorem dX8_rowBehindDraw_20 : decode cX8_rowBehindDraw 20 = .ok (.iload_n 3, 1) := by decide +kernel
theorem dX8_rowBehindDraw_21 : decode cX8_rowBehindDraw 21 = .ok (.invokestatic 222, 3) := by decide +kernel
theorem dX8_rowBehindDraw_24 : decode cX8_rowBehindDraw 24 = .ok (.goto 9, 3) := by decide +kernel
theorem dX8_rowBehindDraw_27 : decode cX8_rowBehindDraw 27 = .ok (.iload_n 0, 1) := by decide +kernel
theorem dX8_rowBehindDraw_28 : decode cX8_rowBehindDraw 28 = .ok (.iload_n 3, 1) := by decide +kernel
theorem dX8_rowBehindDraw_29 : decode cX8_rowBehindDraw 29 = .ok (.iload_n 1, 1) := by decide +kernel
theorem dX8_rowBehindDraw_30 : decode cX8_rowBehindDraw 30 = .ok (.invokestatic 219, 3) := by decide +kernel
theorem dX8_rowBehindDraw_33 : decode cX8_rowBehindDraw 33 = .ok (.ireturn, 1) := by decide +kernel
set_option maxRecDepth 20000 in
theorem ggX9_init_X9_plain : GoodIn wsX9_init wsX9_plain := goodIn_r _ [25, 4, 5, 26, 7, 8, 27, 28, 29, 30, 31, 32, 33, 34, 35, 36, 37, 38, 39, 40, 41, 42, 43, 44, 45] (by decide +kernel) (by decide +kernel)
set_option maxRecDepth 20000 in
theorem gX9_init_X9_plain : GoodIn wsX9_init (wsV RX9 57 RX9 yX9_plain wsX9_plain) := goodIn_app (goodIn_of _ (by decide +kernel)) ggX9_init_X9_plain
