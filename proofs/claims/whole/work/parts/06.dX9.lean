theorem dX9_init_0 : decode cX9_init 0 = .ok (.aload_n 0, 1) := by decide +kernel
theorem dX9_init_1 : decode cX9_init 1 = .ok (.invokespecial 1, 3) := by decide +kernel
theorem dX9_init_4 : decode cX9_init 4 = .ok (.aload_n 0, 1) := by decide +kernel
theorem dX9_init_5 : decode cX9_init 5 = .ok (.iconst 4, 1) := by decide +kernel
theorem dX9_init_6 : decode cX9_init 6 = .ok (.putfield 7, 3) := by decide +kernel
theorem dX9_init_9 : decode cX9_init 9 = .ok (.aload_n 0, 1) := by decide +kernel
theorem dX9_init_10 : decode cX9_init 10 = .ok (.iconst 4, 1) := by decide +kernel
theorem dX9_init_11 : decode cX9_init 11 = .ok (.putfield 13, 3) := by decide +kernel
theorem dX9_init_14 : decode cX9_init 14 = .ok (.aload_n 0, 1) := by decide +kernel
theorem dX9_init_15 : decode cX9_init 15 = .ok (.bipush 7, 2) := by decide +kernel
theorem dX9_init_17 : decode cX9_init 17 = .ok (.newarray .int, 2) := by decide +kernel
theorem dX9_init_19 : decode cX9_init 19 = .ok (.putfield 16, 3) := by decide +kernel
theorem dX9_init_22 : decode cX9_init 22 = .ok (.aload_n 0, 1) := by decide +kernel
theorem dX9_init_23 : decode cX9_init 23 = .ok (.bipush 7, 2) := by decide +kernel
theorem dX9_init_25 : decode cX9_init 25 = .ok (.newarray .int, 2) := by decide +kernel
theorem dX9_init_27 : decode cX9_init 27 = .ok (.putfield 20, 3) := by decide +kernel
theorem dX9_init_30 : decode cX9_init 30 = .ok (.aload_n 0, 1) := by decide +kernel
theorem dX9_init_31 : decode cX9_init 31 = .ok (.bipush 12, 2) := by decide +kernel
theorem dX9_init_33 : decode cX9_init 33 = .ok (.newarray .int, 2) := by decide +kernel
theorem dX9_init_35 : decode cX9_init 35 = .ok (.putfield 23, 3) := by decide +kernel
theorem dX9_init_38 : decode cX9_init 38 = .ok (.aload_n 0, 1) := by decide +kernel
theorem dX9_init_39 : decode cX9_init 39 = .ok (.bipush 60, 2) := by decide +kernel
theorem dX9_init_41 : decode cX9_init 41 = .ok (.newarray .int, 2) := by decide +kernel
theorem dX9_init_43 : decode cX9_init 43 = .ok (.putfield 26, 3) := by decide +kernel
theorem dX9_init_46 : decode cX9_init 46 = .ok (.aload_n 0, 1) := by decide +kernel
theorem dX9_init_47 : decode cX9_init 47 = .ok (.bipush 8, 2) := by decide +kernel
theorem dX9_init_49 : decode cX9_init 49 = .ok (.newarray .int, 2) := by decide +kernel
theorem dX9_init_51 : decode cX9_init 51 = .ok (.putfield 29, 3) := by decide +kernel
theorem dX9_init_54 : decode cX9_init 54 = .ok (.aload_n 0, 1) := by decide +kernel
theorem dX9_init_55 : decode cX9_init 55 = .ok (.bipush 7, 2) := by decide +kernel
theorem dX9_init_57 : decode cX9_init 57 = .ok (.newarray .int, 2) := by decide +kernel
theorem dX9_init_59 : decode cX9_init 59 = .ok (.putfield 32, 3) := by decide +kernel
theorem dX9_init_62 : decode cX9_init 62 = .ok (.aload_n 0, 1) := by decide +kernel
theorem dX9_init_63 : decode cX9_init 63 = .ok (.sipush 5040, 3) := by decide +kernel
theorem dX9_init_66 : decode cX9_init 66 = .ok (.newarray .int, 2) := by decide +kernel
theorem dX9_init_68 : decode cX9_init 68 = .ok (.putfield 35, 3) := by decide +kernel
theorem dX9_init_71 : decode cX9_init 71 = .ok (.aload_n 0, 1) := by decide +kernel
theorem dX9_init_72 : decode cX9_init 72 = .ok (.sipush 5040, 3) := by decide +kernel
theorem dX9_init_75 : decode cX9_init 75 = .ok (.newarray .int, 2) := by decide +kernel
theorem dX9_init_77 : decode cX9_init 77 = .ok (.putfield 38, 3) := by decide +kernel
theorem dX9_init_80 : decode cX9_init 80 = .ok (.aload_n 0, 1) := by decide +kernel
theorem dX9_init_81 : decode cX9_init 81 = .ok (.sipush 5040, 3) := by decide +kernel
theorem dX9_init_84 : decode cX9_init 84 = .ok (.newarray .int, 2) := by decide +kernel
theorem dX9_init_86 : decode cX9_init 86 = .ok (.putfield 41, 3) := by decide +kernel
theorem dX9_init_89 : decode cX9_init 89 = .ok (.aload_n 0, 1) := by decide +kernel
theorem dX9_init_90 : decode cX9_init 90 = .ok (.sipush 5040, 3) := by decide +kernel
theorem dX9_init_93 : decode cX9_init 93 = .ok (.newarray .int, 2) := by decide +kernel
theorem dX9_init_95 : decode cX9_init 95 = .ok (.putfield 44, 3) := by decide +kernel
theorem dX9_init_98 : decode cX9_init 98 = .ok (.aload_n 0, 1) := by decide +kernel
theorem dX9_init_99 : decode cX9_init 99 = .ok (.bipush 64, 2) := by decide +kernel
theorem dX9_init_101 : decode cX9_init 101 = .ok (.newarray .int, 2) := by decide +kernel
theorem dX9_init_103 : decode cX9_init 103 = .ok (.putfield 47, 3) := by decide +kernel
theorem dX9_init_106 : decode cX9_init 106 = .ok (.aload_n 0, 1) := by decide +kernel
theorem dX9_init_107 : decode cX9_init 107 = .ok (.bipush 64, 2) := by decide +kernel
theorem dX9_init_109 : decode cX9_init 109 = .ok (.newarray .int, 2) := by decide +kernel
theorem dX9_init_111 : decode cX9_init 111 = .ok (.putfield 50, 3) := by decide +kernel
theorem dX9_init_114 : decode cX9_init 114 = .ok (.aload_n 0, 1) := by decide +kernel
theorem dX9_init_115 : decode cX9_init 115 = .ok (.iconst 2, 1) := by decide +kernel
theorem dX9_init_116 : decode cX9_init 116 = .ok (.newarray .boolean, 2) := by decide +kernel
theorem dX9_init_118 : decode cX9_init 118 = .ok (.putfield 53, 3) := by decide +kernel
theorem dX9_init_121 : decode cX9_init 121 = .ok (.aload_n 0, 1) := by decide +kernel
theorem dX9_init_122 : decode cX9_init 122 = .ok (.invokevirtual 57, 3) := by decide +kernel
theorem dX9_init_125 : decode cX9_init 125 = .ok (.return_, 1) := by decide +kernel
theorem dX9_plain_0 : decode cX9_plain 0 = .ok (.aload_n 0, 1) := by decide +kernel
theorem dX9_plain_1 : decode cX9_plain 1 = .ok (.aload_n 0, 1) := by decide +kernel
theorem dX9_plain_2 : decode cX9_plain 2 = .ok (.getfield 7, 3) := by decide +kernel
theorem dX9_plain_5 : decode cX9_plain 5 = .ok (.putfield 13, 3) := by decide +kernel
theorem dX9_plain_8 : decode cX9_plain 8 = .ok (.aload_n 0, 1) := by decide +kernel
theorem dX9_plain_9 : decode cX9_plain 9 = .ok (.iconst 0, 1) := by decide +kernel
theorem dX9_plain_10 : decode cX9_plain 10 = .ok (.putfield 60, 3) := by decide +kernel
theorem dX9_plain_13 : decode cX9_plain 13 = .ok (.iconst 0, 1) := by decide +kernel
theorem dX9_plain_14 : decode cX9_plain 14 = .ok (.istore_n 1, 1) := by decide +kernel
theorem dX9_plain_15 : decode cX9_plain 15 = .ok (.iload_n 1, 1) := by decide +kernel
theorem dX9_plain_16 : decode cX9_plain 16 = .ok (.bipush 7, 2) := by decide +kernel
theorem dX9_plain_18 : decode cX9_plain 18 = .ok (.if_icmp .ge 25, 3) := by decide +kernel
theorem dX9_plain_21 : decode cX9_plain 21 = .ok (.aload_n 0, 1) := by decide +kernel
theorem dX9_plain_22 : decode cX9_plain 22 = .ok (.getfield 16, 3) := by decide +kernel
theorem dX9_plain_25 : decode cX9_plain 25 = .ok (.iload_n 1, 1) := by decide +kernel
theorem dX9_plain_26 : decode cX9_plain 26 = .ok (.iload_n 1, 1) := by decide +kernel
theorem dX9_plain_27 : decode cX9_plain 27 = .ok (.iconst 1, 1) := by decide +kernel
theorem dX9_plain_28 : decode cX9_plain 28 = .ok (.iadd, 1) := by decide +kernel
theorem dX9_plain_29 : decode cX9_plain 29 = .ok (.iastore, 1) := by decide +kernel
theorem dX9_plain_30 : decode cX9_plain 30 = .ok (.aload_n 0, 1) := by decide +kernel
theorem dX9_plain_31 : decode cX9_plain 31 = .ok (.getfield 20, 3) := by decide +kernel
theorem dX9_plain_34 : decode cX9_plain 34 = .ok (.iload_n 1, 1) := by decide +kernel
theorem dX9_plain_35 : decode cX9_plain 35 = .ok (.iload_n 1, 1) := by decide +kernel
theorem dX9_plain_36 : decode cX9_plain 36 = .ok (.iastore, 1) := by decide +kernel
theorem dX9_plain_37 : decode cX9_plain 37 = .ok (.iinc 1 1, 3) := by decide +kernel
theorem dX9_plain_40 : decode cX9_plain 40 = .ok (.goto (-25), 3) := by decide +kernel
theorem dX9_plain_43 : decode cX9_plain 43 = .ok (.return_, 1) := by decide +kernel
theorem dX9_in_0 : decode cX9_in 0 = .ok (.iload_n 0, 1) := by decide +kernel
theorem dX9_in_1 : decode cX9_in 1 = .ok (.iload_n 1, 1) := by decide +kernel
theorem dX9_in_2 : decode cX9_in 2 = .ok (.if_icmp .lt 12, 3) := by decide +kernel
theorem dX9_in_5 : decode cX9_in 5 = .ok (.iload_n 0, 1) := by decide +kernel
theorem dX9_in_6 : decode cX9_in 6 = .ok (.iload_n 2, 1) := by decide +kernel
theorem dX9_in_7 : decode cX9_in 7 = .ok (.if_icmp .gt 7, 3) := by decide +kernel
theorem dX9_in_10 : decode cX9_in 10 = .ok (.iconst 1, 1) := by decide +kernel
theorem dX9_in_11 : decode cX9_in 11 = .ok (.goto 4, 3) := by decide +kernel
theorem dX9_in_14 : decode cX9_in 14 = .ok (.iconst 0, 1) := by decide +kernel
theorem dX9_in_15 : decode cX9_in 15 = .ok (.ireturn, 1) := by decide +kernel
set_option maxRecDepth 20000 in
theorem ggX9_swans_X9_in : GoodIn wsX9_swans wsX9_in := goodIn_r _ [5] (by decide +kernel) (by decide +kernel)
set_option maxRecDepth 20000 in
theorem gX9_swans_X9_in : GoodIn wsX9_swans (va_wsS RX9 63 yX9_in wsX9_in) := goodIn_app (goodIn_of _ (by decide +kernel)) ggX9_swans_X9_in
set_option maxRecDepth 20000 in
theorem ggX9_swans_X9_plain : GoodIn wsX9_swans wsX9_plain := goodIn_r _ [9, 1, 10, 11, 12, 13, 14, 15, 16, 17, 18, 19, 20, 21, 22, 23, 24, 25, 26, 27, 28, 29, 30, 31, 32] (by decide +kernel) (by decide +kernel)
set_option maxRecDepth 20000 in
theorem gX9_swans_X9_plain : GoodIn wsX9_swans (wsV RX9 57 RX9 yX9_plain wsX9_plain) := goodIn_app (goodIn_of _ (by decide +kernel)) ggX9_swans_X9_plain
theorem dX9_swans_0 : decode cX9_swans 0 = .ok (.iload_n 1, 1) := by decide +kernel
theorem dX9_swans_1 : decode cX9_swans 1 = .ok (.iconst 1, 1) := by decide +kernel
theorem dX9_swans_2 : decode cX9_swans 2 = .ok (.bipush 7, 2) := by decide +kernel
theorem dX9_swans_4 : decode cX9_swans 4 = .ok (.invokestatic 63, 3) := by decide +kernel
theorem dX9_swans_7 : decode cX9_swans 7 = .ok (.ifCond .ne 6, 3) := by decide +kernel
theorem dX9_swans_10 : decode cX9_swans 10 = .ok (.bipush (-2), 2) := by decide +kernel
theorem dX9_swans_12 : decode cX9_swans 12 = .ok (.ireturn, 1) := by decide +kernel
theorem dX9_swans_13 : decode cX9_swans 13 = .ok (.aload_n 0, 1) := by decide +kernel
theorem dX9_swans_14 : decode cX9_swans 14 = .ok (.getfield 7, 3) := by decide +kernel
theorem dX9_swans_17 : decode cX9_swans 17 = .ok (.istore_n 2, 1) := by decide +kernel
theorem dX9_swans_18 : decode cX9_swans 18 = .ok (.aload_n 0, 1) := by decide +kernel
theorem dX9_swans_19 : decode cX9_swans 19 = .ok (.iload_n 1, 1) := by decide +kernel
theorem dX9_swans_20 : decode cX9_swans 20 = .ok (.putfield 7, 3) := by decide +kernel
theorem dX9_swans_23 : decode cX9_swans 23 = .ok (.aload_n 0, 1) := by decide +kernel
theorem dX9_swans_24 : decode cX9_swans 24 = .ok (.invokevirtual 57, 3) := by decide +kernel
theorem dX9_swans_27 : decode cX9_swans 27 = .ok (.iload_n 2, 1) := by decide +kernel
theorem dX9_swans_28 : decode cX9_swans 28 = .ok (.ireturn, 1) := by decide +kernel
set_option maxRecDepth 20000 in
theorem ggX9_isSwan_X9_in : GoodIn wsX9_isSwan wsX9_in := goodIn_r _ [5] (by decide +kernel) (by decide +kernel)
set_option maxRecDepth 20000 in
theorem gX9_isSwan_X9_in : GoodIn wsX9_isSwan (va_wsS RX9 63 yX9_in wsX9_in) := goodIn_app (goodIn_of _ (by decide +kernel)) ggX9_isSwan_X9_in
theorem dX9_isSwan_0 : decode cX9_isSwan 0 = .ok (.iload_n 1, 1) := by decide +kernel
theorem dX9_isSwan_1 : decode cX9_isSwan 1 = .ok (.iconst 0, 1) := by decide +kernel
theorem dX9_isSwan_2 : decode cX9_isSwan 2 = .ok (.aload_n 0, 1) := by decide +kernel
theorem dX9_isSwan_3 : decode cX9_isSwan 3 = .ok (.getfield 7, 3) := by decide +kernel
theorem dX9_isSwan_6 : decode cX9_isSwan 6 = .ok (.iconst 1, 1) := by decide +kernel
theorem dX9_isSwan_7 : decode cX9_isSwan 7 = .ok (.isub, 1) := by decide +kernel
theorem dX9_isSwan_8 : decode cX9_isSwan 8 = .ok (.invokestatic 63, 3) := by decide +kernel
theorem dX9_isSwan_11 : decode cX9_isSwan 11 = .ok (.ireturn, 1) := by decide +kernel
set_option maxRecDepth 20000 in
theorem ggX9_number_X9_isSwan : GoodIn wsX9_number wsX9_isSwan := goodIn_r _ [6, 7, 8, 9, 5, 10, 11, 12, 13, 14, 15, 16, 17, 18, 19, 20, 21, 22, 23, 24, 25, 26, 27, 28, 29] (by decide +kernel) (by decide +kernel)
set_option maxRecDepth 20000 in
theorem gX9_number_X9_isSwan : GoodIn wsX9_number (wsV RX9 67 RX9 yX9_isSwan wsX9_isSwan) := goodIn_app (goodIn_of _ (by decide +kernel)) ggX9_number_X9_isSwan
set_option maxRecDepth 20000 in
theorem ggX9_number_X9_in : GoodIn wsX9_number wsX9_in := goodIn_r _ [10] (by decide +kernel) (by decide +kernel)
set_option maxRecDepth 20000 in
theorem gX9_number_X9_in : GoodIn wsX9_number (va_wsS RX9 63 yX9_in wsX9_in) := goodIn_app (goodIn_of _ (by decide +kernel)) ggX9_number_X9_in
theorem dX9_number_0 : decode cX9_number 0 = .ok (.aload_n 0, 1) := by decide +kernel
theorem dX9_number_1 : decode cX9_number 1 = .ok (.iload_n 1, 1) := by decide +kernel
theorem dX9_number_2 : decode cX9_number 2 = .ok (.invokevirtual 67, 3) := by decide +kernel
theorem dX9_number_5 : decode cX9_number 5 = .ok (.ifCond .ne 5, 3) := by decide +kernel
theorem dX9_number_8 : decode cX9_number 8 = .ok (.iconst (-1), 1) := by decide +kernel
theorem dX9_number_9 : decode cX9_number 9 = .ok (.ireturn, 1) := by decide +kernel
theorem dX9_number_10 : decode cX9_number 10 = .ok (.iload_n 2, 1) := by decide +kernel
theorem dX9_number_11 : decode cX9_number 11 = .ok (.iconst 0, 1) := by decide +kernel
theorem dX9_number_12 : decode cX9_number 12 = .ok (.bipush 99, 2) := by decide +kernel
theorem dX9_number_14 : decode cX9_number 14 = .ok (.invokestatic 63, 3) := by decide +kernel
theorem dX9_number_17 : decode cX9_number 17 = .ok (.ifCond .ne 6, 3) := by decide +kernel
theorem dX9_number_20 : decode cX9_number 20 = .ok (.bipush (-2), 2) := by decide +kernel
theorem dX9_number_22 : decode cX9_number 22 = .ok (.ireturn, 1) := by decide +kernel
theorem dX9_number_23 : decode cX9_number 23 = .ok (.aload_n 0, 1) := by decide +kernel
theorem dX9_number_24 : decode cX9_number 24 = .ok (.getfield 16, 3) := by decide +kernel
theorem dX9_number_27 : decode cX9_number 27 = .ok (.iload_n 1, 1) := by decide +kernel
theorem dX9_number_28 : decode cX9_number 28 = .ok (.iaload, 1) := by decide +kernel
theorem dX9_number_29 : decode cX9_number 29 = .ok (.istore_n 3, 1) := by decide +kernel
theorem dX9_number_30 : decode cX9_number 30 = .ok (.aload_n 0, 1) := by decide +kernel
theorem dX9_number_31 : decode cX9_number 31 = .ok (.getfield 16, 3) := by decide +kernel
theorem dX9_number_34 : decode cX9_number 34 = .ok (.iload_n 1, 1) := by decide +kernel
theorem dX9_number_35 : decode cX9_number 35 = .ok (.iload_n 2, 1) := by decide +kernel
theorem dX9_number_36 : decode cX9_number 36 = .ok (.iastore, 1) := by decide +kernel
theorem dX9_number_37 : decode cX9_number 37 = .ok (.iload_n 3, 1) := by decide +kernel
theorem dX9_number_38 : decode cX9_number 38 = .ok (.ireturn, 1) := by decide +kernel
set_option maxRecDepth 20000 in
theorem ggX9_say_X9_in : GoodIn wsX9_say wsX9_in := goodIn_r _ [6] (by decide +kernel) (by decide +kernel)
set_option maxRecDepth 20000 in
theorem gX9_say_X9_in : GoodIn wsX9_say (va_wsS RX9 63 yX9_in wsX9_in) := goodIn_app (goodIn_of _ (by decide +kernel)) ggX9_say_X9_in
theorem dX9_say_0 : decode cX9_say 0 = .ok (.iload_n 1, 1) := by decide +kernel
theorem dX9_say_1 : decode cX9_say 1 = .ok (.bipush 33, 2) := by decide +kernel
theorem dX9_say_3 : decode cX9_say 3 = .ok (.bipush 126, 2) := by decide +kernel
theorem dX9_say_5 : decode cX9_say 5 = .ok (.invokestatic 63, 3) := by decide +kernel
theorem dX9_say_8 : decode cX9_say 8 = .ok (.ifCond .ne 6, 3) := by decide +kernel
theorem dX9_say_11 : decode cX9_say 11 = .ok (.bipush (-2), 2) := by decide +kernel
theorem dX9_say_13 : decode cX9_say 13 = .ok (.ireturn, 1) := by decide +kernel
theorem dX9_say_14 : decode cX9_say 14 = .ok (.aload_n 0, 1) := by decide +kernel
theorem dX9_say_15 : decode cX9_say 15 = .ok (.getfield 71, 3) := by decide +kernel
theorem dX9_say_18 : decode cX9_say 18 = .ok (.bipush 60, 2) := by decide +kernel
theorem dX9_say_20 : decode cX9_say 20 = .ok (.if_icmp .ne 6, 3) := by decide +kernel
theorem dX9_say_23 : decode cX9_say 23 = .ok (.bipush (-4), 2) := by decide +kernel
theorem dX9_say_25 : decode cX9_say 25 = .ok (.ireturn, 1) := by decide +kernel
theorem dX9_say_26 : decode cX9_say 26 = .ok (.aload_n 0, 1) := by decide +kernel
theorem dX9_say_27 : decode cX9_say 27 = .ok (.getfield 26, 3) := by decide +kernel
theorem dX9_say_30 : decode cX9_say 30 = .ok (.aload_n 0, 1) := by decide +kernel
theorem dX9_say_31 : decode cX9_say 31 = .ok (.getfield 71, 3) := by decide +kernel
theorem dX9_say_34 : decode cX9_say 34 = .ok (.iload_n 1, 1) := by decide +kernel
theorem dX9_say_35 : decode cX9_say 35 = .ok (.iastore, 1) := by decide +kernel
theorem dX9_say_36 : decode cX9_say 36 = .ok (.aload_n 0, 1) := by decide +kernel
theorem dX9_say_37 : decode cX9_say 37 = .ok (.dup, 1) := by decide +kernel
theorem dX9_say_38 : decode cX9_say 38 = .ok (.getfield 71, 3) := by decide +kernel
theorem dX9_say_41 : decode cX9_say 41 = .ok (.iconst 1, 1) := by decide +kernel
theorem dX9_say_42 : decode cX9_say 42 = .ok (.iadd, 1) := by decide +kernel
theorem dX9_say_43 : decode cX9_say 43 = .ok (.putfield 71, 3) := by decide +kernel
theorem dX9_say_46 : decode cX9_say 46 = .ok (.aload_n 0, 1) := by decide +kernel
theorem dX9_say_47 : decode cX9_say 47 = .ok (.getfield 71, 3) := by decide +kernel
theorem dX9_say_50 : decode cX9_say 50 = .ok (.ireturn, 1) := by decide +kernel
theorem dX9_wipe_0 : decode cX9_wipe 0 = .ok (.aload_n 0, 1) := by decide +kernel
theorem dX9_wipe_1 : decode cX9_wipe 1 = .ok (.getfield 71, 3) := by decide +kernel
theorem dX9_wipe_4 : decode cX9_wipe 4 = .ok (.istore_n 1, 1) := by decide +kernel
theorem dX9_wipe_5 : decode cX9_wipe 5 = .ok (.aload_n 0, 1) := by decide +kernel
theorem dX9_wipe_6 : decode cX9_wipe 6 = .ok (.iconst 0, 1) := by decide +kernel
theorem dX9_wipe_7 : decode cX9_wipe 7 = .ok (.putfield 71, 3) := by decide +kernel
theorem dX9_wipe_10 : decode cX9_wipe 10 = .ok (.iload_n 1, 1) := by decide +kernel
theorem dX9_wipe_11 : decode cX9_wipe 11 = .ok (.ireturn, 1) := by decide +kernel
theorem dX9_isLetter_0 : decode cX9_isLetter 0 = .ok (.iload_n 0, 1) := by decide +kernel
theorem dX9_isLetter_1 : decode cX9_isLetter 1 = .ok (.bipush 98, 2) := by decide +kernel
theorem dX9_isLetter_3 : decode cX9_isLetter 3 = .ok (.if_icmp .eq 21, 3) := by decide +kernel
theorem dX9_isLetter_6 : decode cX9_isLetter 6 = .ok (.iload_n 0, 1) := by decide +kernel
theorem dX9_isLetter_7 : decode cX9_isLetter 7 = .ok (.bipush 112, 2) := by decide +kernel
theorem dX9_isLetter_9 : decode cX9_isLetter 9 = .ok (.if_icmp .eq 15, 3) := by decide +kernel
theorem dX9_isLetter_12 : decode cX9_isLetter 12 = .ok (.iload_n 0, 1) := by decide +kernel
theorem dX9_isLetter_13 : decode cX9_isLetter 13 = .ok (.bipush 103, 2) := by decide +kernel
theorem dX9_isLetter_15 : decode cX9_isLetter 15 = .ok (.if_icmp .eq 9, 3) := by decide +kernel
theorem dX9_isLetter_18 : decode cX9_isLetter 18 = .ok (.iload_n 0, 1) := by decide +kernel
theorem dX9_isLetter_19 : decode cX9_isLetter 19 = .ok (.bipush 120, 2) := by decide +kernel
theorem dX9_isLetter_21 : decode cX9_isLetter 21 = .ok (.if_icmp .ne 7, 3) := by decide +kernel
theorem dX9_isLetter_24 : decode cX9_isLetter 24 = .ok (.iconst 1, 1) := by decide +kernel
theorem dX9_isLetter_25 : decode cX9_isLetter 25 = .ok (.goto 4, 3) := by decide +kernel
theorem dX9_isLetter_28 : decode cX9_isLetter 28 = .ok (.iconst 0, 1) := by decide +kernel
theorem dX9_isLetter_29 : decode cX9_isLetter 29 = .ok (.ireturn, 1) := by decide +kernel
set_option maxRecDepth 20000 in
theorem ggX9_faultOf_X9_isLetter : GoodIn wsX9_faultOf wsX9_isLetter := goodIn_r _ [6] (by decide +kernel) (by decide +kernel)
set_option maxRecDepth 20000 in
theorem gX9_faultOf_X9_isLetter : GoodIn wsX9_faultOf (va_wsS RX9 74 yX9_isLetter wsX9_isLetter) := goodIn_app (goodIn_of _ (by decide +kernel)) ggX9_faultOf_X9_isLetter
set_option maxRecDepth 20000 in
theorem ggX9_faultOf_X9_in : GoodIn wsX9_faultOf wsX9_in := goodIn_r _ [9] (by decide +kernel) (by decide +kernel)
set_option maxRecDepth 20000 in
theorem gX9_faultOf_X9_in : GoodIn wsX9_faultOf (va_wsS RX9 63 yX9_in wsX9_in) := goodIn_app (goodIn_of _ (by decide +kernel)) ggX9_faultOf_X9_in
theorem dX9_faultOf_0 : decode cX9_faultOf 0 = .ok (.iconst 0, 1) := by decide +kernel
theorem dX9_faultOf_1 : decode cX9_faultOf 1 = .ok (.istore_n 1, 1) := by decide +kernel
theorem dX9_faultOf_2 : decode cX9_faultOf 2 = .ok (.iconst 0, 1) := by decide +kernel
theorem dX9_faultOf_3 : decode cX9_faultOf 3 = .ok (.istore_n 2, 1) := by decide +kernel
theorem dX9_faultOf_4 : decode cX9_faultOf 4 = .ok (.iconst 0, 1) := by decide +kernel
theorem dX9_faultOf_5 : decode cX9_faultOf 5 = .ok (.istore_n 3, 1) := by decide +kernel
theorem dX9_faultOf_6 : decode cX9_faultOf 6 = .ok (.iload_n 3, 1) := by decide +kernel
theorem dX9_faultOf_7 : decode cX9_faultOf 7 = .ok (.aload_n 0, 1) := by decide +kernel
theorem dX9_faultOf_8 : decode cX9_faultOf 8 = .ok (.getfield 71, 3) := by decide +kernel
theorem dX9_faultOf_11 : decode cX9_faultOf 11 = .ok (.if_icmp .ge 121, 3) := by decide +kernel
theorem dX9_faultOf_14 : decode cX9_faultOf 14 = .ok (.aload_n 0, 1) := by decide +kernel
theorem dX9_faultOf_15 : decode cX9_faultOf 15 = .ok (.getfield 26, 3) := by decide +kernel
theorem dX9_faultOf_18 : decode cX9_faultOf 18 = .ok (.iload_n 3, 1) := by decide +kernel
theorem dX9_faultOf_19 : decode cX9_faultOf 19 = .ok (.iaload, 1) := by decide +kernel
theorem dX9_faultOf_20 : decode cX9_faultOf 20 = .ok (.istore 4, 2) := by decide +kernel
theorem dX9_faultOf_22 : decode cX9_faultOf 22 = .ok (.iload_n 2, 1) := by decide +kernel
theorem dX9_faultOf_23 : decode cX9_faultOf 23 = .ok (.iload 4, 2) := by decide +kernel
theorem dX9_faultOf_25 : decode cX9_faultOf 25 = .ok (.bipush 63, 2) := by decide +kernel
theorem dX9_faultOf_27 : decode cX9_faultOf 27 = .ok (.if_icmp .ne 7, 3) := by decide +kernel
theorem dX9_faultOf_30 : decode cX9_faultOf 30 = .ok (.iconst 1, 1) := by decide +kernel
theorem dX9_faultOf_31 : decode cX9_faultOf 31 = .ok (.goto 4, 3) := by decide +kernel
theorem dX9_faultOf_34 : decode cX9_faultOf 34 = .ok (.iconst 0, 1) := by decide +kernel
theorem dX9_faultOf_35 : decode cX9_faultOf 35 = .ok (.iadd, 1) := by decide +kernel
theorem dX9_faultOf_36 : decode cX9_faultOf 36 = .ok (.istore_n 2, 1) := by decide +kernel
theorem dX9_faultOf_37 : decode cX9_faultOf 37 = .ok (.iload_n 1, 1) := by decide +kernel
theorem dX9_faultOf_38 : decode cX9_faultOf 38 = .ok (.ifCond .ne 26, 3) := by decide +kernel
theorem dX9_faultOf_41 : decode cX9_faultOf 41 = .ok (.iload 4, 2) := by decide +kernel
theorem dX9_faultOf_43 : decode cX9_faultOf 43 = .ok (.bipush 114, 2) := by decide +kernel
theorem dX9_faultOf_45 : decode cX9_faultOf 45 = .ok (.if_icmp .eq 11, 3) := by decide +kernel
theorem dX9_faultOf_48 : decode cX9_faultOf 48 = .ok (.iload 4, 2) := by decide +kernel
theorem dX9_faultOf_50 : decode cX9_faultOf 50 = .ok (.invokestatic 74, 3) := by decide +kernel
theorem dX9_faultOf_53 : decode cX9_faultOf 53 = .ok (.ifCond .eq 7, 3) := by decide +kernel
theorem dX9_faultOf_56 : decode cX9_faultOf 56 = .ok (.iconst 1, 1) := by decide +kernel
theorem dX9_faultOf_57 : decode cX9_faultOf 57 = .ok (.goto 42, 3) := by decide +kernel
theorem dX9_faultOf_60 : decode cX9_faultOf 60 = .ok (.iconst 0, 1) := by decide +kernel
theorem dX9_faultOf_61 : decode cX9_faultOf 61 = .ok (.goto 38, 3) := by decide +kernel
theorem dX9_faultOf_64 : decode cX9_faultOf 64 = .ok (.iload 4, 2) := by decide +kernel
theorem dX9_faultOf_66 : decode cX9_faultOf 66 = .ok (.bipush 48, 2) := by decide +kernel
theorem dX9_faultOf_68 : decode cX9_faultOf 68 = .ok (.bipush 57, 2) := by decide +kernel
theorem dX9_faultOf_70 : decode cX9_faultOf 70 = .ok (.invokestatic 63, 3) := by decide +kernel
theorem dX9_faultOf_73 : decode cX9_faultOf 73 = .ok (.ifCond .ne 21, 3) := by decide +kernel
theorem dX9_faultOf_76 : decode cX9_faultOf 76 = .ok (.iload 4, 2) := by decide +kernel
theorem dX9_faultOf_78 : decode cX9_faultOf 78 = .ok (.bipush 63, 2) := by decide +kernel
theorem dX9_faultOf_80 : decode cX9_faultOf 80 = .ok (.if_icmp .ne 18, 3) := by decide +kernel
theorem dX9_faultOf_83 : decode cX9_faultOf 83 = .ok (.iload_n 1, 1) := by decide +kernel
theorem dX9_faultOf_84 : decode cX9_faultOf 84 = .ok (.bipush 120, 2) := by decide +kernel
theorem dX9_faultOf_86 : decode cX9_faultOf 86 = .ok (.if_icmp .eq 12, 3) := by decide +kernel
theorem dX9_faultOf_89 : decode cX9_faultOf 89 = .ok (.iload_n 2, 1) := by decide +kernel
theorem dX9_faultOf_90 : decode cX9_faultOf 90 = .ok (.iconst 4, 1) := by decide +kernel
theorem dX9_faultOf_91 : decode cX9_faultOf 91 = .ok (.if_icmp .ge 7, 3) := by decide +kernel
theorem dX9_faultOf_94 : decode cX9_faultOf 94 = .ok (.iconst 1, 1) := by decide +kernel
theorem dX9_faultOf_95 : decode cX9_faultOf 95 = .ok (.goto 4, 3) := by decide +kernel
theorem dX9_faultOf_98 : decode cX9_faultOf 98 = .ok (.iconst 0, 1) := by decide +kernel
theorem dX9_faultOf_99 : decode cX9_faultOf 99 = .ok (.istore 5, 2) := by decide +kernel
theorem dX9_faultOf_101 : decode cX9_faultOf 101 = .ok (.iload 5, 2) := by decide +kernel
theorem dX9_faultOf_103 : decode cX9_faultOf 103 = .ok (.ifCond .ne 5, 3) := by decide +kernel
theorem dX9_faultOf_106 : decode cX9_faultOf 106 = .ok (.iload_n 3, 1) := by decide +kernel
theorem dX9_faultOf_107 : decode cX9_faultOf 107 = .ok (.ireturn, 1) := by decide +kernel
theorem dX9_faultOf_108 : decode cX9_faultOf 108 = .ok (.iload_n 1, 1) := by decide +kernel
theorem dX9_faultOf_109 : decode cX9_faultOf 109 = .ok (.ifCond .ne 15, 3) := by decide +kernel
theorem dX9_faultOf_112 : decode cX9_faultOf 112 = .ok (.iload 4, 2) := by decide +kernel
theorem dX9_faultOf_114 : decode cX9_faultOf 114 = .ok (.bipush 114, 2) := by decide +kernel
theorem dX9_faultOf_116 : decode cX9_faultOf 116 = .ok (.if_icmp .eq 8, 3) := by decide +kernel
theorem dX9_faultOf_119 : decode cX9_faultOf 119 = .ok (.iload 4, 2) := by decide +kernel
theorem dX9_faultOf_121 : decode cX9_faultOf 121 = .ok (.goto 4, 3) := by decide +kernel
theorem dX9_faultOf_124 : decode cX9_faultOf 124 = .ok (.iconst 0, 1) := by decide +kernel
theorem dX9_faultOf_125 : decode cX9_faultOf 125 = .ok (.istore_n 1, 1) := by decide +kernel
theorem dX9_faultOf_126 : decode cX9_faultOf 126 = .ok (.iinc 3 1, 3) := by decide +kernel
theorem dX9_faultOf_129 : decode cX9_faultOf 129 = .ok (.goto (-123), 3) := by decide +kernel
theorem dX9_faultOf_132 : decode cX9_faultOf 132 = .ok (.iload_n 1, 1) := by decide +kernel
theorem dX9_faultOf_133 : decode cX9_faultOf 133 = .ok (.ifCond .ne 8, 3) := by decide +kernel
theorem dX9_faultOf_136 : decode cX9_faultOf 136 = .ok (.bipush (-6), 2) := by decide +kernel
theorem dX9_faultOf_138 : decode cX9_faultOf 138 = .ok (.goto 7, 3) := by decide +kernel
theorem dX9_faultOf_141 : decode cX9_faultOf 141 = .ok (.aload_n 0, 1) := by decide +kernel
theorem dX9_faultOf_142 : decode cX9_faultOf 142 = .ok (.getfield 71, 3) := by decide +kernel
theorem dX9_faultOf_145 : decode cX9_faultOf 145 = .ok (.ireturn, 1) := by decide +kernel
set_option maxRecDepth 20000 in
theorem ggX9_fault_X9_faultOf : GoodIn wsX9_fault wsX9_faultOf := goodIn_r _ [5, 6, 7, 8, 9, 4, 10, 11, 12, 13, 14, 15, 16, 17, 18, 19, 20, 21, 22, 23, 24, 25, 26, 27, 28, 29, 30, 31, 32] (by decide +kernel) (by decide +kernel)
set_option maxRecDepth 20000 in
theorem gX9_fault_X9_faultOf : GoodIn wsX9_fault (wsV RX9 77 RX9 yX9_faultOf wsX9_faultOf) := goodIn_app (goodIn_of _ (by decide +kernel)) ggX9_fault_X9_faultOf
theorem dX9_fault_0 : decode cX9_fault 0 = .ok (.aload_n 0, 1) := by decide +kernel
theorem dX9_fault_1 : decode cX9_fault 1 = .ok (.invokevirtual 77, 3) := by decide +kernel
theorem dX9_fault_4 : decode cX9_fault 4 = .ok (.ireturn, 1) := by decide +kernel
theorem dX9_opens_0 : decode cX9_opens 0 = .ok (.iconst 0, 1) := by decide +kernel
theorem dX9_opens_1 : decode cX9_opens 1 = .ok (.istore_n 1, 1) := by decide +kernel
theorem dX9_opens_2 : decode cX9_opens 2 = .ok (.iconst 0, 1) := by decide +kernel
theorem dX9_opens_3 : decode cX9_opens 3 = .ok (.istore_n 2, 1) := by decide +kernel
theorem dX9_opens_4 : decode cX9_opens 4 = .ok (.iload_n 2, 1) := by decide +kernel
theorem dX9_opens_5 : decode cX9_opens 5 = .ok (.aload_n 0, 1) := by decide +kernel
theorem dX9_opens_6 : decode cX9_opens 6 = .ok (.getfield 71, 3) := by decide +kernel
theorem dX9_opens_9 : decode cX9_opens 9 = .ok (.if_icmp .ge 28, 3) := by decide +kernel
theorem dX9_opens_12 : decode cX9_opens 12 = .ok (.iload_n 1, 1) := by decide +kernel
theorem dX9_opens_13 : decode cX9_opens 13 = .ok (.aload_n 0, 1) := by decide +kernel
theorem dX9_opens_14 : decode cX9_opens 14 = .ok (.getfield 26, 3) := by decide +kernel
theorem dX9_opens_17 : decode cX9_opens 17 = .ok (.iload_n 2, 1) := by decide +kernel
theorem dX9_opens_18 : decode cX9_opens 18 = .ok (.iaload, 1) := by decide +kernel
theorem dX9_opens_19 : decode cX9_opens 19 = .ok (.bipush 63, 2) := by decide +kernel
theorem dX9_opens_21 : decode cX9_opens 21 = .ok (.if_icmp .ne 7, 3) := by decide +kernel
theorem dX9_opens_24 : decode cX9_opens 24 = .ok (.iconst 1, 1) := by decide +kernel
theorem dX9_opens_25 : decode cX9_opens 25 = .ok (.goto 4, 3) := by decide +kernel
theorem dX9_opens_28 : decode cX9_opens 28 = .ok (.iconst 0, 1) := by decide +kernel
theorem dX9_opens_29 : decode cX9_opens 29 = .ok (.iadd, 1) := by decide +kernel
theorem dX9_opens_30 : decode cX9_opens 30 = .ok (.istore_n 1, 1) := by decide +kernel
theorem dX9_opens_31 : decode cX9_opens 31 = .ok (.iinc 2 1, 3) := by decide +kernel
theorem dX9_opens_34 : decode cX9_opens 34 = .ok (.goto (-30), 3) := by decide +kernel
theorem dX9_opens_37 : decode cX9_opens 37 = .ok (.iload_n 1, 1) := by decide +kernel
theorem dX9_opens_38 : decode cX9_opens 38 = .ok (.ireturn, 1) := by decide +kernel
theorem dX9_asNow_0 : decode cX9_asNow 0 = .ok (.aload_n 0, 1) := by decide +kernel
theorem dX9_asNow_1 : decode cX9_asNow 1 = .ok (.aload_n 0, 1) := by decide +kernel
theorem dX9_asNow_2 : decode cX9_asNow 2 = .ok (.getfield 13, 3) := by decide +kernel
theorem dX9_asNow_5 : decode cX9_asNow 5 = .ok (.putfield 81, 3) := by decide +kernel
theorem dX9_asNow_8 : decode cX9_asNow 8 = .ok (.iconst 0, 1) := by decide +kernel
theorem dX9_asNow_9 : decode cX9_asNow 9 = .ok (.istore_n 1, 1) := by decide +kernel
theorem dX9_asNow_10 : decode cX9_asNow 10 = .ok (.iload_n 1, 1) := by decide +kernel
theorem dX9_asNow_11 : decode cX9_asNow 11 = .ok (.bipush 7, 2) := by decide +kernel
theorem dX9_asNow_13 : decode cX9_asNow 13 = .ok (.if_icmp .ge 21, 3) := by decide +kernel
theorem dX9_asNow_16 : decode cX9_asNow 16 = .ok (.aload_n 0, 1) := by decide +kernel
theorem dX9_asNow_17 : decode cX9_asNow 17 = .ok (.getfield 29, 3) := by decide +kernel
theorem dX9_asNow_20 : decode cX9_asNow 20 = .ok (.iload_n 1, 1) := by decide +kernel
theorem dX9_asNow_21 : decode cX9_asNow 21 = .ok (.aload_n 0, 1) := by decide +kernel
theorem dX9_asNow_22 : decode cX9_asNow 22 = .ok (.getfield 20, 3) := by decide +kernel
theorem dX9_asNow_25 : decode cX9_asNow 25 = .ok (.iload_n 1, 1) := by decide +kernel
theorem dX9_asNow_26 : decode cX9_asNow 26 = .ok (.iaload, 1) := by decide +kernel
theorem dX9_asNow_27 : decode cX9_asNow 27 = .ok (.iastore, 1) := by decide +kernel
theorem dX9_asNow_28 : decode cX9_asNow 28 = .ok (.iinc 1 1, 3) := by decide +kernel
theorem dX9_asNow_31 : decode cX9_asNow 31 = .ok (.goto (-21), 3) := by decide +kernel
theorem dX9_asNow_34 : decode cX9_asNow 34 = .ok (.return_, 1) := by decide +kernel
theorem dX9_change_0 : decode cX9_change 0 = .ok (.aload_n 0, 1) := by decide +kernel
theorem dX9_change_1 : decode cX9_change 1 = .ok (.getfield 29, 3) := by decide +kernel
theorem dX9_change_4 : decode cX9_change 4 = .ok (.iload_n 1, 1) := by decide +kernel
theorem dX9_change_5 : decode cX9_change 5 = .ok (.iaload, 1) := by decide +kernel
theorem dX9_change_6 : decode cX9_change 6 = .ok (.istore_n 3, 1) := by decide +kernel
theorem dX9_change_7 : decode cX9_change 7 = .ok (.aload_n 0, 1) := by decide +kernel
theorem dX9_change_8 : decode cX9_change 8 = .ok (.getfield 29, 3) := by decide +kernel
theorem dX9_change_11 : decode cX9_change 11 = .ok (.iload_n 1, 1) := by decide +kernel
theorem dX9_change_12 : decode cX9_change 12 = .ok (.aload_n 0, 1) := by decide +kernel
theorem dX9_change_13 : decode cX9_change 13 = .ok (.getfield 29, 3) := by decide +kernel
theorem dX9_change_16 : decode cX9_change 16 = .ok (.iload_n 2, 1) := by decide +kernel
theorem dX9_change_17 : decode cX9_change 17 = .ok (.iaload, 1) := by decide +kernel
theorem dX9_change_18 : decode cX9_change 18 = .ok (.iastore, 1) := by decide +kernel
theorem dX9_change_19 : decode cX9_change 19 = .ok (.aload_n 0, 1) := by decide +kernel
theorem dX9_change_20 : decode cX9_change 20 = .ok (.getfield 29, 3) := by decide +kernel
theorem dX9_change_23 : decode cX9_change 23 = .ok (.iload_n 2, 1) := by decide +kernel
theorem dX9_change_24 : decode cX9_change 24 = .ok (.iload_n 3, 1) := by decide +kernel
theorem dX9_change_25 : decode cX9_change 25 = .ok (.iastore, 1) := by decide +kernel
theorem dX9_change_26 : decode cX9_change 26 = .ok (.return_, 1) := by decide +kernel
set_option maxRecDepth 20000 in
theorem ggX9_bread_X9_change : GoodIn wsX9_bread wsX9_change := goodIn_r _ [5, 6, 7, 8, 9, 10, 11, 12, 13, 14, 15, 16, 17, 18, 19, 20, 21, 22, 23, 24, 25] (by decide +kernel) (by decide +kernel)
set_option maxRecDepth 20000 in
theorem gX9_bread_X9_change : GoodIn wsX9_bread (wsV RX9 84 RX9 yX9_change wsX9_change) := goodIn_app (goodIn_of _ (by decide +kernel)) ggX9_bread_X9_change
theorem dX9_bread_0 : decode cX9_bread 0 = .ok (.iload_n 1, 1) := by decide +kernel
theorem dX9_bread_1 : decode cX9_bread 1 = .ok (.istore_n 2, 1) := by decide +kernel
theorem dX9_bread_2 : decode cX9_bread 2 = .ok (.iload_n 2, 1) := by decide +kernel
theorem dX9_bread_3 : decode cX9_bread 3 = .ok (.ifCond .le 17, 3) := by decide +kernel
theorem dX9_bread_6 : decode cX9_bread 6 = .ok (.aload_n 0, 1) := by decide +kernel
theorem dX9_bread_7 : decode cX9_bread 7 = .ok (.iload_n 2, 1) := by decide +kernel
theorem dX9_bread_8 : decode cX9_bread 8 = .ok (.iload_n 2, 1) := by decide +kernel
theorem dX9_bread_9 : decode cX9_bread 9 = .ok (.iconst 1, 1) := by decide +kernel
theorem dX9_bread_10 : decode cX9_bread 10 = .ok (.isub, 1) := by decide +kernel
theorem dX9_bread_11 : decode cX9_bread 11 = .ok (.invokevirtual 84, 3) := by decide +kernel
theorem dX9_bread_14 : decode cX9_bread 14 = .ok (.iinc 2 (-1), 3) := by decide +kernel
theorem dX9_bread_17 : decode cX9_bread 17 = .ok (.goto (-15), 3) := by decide +kernel
theorem dX9_bread_20 : decode cX9_bread 20 = .ok (.return_, 1) := by decide +kernel
set_option maxRecDepth 20000 in
theorem ggX9_pike_X9_change : GoodIn wsX9_pike wsX9_change := goodIn_r _ [6, 7, 8, 9, 10, 11, 12, 13, 14, 15, 16, 17, 18, 19, 20, 21, 22, 23, 24, 25, 26] (by decide +kernel) (by decide +kernel)
set_option maxRecDepth 20000 in
theorem gX9_pike_X9_change : GoodIn wsX9_pike (wsV RX9 84 RX9 yX9_change wsX9_change) := goodIn_app (goodIn_of _ (by decide +kernel)) ggX9_pike_X9_change
theorem dX9_pike_0 : decode cX9_pike 0 = .ok (.iload_n 1, 1) := by decide +kernel
theorem dX9_pike_1 : decode cX9_pike 1 = .ok (.istore_n 2, 1) := by decide +kernel
theorem dX9_pike_2 : decode cX9_pike 2 = .ok (.iload_n 2, 1) := by decide +kernel
theorem dX9_pike_3 : decode cX9_pike 3 = .ok (.iconst 1, 1) := by decide +kernel
theorem dX9_pike_4 : decode cX9_pike 4 = .ok (.iadd, 1) := by decide +kernel
theorem dX9_pike_5 : decode cX9_pike 5 = .ok (.aload_n 0, 1) := by decide +kernel
theorem dX9_pike_6 : decode cX9_pike 6 = .ok (.getfield 81, 3) := by decide +kernel
theorem dX9_pike_9 : decode cX9_pike 9 = .ok (.if_icmp .ge 17, 3) := by decide +kernel
theorem dX9_pike_12 : decode cX9_pike 12 = .ok (.aload_n 0, 1) := by decide +kernel
theorem dX9_pike_13 : decode cX9_pike 13 = .ok (.iload_n 2, 1) := by decide +kernel
theorem dX9_pike_14 : decode cX9_pike 14 = .ok (.iload_n 2, 1) := by decide +kernel
theorem dX9_pike_15 : decode cX9_pike 15 = .ok (.iconst 1, 1) := by decide +kernel
theorem dX9_pike_16 : decode cX9_pike 16 = .ok (.iadd, 1) := by decide +kernel
theorem dX9_pike_17 : decode cX9_pike 17 = .ok (.invokevirtual 84, 3) := by decide +kernel
theorem dX9_pike_20 : decode cX9_pike 20 = .ok (.iinc 2 1, 3) := by decide +kernel
theorem dX9_pike_23 : decode cX9_pike 23 = .ok (.goto (-21), 3) := by decide +kernel
theorem dX9_pike_26 : decode cX9_pike 26 = .ok (.return_, 1) := by decide +kernel
set_option maxRecDepth 20000 in
theorem ggX9_rain_X9_change : GoodIn wsX9_rain wsX9_change := goodIn_r _ [6, 7, 8, 9, 10, 11, 12, 13, 14, 15, 16, 17, 18, 19, 20, 21, 22, 23, 24, 25, 26] (by decide +kernel) (by decide +kernel)
set_option maxRecDepth 20000 in
theorem gX9_rain_X9_change : GoodIn wsX9_rain (wsV RX9 84 RX9 yX9_change wsX9_change) := goodIn_app (goodIn_of _ (by decide +kernel)) ggX9_rain_X9_change
theorem dX9_rain_0 : decode cX9_rain 0 = .ok (.iconst 0, 1) := by decide +kernel
theorem dX9_rain_1 : decode cX9_rain 1 = .ok (.istore_n 1, 1) := by decide +kernel
theorem dX9_rain_2 : decode cX9_rain 2 = .ok (.iload_n 1, 1) := by decide +kernel
theorem dX9_rain_3 : decode cX9_rain 3 = .ok (.aload_n 0, 1) := by decide +kernel
theorem dX9_rain_4 : decode cX9_rain 4 = .ok (.getfield 81, 3) := by decide +kernel
theorem dX9_rain_7 : decode cX9_rain 7 = .ok (.iconst 2, 1) := by decide +kernel
theorem dX9_rain_8 : decode cX9_rain 8 = .ok (.idiv, 1) := by decide +kernel
theorem dX9_rain_9 : decode cX9_rain 9 = .ok (.if_icmp .ge 22, 3) := by decide +kernel
theorem dX9_rain_12 : decode cX9_rain 12 = .ok (.aload_n 0, 1) := by decide +kernel
theorem dX9_rain_13 : decode cX9_rain 13 = .ok (.iload_n 1, 1) := by decide +kernel
theorem dX9_rain_14 : decode cX9_rain 14 = .ok (.aload_n 0, 1) := by decide +kernel
theorem dX9_rain_15 : decode cX9_rain 15 = .ok (.getfield 81, 3) := by decide +kernel
theorem dX9_rain_18 : decode cX9_rain 18 = .ok (.iconst 1, 1) := by decide +kernel
theorem dX9_rain_19 : decode cX9_rain 19 = .ok (.isub, 1) := by decide +kernel
theorem dX9_rain_20 : decode cX9_rain 20 = .ok (.iload_n 1, 1) := by decide +kernel
theorem dX9_rain_21 : decode cX9_rain 21 = .ok (.isub, 1) := by decide +kernel
theorem dX9_rain_22 : decode cX9_rain 22 = .ok (.invokevirtual 84, 3) := by decide +kernel
theorem dX9_rain_25 : decode cX9_rain 25 = .ok (.iinc 1 1, 3) := by decide +kernel
theorem dX9_rain_28 : decode cX9_rain 28 = .ok (.goto (-26), 3) := by decide +kernel
theorem dX9_rain_31 : decode cX9_rain 31 = .ok (.return_, 1) := by decide +kernel
set_option maxRecDepth 20000 in
theorem ggX9_happen_X9_rain : GoodIn wsX9_happen wsX9_rain := goodIn_r _ [6, 1, 7, 8, 9, 5, 10, 11, 20, 21, 22, 23, 24, 25, 26, 27, 28, 29, 30, 31, 32, 33, 34, 35, 36, 37, 38] (by decide +kernel) (by decide +kernel)
set_option maxRecDepth 20000 in
theorem gX9_happen_X9_rain : GoodIn wsX9_happen (wsV RX9 88 RX9 yX9_rain wsX9_rain) := goodIn_app (goodIn_of _ (by decide +kernel)) ggX9_happen_X9_rain
set_option maxRecDepth 20000 in
theorem ggX9_happen_X9_bread : GoodIn wsX9_happen wsX9_bread := goodIn_r _ [15, 7, 8, 9, 5, 10, 11, 20, 21, 22, 23, 24, 25, 26, 27, 28, 29, 30, 31, 32, 33, 34, 35, 36, 37, 38] (by decide +kernel) (by decide +kernel)
set_option maxRecDepth 20000 in
theorem gX9_happen_X9_bread : GoodIn wsX9_happen (wsV RX9 91 RX9 yX9_bread wsX9_bread) := goodIn_app (goodIn_of _ (by decide +kernel)) ggX9_happen_X9_bread
set_option maxRecDepth 20000 in
theorem ggX9_happen_X9_pike : GoodIn wsX9_happen wsX9_pike := goodIn_r _ [19, 1, 7, 8, 9, 5, 10, 11, 20, 21, 22, 23, 24, 25, 26, 27, 28, 29, 30, 31, 32, 33, 34, 35, 36, 37, 38] (by decide +kernel) (by decide +kernel)
set_option maxRecDepth 20000 in
theorem gX9_happen_X9_pike : GoodIn wsX9_happen (wsV RX9 95 RX9 yX9_pike wsX9_pike) := goodIn_app (goodIn_of _ (by decide +kernel)) ggX9_happen_X9_pike
set_option maxRecDepth 20000 in
theorem ggX9_happen_X9_change : GoodIn wsX9_happen wsX9_change := goodIn_r _ [10, 11, 20, 21, 22, 23, 24, 25, 26, 27, 28, 29, 30, 31, 32, 33, 34, 35, 36, 37, 38] (by decide +kernel) (by decide +kernel)
set_option maxRecDepth 20000 in
theorem gX9_happen_X9_change : GoodIn wsX9_happen (wsV RX9 84 RX9 yX9_change wsX9_change) := goodIn_app (goodIn_of _ (by decide +kernel)) ggX9_happen_X9_change
theorem dX9_happen_0 : decode cX9_happen 0 = .ok (.iload_n 1, 1) := by decide +kernel
theorem dX9_happen_1 : decode cX9_happen 1 = .ok (.bipush 114, 2) := by decide +kernel
theorem dX9_happen_3 : decode cX9_happen 3 = .ok (.if_icmp .eq 61, 3) := by decide +kernel
theorem dX9_happen_6 : decode cX9_happen 6 = .ok (.iload_n 1, 1) := by decide +kernel
theorem dX9_happen_7 : decode cX9_happen 7 = .ok (.bipush 103, 2) := by decide +kernel
theorem dX9_happen_9 : decode cX9_happen 9 = .ok (.if_icmp .ne 13, 3) := by decide +kernel
theorem dX9_happen_12 : decode cX9_happen 12 = .ok (.iload_n 2, 1) := by decide +kernel
theorem dX9_happen_13 : decode cX9_happen 13 = .ok (.iconst 1, 1) := by decide +kernel
theorem dX9_happen_14 : decode cX9_happen 14 = .ok (.iadd, 1) := by decide +kernel
theorem dX9_happen_15 : decode cX9_happen 15 = .ok (.aload_n 0, 1) := by decide +kernel
theorem dX9_happen_16 : decode cX9_happen 16 = .ok (.getfield 81, 3) := by decide +kernel
theorem dX9_happen_19 : decode cX9_happen 19 = .ok (.if_icmp .lt 45, 3) := by decide +kernel
theorem dX9_happen_22 : decode cX9_happen 22 = .ok (.iload_n 1, 1) := by decide +kernel
theorem dX9_happen_23 : decode cX9_happen 23 = .ok (.bipush 120, 2) := by decide +kernel
theorem dX9_happen_25 : decode cX9_happen 25 = .ok (.if_icmp .ne 19, 3) := by decide +kernel
theorem dX9_happen_28 : decode cX9_happen 28 = .ok (.iload_n 2, 1) := by decide +kernel
theorem dX9_happen_29 : decode cX9_happen 29 = .ok (.aload_n 0, 1) := by decide +kernel
theorem dX9_happen_30 : decode cX9_happen 30 = .ok (.getfield 81, 3) := by decide +kernel
theorem dX9_happen_33 : decode cX9_happen 33 = .ok (.if_icmp .ge 11, 3) := by decide +kernel
theorem dX9_happen_36 : decode cX9_happen 36 = .ok (.aload_n 0, 1) := by decide +kernel
theorem dX9_happen_37 : decode cX9_happen 37 = .ok (.getfield 81, 3) := by decide +kernel
theorem dX9_happen_40 : decode cX9_happen 40 = .ok (.iconst 1, 1) := by decide +kernel
theorem dX9_happen_41 : decode cX9_happen 41 = .ok (.if_icmp .gt 23, 3) := by decide +kernel
theorem dX9_happen_44 : decode cX9_happen 44 = .ok (.iload_n 1, 1) := by decide +kernel
theorem dX9_happen_45 : decode cX9_happen 45 = .ok (.bipush 98, 2) := by decide +kernel
theorem dX9_happen_47 : decode cX9_happen 47 = .ok (.if_icmp .eq 9, 3) := by decide +kernel
theorem dX9_happen_50 : decode cX9_happen 50 = .ok (.iload_n 1, 1) := by decide +kernel
theorem dX9_happen_51 : decode cX9_happen 51 = .ok (.bipush 112, 2) := by decide +kernel
theorem dX9_happen_53 : decode cX9_happen 53 = .ok (.if_icmp .ne 15, 3) := by decide +kernel
theorem dX9_happen_56 : decode cX9_happen 56 = .ok (.iload_n 2, 1) := by decide +kernel
theorem dX9_happen_57 : decode cX9_happen 57 = .ok (.aload_n 0, 1) := by decide +kernel
theorem dX9_happen_58 : decode cX9_happen 58 = .ok (.getfield 81, 3) := by decide +kernel
theorem dX9_happen_61 : decode cX9_happen 61 = .ok (.if_icmp .ge 7, 3) := by decide +kernel
theorem dX9_happen_64 : decode cX9_happen 64 = .ok (.iconst 1, 1) := by decide +kernel
theorem dX9_happen_65 : decode cX9_happen 65 = .ok (.goto 4, 3) := by decide +kernel
theorem dX9_happen_68 : decode cX9_happen 68 = .ok (.iconst 0, 1) := by decide +kernel
theorem dX9_happen_69 : decode cX9_happen 69 = .ok (.istore_n 3, 1) := by decide +kernel
theorem dX9_happen_70 : decode cX9_happen 70 = .ok (.iload_n 3, 1) := by decide +kernel
theorem dX9_happen_71 : decode cX9_happen 71 = .ok (.ifCond .ne 5, 3) := by decide +kernel
theorem dX9_happen_74 : decode cX9_happen 74 = .ok (.iconst 0, 1) := by decide +kernel
theorem dX9_happen_75 : decode cX9_happen 75 = .ok (.ireturn, 1) := by decide +kernel
theorem dX9_happen_76 : decode cX9_happen 76 = .ok (.iload_n 1, 1) := by decide +kernel
theorem dX9_happen_77 : decode cX9_happen 77 = .ok (.bipush 114, 2) := by decide +kernel
theorem dX9_happen_79 : decode cX9_happen 79 = .ok (.if_icmp .ne 10, 3) := by decide +kernel
theorem dX9_happen_82 : decode cX9_happen 82 = .ok (.aload_n 0, 1) := by decide +kernel
theorem dX9_happen_83 : decode cX9_happen 83 = .ok (.invokevirtual 88, 3) := by decide +kernel
theorem dX9_happen_86 : decode cX9_happen 86 = .ok (.goto 63, 3) := by decide +kernel
theorem dX9_happen_89 : decode cX9_happen 89 = .ok (.iload_n 1, 1) := by decide +kernel
theorem dX9_happen_90 : decode cX9_happen 90 = .ok (.bipush 98, 2) := by decide +kernel
theorem dX9_happen_92 : decode cX9_happen 92 = .ok (.if_icmp .ne 11, 3) := by decide +kernel
theorem dX9_happen_95 : decode cX9_happen 95 = .ok (.aload_n 0, 1) := by decide +kernel
theorem dX9_happen_96 : decode cX9_happen 96 = .ok (.iload_n 2, 1) := by decide +kernel
theorem dX9_happen_97 : decode cX9_happen 97 = .ok (.invokevirtual 91, 3) := by decide +kernel
theorem dX9_happen_100 : decode cX9_happen 100 = .ok (.goto 49, 3) := by decide +kernel
theorem dX9_happen_103 : decode cX9_happen 103 = .ok (.iload_n 1, 1) := by decide +kernel
theorem dX9_happen_104 : decode cX9_happen 104 = .ok (.bipush 112, 2) := by decide +kernel
theorem dX9_happen_106 : decode cX9_happen 106 = .ok (.if_icmp .ne 11, 3) := by decide +kernel
theorem dX9_happen_109 : decode cX9_happen 109 = .ok (.aload_n 0, 1) := by decide +kernel
theorem dX9_happen_110 : decode cX9_happen 110 = .ok (.iload_n 2, 1) := by decide +kernel
theorem dX9_happen_111 : decode cX9_happen 111 = .ok (.invokevirtual 95, 3) := by decide +kernel
theorem dX9_happen_114 : decode cX9_happen 114 = .ok (.goto 35, 3) := by decide +kernel
theorem dX9_happen_117 : decode cX9_happen 117 = .ok (.iload_n 1, 1) := by decide +kernel
theorem dX9_happen_118 : decode cX9_happen 118 = .ok (.bipush 103, 2) := by decide +kernel
theorem dX9_happen_120 : decode cX9_happen 120 = .ok (.if_icmp .ne 14, 3) := by decide +kernel
theorem dX9_happen_123 : decode cX9_happen 123 = .ok (.aload_n 0, 1) := by decide +kernel
theorem dX9_happen_124 : decode cX9_happen 124 = .ok (.iload_n 2, 1) := by decide +kernel
theorem dX9_happen_125 : decode cX9_happen 125 = .ok (.iload_n 2, 1) := by decide +kernel
theorem dX9_happen_126 : decode cX9_happen 126 = .ok (.iconst 1, 1) := by decide +kernel
theorem dX9_happen_127 : decode cX9_happen 127 = .ok (.iadd, 1) := by decide +kernel
theorem dX9_happen_128 : decode cX9_happen 128 = .ok (.invokevirtual 84, 3) := by decide +kernel
theorem dX9_happen_131 : decode cX9_happen 131 = .ok (.goto 18, 3) := by decide +kernel
theorem dX9_happen_134 : decode cX9_happen 134 = .ok (.aload_n 0, 1) := by decide +kernel
theorem dX9_happen_135 : decode cX9_happen 135 = .ok (.iload_n 2, 1) := by decide +kernel
theorem dX9_happen_136 : decode cX9_happen 136 = .ok (.invokevirtual 95, 3) := by decide +kernel
theorem dX9_happen_139 : decode cX9_happen 139 = .ok (.aload_n 0, 1) := by decide +kernel
theorem dX9_happen_140 : decode cX9_happen 140 = .ok (.dup, 1) := by decide +kernel
theorem dX9_happen_141 : decode cX9_happen 141 = .ok (.getfield 81, 3) := by decide +kernel
theorem dX9_happen_144 : decode cX9_happen 144 = .ok (.iconst 1, 1) := by decide +kernel
theorem dX9_happen_145 : decode cX9_happen 145 = .ok (.isub, 1) := by decide +kernel
theorem dX9_happen_146 : decode cX9_happen 146 = .ok (.putfield 81, 3) := by decide +kernel
theorem dX9_happen_149 : decode cX9_happen 149 = .ok (.iconst 1, 1) := by decide +kernel
theorem dX9_happen_150 : decode cX9_happen 150 = .ok (.ireturn, 1) := by decide +kernel
set_option maxRecDepth 20000 in
theorem ggX9_goDay_X9_asNow : GoodIn wsX9_goDay wsX9_asNow := goodIn_r _ [8, 9, 10, 11, 12, 37, 38, 39, 40, 41, 42, 43, 44, 45, 46, 47, 48, 49, 50, 51, 52, 53, 54, 55] (by decide +kernel) (by decide +kernel)
set_option maxRecDepth 20000 in
theorem gX9_goDay_X9_asNow : GoodIn wsX9_goDay (wsV RX9 98 RX9 yX9_asNow wsX9_asNow) := goodIn_app (goodIn_of _ (by decide +kernel)) ggX9_goDay_X9_asNow
set_option maxRecDepth 20000 in
theorem ggX9_goDay_X9_opens : GoodIn wsX9_goDay wsX9_opens := goodIn_r _ [16, 2, 3, 37, 38, 39, 40, 41, 42, 43, 44, 45, 46, 47, 48, 49, 50, 51, 52, 53, 54, 55] (by decide +kernel) (by decide +kernel)
set_option maxRecDepth 20000 in
theorem gX9_goDay_X9_opens : GoodIn wsX9_goDay (wsV RX9 104 RX9 yX9_opens wsX9_opens) := goodIn_app (goodIn_of _ (by decide +kernel)) ggX9_goDay_X9_opens
set_option maxRecDepth 20000 in
theorem ggX9_goDay_X9_happen : GoodIn wsX9_goDay wsX9_happen := goodIn_r _ [20, 10, 21, 22, 23, 7, 24, 25, 26, 27, 28, 11, 29, 30, 31, 32, 33, 34, 35, 36, 37, 38, 39, 40, 41, 42, 43, 44, 45, 46, 47, 48, 49, 50, 51, 52, 53, 54, 55] (by decide +kernel) (by decide +kernel)
set_option maxRecDepth 20000 in
theorem gX9_goDay_X9_happen : GoodIn wsX9_goDay (wsV RX9 107 RX9 yX9_happen wsX9_happen) := goodIn_app (goodIn_of _ (by decide +kernel)) ggX9_goDay_X9_happen
theorem dX9_goDay_0 : decode cX9_goDay 0 = .ok (.aload_n 0, 1) := by decide +kernel
theorem dX9_goDay_1 : decode cX9_goDay 1 = .ok (.invokevirtual 98, 3) := by decide +kernel
theorem dX9_goDay_4 : decode cX9_goDay 4 = .ok (.aload_n 0, 1) := by decide +kernel
theorem dX9_goDay_5 : decode cX9_goDay 5 = .ok (.iconst 0, 1) := by decide +kernel
theorem dX9_goDay_6 : decode cX9_goDay 6 = .ok (.putfield 101, 3) := by decide +kernel
theorem dX9_goDay_9 : decode cX9_goDay 9 = .ok (.iconst 1, 1) := by decide +kernel
theorem dX9_goDay_10 : decode cX9_goDay 10 = .ok (.istore_n 2, 1) := by decide +kernel
theorem dX9_goDay_11 : decode cX9_goDay 11 = .ok (.iconst 1, 1) := by decide +kernel
theorem dX9_goDay_12 : decode cX9_goDay 12 = .ok (.istore_n 3, 1) := by decide +kernel
theorem dX9_goDay_13 : decode cX9_goDay 13 = .ok (.iload_n 3, 1) := by decide +kernel
theorem dX9_goDay_14 : decode cX9_goDay 14 = .ok (.aload_n 0, 1) := by decide +kernel
theorem dX9_goDay_15 : decode cX9_goDay 15 = .ok (.invokevirtual 104, 3) := by decide +kernel
theorem dX9_goDay_18 : decode cX9_goDay 18 = .ok (.if_icmp .ge 14, 3) := by decide +kernel
theorem dX9_goDay_21 : decode cX9_goDay 21 = .ok (.iload_n 2, 1) := by decide +kernel
theorem dX9_goDay_22 : decode cX9_goDay 22 = .ok (.bipush 10, 2) := by decide +kernel
theorem dX9_goDay_24 : decode cX9_goDay 24 = .ok (.imul, 1) := by decide +kernel
theorem dX9_goDay_25 : decode cX9_goDay 25 = .ok (.istore_n 2, 1) := by decide +kernel
theorem dX9_goDay_26 : decode cX9_goDay 26 = .ok (.iinc 3 1, 3) := by decide +kernel
theorem dX9_goDay_29 : decode cX9_goDay 29 = .ok (.goto (-16), 3) := by decide +kernel
theorem dX9_goDay_32 : decode cX9_goDay 32 = .ok (.iconst 0, 1) := by decide +kernel
theorem dX9_goDay_33 : decode cX9_goDay 33 = .ok (.istore_n 3, 1) := by decide +kernel
theorem dX9_goDay_34 : decode cX9_goDay 34 = .ok (.iload_n 3, 1) := by decide +kernel
theorem dX9_goDay_35 : decode cX9_goDay 35 = .ok (.aload_n 0, 1) := by decide +kernel
theorem dX9_goDay_36 : decode cX9_goDay 36 = .ok (.getfield 71, 3) := by decide +kernel
theorem dX9_goDay_39 : decode cX9_goDay 39 = .ok (.if_icmp .ge 118, 3) := by decide +kernel
theorem dX9_goDay_42 : decode cX9_goDay 42 = .ok (.aload_n 0, 1) := by decide +kernel
theorem dX9_goDay_43 : decode cX9_goDay 43 = .ok (.getfield 26, 3) := by decide +kernel
theorem dX9_goDay_46 : decode cX9_goDay 46 = .ok (.iload_n 3, 1) := by decide +kernel
theorem dX9_goDay_47 : decode cX9_goDay 47 = .ok (.iaload, 1) := by decide +kernel
theorem dX9_goDay_48 : decode cX9_goDay 48 = .ok (.istore 4, 2) := by decide +kernel
theorem dX9_goDay_50 : decode cX9_goDay 50 = .ok (.iconst 0, 1) := by decide +kernel
theorem dX9_goDay_51 : decode cX9_goDay 51 = .ok (.istore 5, 2) := by decide +kernel
theorem dX9_goDay_53 : decode cX9_goDay 53 = .ok (.iload 4, 2) := by decide +kernel
theorem dX9_goDay_55 : decode cX9_goDay 55 = .ok (.bipush 114, 2) := by decide +kernel
theorem dX9_goDay_57 : decode cX9_goDay 57 = .ok (.if_icmp .eq 68, 3) := by decide +kernel
theorem dX9_goDay_60 : decode cX9_goDay 60 = .ok (.aload_n 0, 1) := by decide +kernel
theorem dX9_goDay_61 : decode cX9_goDay 61 = .ok (.getfield 26, 3) := by decide +kernel
theorem dX9_goDay_64 : decode cX9_goDay 64 = .ok (.iload_n 3, 1) := by decide +kernel
theorem dX9_goDay_65 : decode cX9_goDay 65 = .ok (.iconst 1, 1) := by decide +kernel
theorem dX9_goDay_66 : decode cX9_goDay 66 = .ok (.iadd, 1) := by decide +kernel
theorem dX9_goDay_67 : decode cX9_goDay 67 = .ok (.iaload, 1) := by decide +kernel
theorem dX9_goDay_68 : decode cX9_goDay 68 = .ok (.bipush 63, 2) := by decide +kernel
theorem dX9_goDay_70 : decode cX9_goDay 70 = .ok (.if_icmp .ne 12, 3) := by decide +kernel
theorem dX9_goDay_73 : decode cX9_goDay 73 = .ok (.iload_n 1, 1) := by decide +kernel
theorem dX9_goDay_74 : decode cX9_goDay 74 = .ok (.iload_n 2, 1) := by decide +kernel
theorem dX9_goDay_75 : decode cX9_goDay 75 = .ok (.idiv, 1) := by decide +kernel
theorem dX9_goDay_76 : decode cX9_goDay 76 = .ok (.bipush 10, 2) := by decide +kernel
theorem dX9_goDay_78 : decode cX9_goDay 78 = .ok (.irem, 1) := by decide +kernel
theorem dX9_goDay_79 : decode cX9_goDay 79 = .ok (.goto 14, 3) := by decide +kernel
theorem dX9_goDay_82 : decode cX9_goDay 82 = .ok (.aload_n 0, 1) := by decide +kernel
theorem dX9_goDay_83 : decode cX9_goDay 83 = .ok (.getfield 26, 3) := by decide +kernel
theorem dX9_goDay_86 : decode cX9_goDay 86 = .ok (.iload_n 3, 1) := by decide +kernel
theorem dX9_goDay_87 : decode cX9_goDay 87 = .ok (.iconst 1, 1) := by decide +kernel
theorem dX9_goDay_88 : decode cX9_goDay 88 = .ok (.iadd, 1) := by decide +kernel
theorem dX9_goDay_89 : decode cX9_goDay 89 = .ok (.iaload, 1) := by decide +kernel
theorem dX9_goDay_90 : decode cX9_goDay 90 = .ok (.bipush 48, 2) := by decide +kernel
theorem dX9_goDay_92 : decode cX9_goDay 92 = .ok (.isub, 1) := by decide +kernel
theorem dX9_goDay_93 : decode cX9_goDay 93 = .ok (.istore 5, 2) := by decide +kernel
theorem dX9_goDay_95 : decode cX9_goDay 95 = .ok (.aload_n 0, 1) := by decide +kernel
theorem dX9_goDay_96 : decode cX9_goDay 96 = .ok (.getfield 26, 3) := by decide +kernel
theorem dX9_goDay_99 : decode cX9_goDay 99 = .ok (.iload_n 3, 1) := by decide +kernel
theorem dX9_goDay_100 : decode cX9_goDay 100 = .ok (.iconst 1, 1) := by decide +kernel
theorem dX9_goDay_101 : decode cX9_goDay 101 = .ok (.iadd, 1) := by decide +kernel
theorem dX9_goDay_102 : decode cX9_goDay 102 = .ok (.iaload, 1) := by decide +kernel
theorem dX9_goDay_103 : decode cX9_goDay 103 = .ok (.bipush 63, 2) := by decide +kernel
theorem dX9_goDay_105 : decode cX9_goDay 105 = .ok (.if_icmp .ne 15, 3) := by decide +kernel
theorem dX9_goDay_108 : decode cX9_goDay 108 = .ok (.iload_n 2, 1) := by decide +kernel
theorem dX9_goDay_109 : decode cX9_goDay 109 = .ok (.iconst 1, 1) := by decide +kernel
theorem dX9_goDay_110 : decode cX9_goDay 110 = .ok (.if_icmp .le 10, 3) := by decide +kernel
theorem dX9_goDay_113 : decode cX9_goDay 113 = .ok (.iload_n 2, 1) := by decide +kernel
theorem dX9_goDay_114 : decode cX9_goDay 114 = .ok (.bipush 10, 2) := by decide +kernel
theorem dX9_goDay_116 : decode cX9_goDay 116 = .ok (.idiv, 1) := by decide +kernel
theorem dX9_goDay_117 : decode cX9_goDay 117 = .ok (.goto 4, 3) := by decide +kernel
theorem dX9_goDay_120 : decode cX9_goDay 120 = .ok (.iload_n 2, 1) := by decide +kernel
theorem dX9_goDay_121 : decode cX9_goDay 121 = .ok (.istore_n 2, 1) := by decide +kernel
theorem dX9_goDay_122 : decode cX9_goDay 122 = .ok (.iinc 3 1, 3) := by decide +kernel
theorem dX9_goDay_125 : decode cX9_goDay 125 = .ok (.aload_n 0, 1) := by decide +kernel
theorem dX9_goDay_126 : decode cX9_goDay 126 = .ok (.iload 4, 2) := by decide +kernel
theorem dX9_goDay_128 : decode cX9_goDay 128 = .ok (.iload 5, 2) := by decide +kernel
theorem dX9_goDay_130 : decode cX9_goDay 130 = .ok (.invokevirtual 107, 3) := by decide +kernel
theorem dX9_goDay_133 : decode cX9_goDay 133 = .ok (.ifCond .ne 8, 3) := by decide +kernel
theorem dX9_goDay_136 : decode cX9_goDay 136 = .ok (.aload_n 0, 1) := by decide +kernel
theorem dX9_goDay_137 : decode cX9_goDay 137 = .ok (.getfield 101, 3) := by decide +kernel
theorem dX9_goDay_140 : decode cX9_goDay 140 = .ok (.ireturn, 1) := by decide +kernel
theorem dX9_goDay_141 : decode cX9_goDay 141 = .ok (.aload_n 0, 1) := by decide +kernel
theorem dX9_goDay_142 : decode cX9_goDay 142 = .ok (.dup, 1) := by decide +kernel
theorem dX9_goDay_143 : decode cX9_goDay 143 = .ok (.getfield 101, 3) := by decide +kernel
theorem dX9_goDay_146 : decode cX9_goDay 146 = .ok (.iconst 1, 1) := by decide +kernel
theorem dX9_goDay_147 : decode cX9_goDay 147 = .ok (.iadd, 1) := by decide +kernel
theorem dX9_goDay_148 : decode cX9_goDay 148 = .ok (.putfield 101, 3) := by decide +kernel
theorem dX9_goDay_151 : decode cX9_goDay 151 = .ok (.iinc 3 1, 3) := by decide +kernel
theorem dX9_goDay_154 : decode cX9_goDay 154 = .ok (.goto (-120), 3) := by decide +kernel
theorem dX9_goDay_157 : decode cX9_goDay 157 = .ok (.bipush (-6), 2) := by decide +kernel
theorem dX9_goDay_159 : decode cX9_goDay 159 = .ok (.ireturn, 1) := by decide +kernel
set_option maxRecDepth 20000 in
theorem ggX9_judge_X9_faultOf : GoodIn wsX9_judge wsX9_faultOf := goodIn_r _ [5, 6, 7, 8, 9, 4, 10, 11, 12, 13, 51, 52, 53, 54, 55, 56, 57, 58, 59, 60, 61, 62, 63, 64, 65, 66, 67, 68, 69] (by decide +kernel) (by decide +kernel)
set_option maxRecDepth 20000 in
theorem gX9_judge_X9_faultOf : GoodIn wsX9_judge (wsV RX9 77 RX9 yX9_faultOf wsX9_faultOf) := goodIn_app (goodIn_of _ (by decide +kernel)) ggX9_judge_X9_faultOf
set_option maxRecDepth 20000 in
theorem ggX9_judge_X9_opens : GoodIn wsX9_judge wsX9_opens := goodIn_r _ [17, 6, 7, 51, 52, 53, 54, 55, 56, 57, 58, 59, 60, 61, 62, 63, 64, 65, 66, 67, 68, 69] (by decide +kernel) (by decide +kernel)
set_option maxRecDepth 20000 in
theorem gX9_judge_X9_opens : GoodIn wsX9_judge (wsV RX9 104 RX9 yX9_opens wsX9_opens) := goodIn_app (goodIn_of _ (by decide +kernel)) ggX9_judge_X9_opens
set_option maxRecDepth 20000 in
theorem ggX9_judge_X9_goDay : GoodIn wsX9_judge wsX9_goDay := goodIn_r _ [21, 22, 6, 7, 23, 24, 25, 4, 26, 27, 28, 29, 30, 14, 15, 16, 17, 31, 32, 33, 34, 35, 36, 37, 38, 39, 40, 41, 42, 43, 44, 45, 46, 47, 48, 49, 50, 51, 52, 53, 54, 55, 56, 57, 58, 59, 60, 61, 62, 63, 64, 65, 66, 67, 68, 69] (by decide +kernel) (by decide +kernel)
set_option maxRecDepth 20000 in
theorem gX9_judge_X9_goDay : GoodIn wsX9_judge (wsV RX9 111 RX9 yX9_goDay wsX9_goDay) := goodIn_app (goodIn_of _ (by decide +kernel)) ggX9_judge_X9_goDay
theorem dX9_judge_0 : decode cX9_judge 0 = .ok (.aload_n 0, 1) := by decide +kernel
theorem dX9_judge_1 : decode cX9_judge 1 = .ok (.invokevirtual 77, 3) := by decide +kernel
theorem dX9_judge_4 : decode cX9_judge 4 = .ok (.ifCond .lt 6, 3) := by decide +kernel
theorem dX9_judge_7 : decode cX9_judge 7 = .ok (.bipush (-5), 2) := by decide +kernel
theorem dX9_judge_9 : decode cX9_judge 9 = .ok (.ireturn, 1) := by decide +kernel
theorem dX9_judge_10 : decode cX9_judge 10 = .ok (.aload_n 0, 1) := by decide +kernel
theorem dX9_judge_11 : decode cX9_judge 11 = .ok (.invokevirtual 104, 3) := by decide +kernel
theorem dX9_judge_14 : decode cX9_judge 14 = .ok (.ifCond .le 8, 3) := by decide +kernel
theorem dX9_judge_17 : decode cX9_judge 17 = .ok (.bipush (-3), 2) := by decide +kernel
theorem dX9_judge_19 : decode cX9_judge 19 = .ok (.goto 8, 3) := by decide +kernel
theorem dX9_judge_22 : decode cX9_judge 22 = .ok (.aload_n 0, 1) := by decide +kernel
theorem dX9_judge_23 : decode cX9_judge 23 = .ok (.iconst 0, 1) := by decide +kernel
theorem dX9_judge_24 : decode cX9_judge 24 = .ok (.invokevirtual 111, 3) := by decide +kernel
theorem dX9_judge_27 : decode cX9_judge 27 = .ok (.ireturn, 1) := by decide +kernel
set_option maxRecDepth 20000 in
theorem ggX9_barOfDay_X9_faultOf : GoodIn wsX9_barOfDay wsX9_faultOf := goodIn_r _ [5, 6, 7, 8, 9, 4, 10, 11, 12, 13, 51, 52, 53, 54, 55, 56, 57, 58, 59, 60, 61, 62, 63, 64, 65, 66, 67, 68, 69] (by decide +kernel) (by decide +kernel)
set_option maxRecDepth 20000 in
theorem gX9_barOfDay_X9_faultOf : GoodIn wsX9_barOfDay (wsV RX9 77 RX9 yX9_faultOf wsX9_faultOf) := goodIn_app (goodIn_of _ (by decide +kernel)) ggX9_barOfDay_X9_faultOf
set_option maxRecDepth 20000 in
theorem ggX9_barOfDay_X9_opens : GoodIn wsX9_barOfDay wsX9_opens := goodIn_r _ [17, 6, 7, 51, 52, 53, 54, 55, 56, 57, 58, 59, 60, 61, 62, 63, 64, 65, 66, 67, 68, 69] (by decide +kernel) (by decide +kernel)
set_option maxRecDepth 20000 in
theorem gX9_barOfDay_X9_opens : GoodIn wsX9_barOfDay (wsV RX9 104 RX9 yX9_opens wsX9_opens) := goodIn_app (goodIn_of _ (by decide +kernel)) ggX9_barOfDay_X9_opens
set_option maxRecDepth 20000 in
theorem ggX9_barOfDay_X9_goDay : GoodIn wsX9_barOfDay wsX9_goDay := goodIn_r _ [21, 22, 6, 7, 23, 24, 25, 4, 26, 27, 28, 29, 30, 14, 15, 16, 17, 31, 32, 33, 34, 35, 36, 37, 38, 39, 40, 41, 42, 43, 44, 45, 46, 47, 48, 49, 50, 51, 52, 53, 54, 55, 56, 57, 58, 59, 60, 61, 62, 63, 64, 65, 66, 67, 68, 69] (by decide +kernel) (by decide +kernel)
set_option maxRecDepth 20000 in
theorem gX9_barOfDay_X9_goDay : GoodIn wsX9_barOfDay (wsV RX9 111 RX9 yX9_goDay wsX9_goDay) := goodIn_app (goodIn_of _ (by decide +kernel)) ggX9_barOfDay_X9_goDay
theorem dX9_barOfDay_0 : decode cX9_barOfDay 0 = .ok (.aload_n 0, 1) := by decide +kernel
theorem dX9_barOfDay_1 : decode cX9_barOfDay 1 = .ok (.invokevirtual 77, 3) := by decide +kernel
theorem dX9_barOfDay_4 : decode cX9_barOfDay 4 = .ok (.ifCond .lt 8, 3) := by decide +kernel
theorem dX9_barOfDay_7 : decode cX9_barOfDay 7 = .ok (.bipush (-5), 2) := by decide +kernel
theorem dX9_barOfDay_9 : decode cX9_barOfDay 9 = .ok (.goto 29, 3) := by decide +kernel
theorem dX9_barOfDay_12 : decode cX9_barOfDay 12 = .ok (.aload_n 0, 1) := by decide +kernel
theorem dX9_barOfDay_13 : decode cX9_barOfDay 13 = .ok (.invokevirtual 104, 3) := by decide +kernel
theorem dX9_barOfDay_16 : decode cX9_barOfDay 16 = .ok (.ifCond .le 8, 3) := by decide +kernel
theorem dX9_barOfDay_19 : decode cX9_barOfDay 19 = .ok (.bipush (-3), 2) := by decide +kernel
theorem dX9_barOfDay_21 : decode cX9_barOfDay 21 = .ok (.goto 17, 3) := by decide +kernel
theorem dX9_barOfDay_24 : decode cX9_barOfDay 24 = .ok (.aload_n 0, 1) := by decide +kernel
theorem dX9_barOfDay_25 : decode cX9_barOfDay 25 = .ok (.iconst 0, 1) := by decide +kernel
theorem dX9_barOfDay_26 : decode cX9_barOfDay 26 = .ok (.invokevirtual 111, 3) := by decide +kernel
theorem dX9_barOfDay_29 : decode cX9_barOfDay 29 = .ok (.ifCond .lt 8, 3) := by decide +kernel
theorem dX9_barOfDay_32 : decode cX9_barOfDay 32 = .ok (.bipush (-5), 2) := by decide +kernel
theorem dX9_barOfDay_34 : decode cX9_barOfDay 34 = .ok (.goto 4, 3) := by decide +kernel
theorem dX9_barOfDay_37 : decode cX9_barOfDay 37 = .ok (.iconst 0, 1) := by decide +kernel
theorem dX9_barOfDay_38 : decode cX9_barOfDay 38 = .ok (.ireturn, 1) := by decide +kernel
set_option maxRecDepth 20000 in
theorem ggX9_done_X9_barOfDay : GoodIn wsX9_done wsX9_barOfDay := goodIn_r _ [11, 12, 13, 14, 10, 15, 5, 16, 17, 18, 19, 20, 21, 22, 23, 24, 25, 26, 27, 28, 29, 30, 6, 31, 32, 33, 34, 2, 1, 4, 3, 35, 36, 37, 38, 39, 40, 41, 42, 43, 44, 45, 46, 47, 48, 49, 50, 51, 52, 53, 54, 55, 56, 57, 58, 59, 60, 61, 62, 63, 64, 65, 66, 67, 68, 69, 70, 71, 72, 73] (by decide +kernel) (by decide +kernel)
set_option maxRecDepth 20000 in
theorem gX9_done_X9_barOfDay : GoodIn wsX9_done (wsV RX9 115 RX9 yX9_barOfDay wsX9_barOfDay) := goodIn_app (goodIn_of _ (by decide +kernel)) ggX9_done_X9_barOfDay
theorem dX9_done_0 : decode cX9_done 0 = .ok (.aload_n 0, 1) := by decide +kernel
theorem dX9_done_1 : decode cX9_done 1 = .ok (.invokevirtual 115, 3) := by decide +kernel
theorem dX9_done_4 : decode cX9_done 4 = .ok (.istore_n 1, 1) := by decide +kernel
theorem dX9_done_5 : decode cX9_done 5 = .ok (.iload_n 1, 1) := by decide +kernel
theorem dX9_done_6 : decode cX9_done 6 = .ok (.ifCond .ge 5, 3) := by decide +kernel
theorem dX9_done_9 : decode cX9_done 9 = .ok (.iload_n 1, 1) := by decide +kernel
theorem dX9_done_10 : decode cX9_done 10 = .ok (.ireturn, 1) := by decide +kernel
theorem dX9_done_11 : decode cX9_done 11 = .ok (.aload_n 0, 1) := by decide +kernel
theorem dX9_done_12 : decode cX9_done 12 = .ok (.aload_n 0, 1) := by decide +kernel
theorem dX9_done_13 : decode cX9_done 13 = .ok (.getfield 81, 3) := by decide +kernel
theorem dX9_done_16 : decode cX9_done 16 = .ok (.putfield 13, 3) := by decide +kernel
theorem dX9_done_19 : decode cX9_done 19 = .ok (.iconst 0, 1) := by decide +kernel
theorem dX9_done_20 : decode cX9_done 20 = .ok (.istore_n 2, 1) := by decide +kernel
theorem dX9_done_21 : decode cX9_done 21 = .ok (.iload_n 2, 1) := by decide +kernel
theorem dX9_done_22 : decode cX9_done 22 = .ok (.bipush 7, 2) := by decide +kernel
theorem dX9_done_24 : decode cX9_done 24 = .ok (.if_icmp .ge 21, 3) := by decide +kernel
theorem dX9_done_27 : decode cX9_done 27 = .ok (.aload_n 0, 1) := by decide +kernel
theorem dX9_done_28 : decode cX9_done 28 = .ok (.getfield 20, 3) := by decide +kernel
theorem dX9_done_31 : decode cX9_done 31 = .ok (.iload_n 2, 1) := by decide +kernel
theorem dX9_done_32 : decode cX9_done 32 = .ok (.aload_n 0, 1) := by decide +kernel
theorem dX9_done_33 : decode cX9_done 33 = .ok (.getfield 29, 3) := by decide +kernel
theorem dX9_done_36 : decode cX9_done 36 = .ok (.iload_n 2, 1) := by decide +kernel
theorem dX9_done_37 : decode cX9_done 37 = .ok (.iaload, 1) := by decide +kernel
theorem dX9_done_38 : decode cX9_done 38 = .ok (.iastore, 1) := by decide +kernel
theorem dX9_done_39 : decode cX9_done 39 = .ok (.iinc 2 1, 3) := by decide +kernel
theorem dX9_done_42 : decode cX9_done 42 = .ok (.goto (-21), 3) := by decide +kernel
theorem dX9_done_45 : decode cX9_done 45 = .ok (.aload_n 0, 1) := by decide +kernel
theorem dX9_done_46 : decode cX9_done 46 = .ok (.iconst 0, 1) := by decide +kernel
theorem dX9_done_47 : decode cX9_done 47 = .ok (.putfield 71, 3) := by decide +kernel
theorem dX9_done_50 : decode cX9_done 50 = .ok (.aload_n 0, 1) := by decide +kernel
theorem dX9_done_51 : decode cX9_done 51 = .ok (.getfield 101, 3) := by decide +kernel
theorem dX9_done_54 : decode cX9_done 54 = .ok (.ireturn, 1) := by decide +kernel
set_option maxRecDepth 20000 in
theorem ggX9_at_X9_in : GoodIn wsX9_at wsX9_in := goodIn_r _ [6] (by decide +kernel) (by decide +kernel)
set_option maxRecDepth 20000 in
theorem gX9_at_X9_in : GoodIn wsX9_at (va_wsS RX9 63 yX9_in wsX9_in) := goodIn_app (goodIn_of _ (by decide +kernel)) ggX9_at_X9_in
theorem dX9_at_0 : decode cX9_at 0 = .ok (.iload_n 1, 1) := by decide +kernel
theorem dX9_at_1 : decode cX9_at 1 = .ok (.iconst 0, 1) := by decide +kernel
theorem dX9_at_2 : decode cX9_at 2 = .ok (.aload_n 0, 1) := by decide +kernel
theorem dX9_at_3 : decode cX9_at 3 = .ok (.getfield 13, 3) := by decide +kernel
theorem dX9_at_6 : decode cX9_at 6 = .ok (.iconst 1, 1) := by decide +kernel
theorem dX9_at_7 : decode cX9_at 7 = .ok (.isub, 1) := by decide +kernel
theorem dX9_at_8 : decode cX9_at 8 = .ok (.invokestatic 63, 3) := by decide +kernel
theorem dX9_at_11 : decode cX9_at 11 = .ok (.ifCond .eq 12, 3) := by decide +kernel
theorem dX9_at_14 : decode cX9_at 14 = .ok (.aload_n 0, 1) := by decide +kernel
theorem dX9_at_15 : decode cX9_at 15 = .ok (.getfield 20, 3) := by decide +kernel
theorem dX9_at_18 : decode cX9_at 18 = .ok (.iload_n 1, 1) := by decide +kernel
theorem dX9_at_19 : decode cX9_at 19 = .ok (.iaload, 1) := by decide +kernel
theorem dX9_at_20 : decode cX9_at 20 = .ok (.goto 4, 3) := by decide +kernel
theorem dX9_at_23 : decode cX9_at 23 = .ok (.iconst (-1), 1) := by decide +kernel
theorem dX9_at_24 : decode cX9_at 24 = .ok (.ireturn, 1) := by decide +kernel
set_option maxRecDepth 20000 in
theorem ggX9_behind_X9_barOfDay : GoodIn wsX9_behind wsX9_barOfDay := goodIn_r _ [7, 8, 9, 10, 6, 11, 12, 13, 14, 15, 16, 17, 18, 19, 20, 21, 22, 23, 24, 25, 26, 27, 28, 29, 30, 31, 32, 33, 1, 2, 34, 35, 36, 37, 38, 39, 40, 41, 42, 43, 44, 45, 46, 47, 48, 49, 50, 51, 52, 53, 54, 55, 56, 57, 58, 59, 60, 61, 62, 63, 64, 65, 66, 67, 68, 69, 70, 71, 72, 73] (by decide +kernel) (by decide +kernel)
set_option maxRecDepth 20000 in
theorem gX9_behind_X9_barOfDay : GoodIn wsX9_behind (wsV RX9 115 RX9 yX9_barOfDay wsX9_barOfDay) := goodIn_app (goodIn_of _ (by decide +kernel)) ggX9_behind_X9_barOfDay
set_option maxRecDepth 20000 in
theorem ggX9_behind_X9_in : GoodIn wsX9_behind wsX9_in := goodIn_r _ [19] (by decide +kernel) (by decide +kernel)
set_option maxRecDepth 20000 in
theorem gX9_behind_X9_in : GoodIn wsX9_behind (va_wsS RX9 63 yX9_in wsX9_in) := goodIn_app (goodIn_of _ (by decide +kernel)) ggX9_behind_X9_in
theorem dX9_behind_0 : decode cX9_behind 0 = .ok (.aload_n 0, 1) := by decide +kernel
theorem dX9_behind_1 : decode cX9_behind 1 = .ok (.invokevirtual 115, 3) := by decide +kernel
theorem dX9_behind_4 : decode cX9_behind 4 = .ok (.istore_n 2, 1) := by decide +kernel
theorem dX9_behind_5 : decode cX9_behind 5 = .ok (.iload_n 2, 1) := by decide +kernel
theorem dX9_behind_6 : decode cX9_behind 6 = .ok (.ifCond .ge 7, 3) := by decide +kernel
theorem dX9_behind_9 : decode cX9_behind 9 = .ok (.iload_n 2, 1) := by decide +kernel
theorem dX9_behind_10 : decode cX9_behind 10 = .ok (.goto 40, 3) := by decide +kernel
theorem dX9_behind_13 : decode cX9_behind 13 = .ok (.iload_n 1, 1) := by decide +kernel
theorem dX9_behind_14 : decode cX9_behind 14 = .ok (.iconst (-1), 1) := by decide +kernel
theorem dX9_behind_15 : decode cX9_behind 15 = .ok (.if_icmp .ne 10, 3) := by decide +kernel
theorem dX9_behind_18 : decode cX9_behind 18 = .ok (.aload_n 0, 1) := by decide +kernel
theorem dX9_behind_19 : decode cX9_behind 19 = .ok (.getfield 81, 3) := by decide +kernel
theorem dX9_behind_22 : decode cX9_behind 22 = .ok (.goto 28, 3) := by decide +kernel
theorem dX9_behind_25 : decode cX9_behind 25 = .ok (.iload_n 1, 1) := by decide +kernel
theorem dX9_behind_26 : decode cX9_behind 26 = .ok (.iconst 0, 1) := by decide +kernel
theorem dX9_behind_27 : decode cX9_behind 27 = .ok (.aload_n 0, 1) := by decide +kernel
theorem dX9_behind_28 : decode cX9_behind 28 = .ok (.getfield 81, 3) := by decide +kernel
theorem dX9_behind_31 : decode cX9_behind 31 = .ok (.iconst 1, 1) := by decide +kernel
theorem dX9_behind_32 : decode cX9_behind 32 = .ok (.isub, 1) := by decide +kernel
theorem dX9_behind_33 : decode cX9_behind 33 = .ok (.invokestatic 63, 3) := by decide +kernel
theorem dX9_behind_36 : decode cX9_behind 36 = .ok (.ifCond .eq 12, 3) := by decide +kernel
theorem dX9_behind_39 : decode cX9_behind 39 = .ok (.aload_n 0, 1) := by decide +kernel
theorem dX9_behind_40 : decode cX9_behind 40 = .ok (.getfield 29, 3) := by decide +kernel
theorem dX9_behind_43 : decode cX9_behind 43 = .ok (.iload_n 1, 1) := by decide +kernel
theorem dX9_behind_44 : decode cX9_behind 44 = .ok (.iaload, 1) := by decide +kernel
theorem dX9_behind_45 : decode cX9_behind 45 = .ok (.goto 5, 3) := by decide +kernel
theorem dX9_behind_48 : decode cX9_behind 48 = .ok (.bipush (-6), 2) := by decide +kernel
theorem dX9_behind_50 : decode cX9_behind 50 = .ok (.ireturn, 1) := by decide +kernel
theorem dX9_valueAt_0 : decode cX9_valueAt 0 = .ok (.aload_n 0, 1) := by decide +kernel
theorem dX9_valueAt_1 : decode cX9_valueAt 1 = .ok (.getfield 16, 3) := by decide +kernel
theorem dX9_valueAt_4 : decode cX9_valueAt 4 = .ok (.aload_n 0, 1) := by decide +kernel
theorem dX9_valueAt_5 : decode cX9_valueAt 5 = .ok (.getfield 29, 3) := by decide +kernel
theorem dX9_valueAt_8 : decode cX9_valueAt 8 = .ok (.iload_n 1, 1) := by decide +kernel
theorem dX9_valueAt_9 : decode cX9_valueAt 9 = .ok (.iaload, 1) := by decide +kernel
theorem dX9_valueAt_10 : decode cX9_valueAt 10 = .ok (.iaload, 1) := by decide +kernel
theorem dX9_valueAt_11 : decode cX9_valueAt 11 = .ok (.ireturn, 1) := by decide +kernel
theorem dX9_isPrime_0 : decode cX9_isPrime 0 = .ok (.iload_n 0, 1) := by decide +kernel
theorem dX9_isPrime_1 : decode cX9_isPrime 1 = .ok (.iconst 1, 1) := by decide +kernel
theorem dX9_isPrime_2 : decode cX9_isPrime 2 = .ok (.if_icmp .le 7, 3) := by decide +kernel
theorem dX9_isPrime_5 : decode cX9_isPrime 5 = .ok (.iconst 1, 1) := by decide +kernel
theorem dX9_isPrime_6 : decode cX9_isPrime 6 = .ok (.goto 4, 3) := by decide +kernel
theorem dX9_isPrime_9 : decode cX9_isPrime 9 = .ok (.iconst 0, 1) := by decide +kernel
theorem dX9_isPrime_10 : decode cX9_isPrime 10 = .ok (.istore_n 1, 1) := by decide +kernel
theorem dX9_isPrime_11 : decode cX9_isPrime 11 = .ok (.iconst 2, 1) := by decide +kernel
theorem dX9_isPrime_12 : decode cX9_isPrime 12 = .ok (.istore_n 2, 1) := by decide +kernel
theorem dX9_isPrime_13 : decode cX9_isPrime 13 = .ok (.iload_n 2, 1) := by decide +kernel
theorem dX9_isPrime_14 : decode cX9_isPrime 14 = .ok (.iload_n 2, 1) := by decide +kernel
theorem dX9_isPrime_15 : decode cX9_isPrime 15 = .ok (.imul, 1) := by decide +kernel
theorem dX9_isPrime_16 : decode cX9_isPrime 16 = .ok (.iload_n 0, 1) := by decide +kernel
theorem dX9_isPrime_17 : decode cX9_isPrime 17 = .ok (.if_icmp .gt 25, 3) := by decide +kernel
theorem dX9_isPrime_20 : decode cX9_isPrime 20 = .ok (.iload_n 1, 1) := by decide +kernel
theorem dX9_isPrime_21 : decode cX9_isPrime 21 = .ok (.ifCond .eq 13, 3) := by decide +kernel
theorem dX9_isPrime_24 : decode cX9_isPrime 24 = .ok (.iload_n 0, 1) := by decide +kernel
theorem dX9_isPrime_25 : decode cX9_isPrime 25 = .ok (.iload_n 2, 1) := by decide +kernel
theorem dX9_isPrime_26 : decode cX9_isPrime 26 = .ok (.irem, 1) := by decide +kernel
theorem dX9_isPrime_27 : decode cX9_isPrime 27 = .ok (.ifCond .le 7, 3) := by decide +kernel
theorem dX9_isPrime_30 : decode cX9_isPrime 30 = .ok (.iconst 1, 1) := by decide +kernel
theorem dX9_isPrime_31 : decode cX9_isPrime 31 = .ok (.goto 4, 3) := by decide +kernel
theorem dX9_isPrime_34 : decode cX9_isPrime 34 = .ok (.iconst 0, 1) := by decide +kernel
theorem dX9_isPrime_35 : decode cX9_isPrime 35 = .ok (.istore_n 1, 1) := by decide +kernel
theorem dX9_isPrime_36 : decode cX9_isPrime 36 = .ok (.iinc 2 1, 3) := by decide +kernel
theorem dX9_isPrime_39 : decode cX9_isPrime 39 = .ok (.goto (-26), 3) := by decide +kernel
theorem dX9_isPrime_42 : decode cX9_isPrime 42 = .ok (.iload_n 1, 1) := by decide +kernel
theorem dX9_isPrime_43 : decode cX9_isPrime 43 = .ok (.ireturn, 1) := by decide +kernel
theorem dX9_isSquare_0 : decode cX9_isSquare 0 = .ok (.iconst 0, 1) := by decide +kernel
theorem dX9_isSquare_1 : decode cX9_isSquare 1 = .ok (.istore_n 1, 1) := by decide +kernel
theorem dX9_isSquare_2 : decode cX9_isSquare 2 = .ok (.iload_n 1, 1) := by decide +kernel
theorem dX9_isSquare_3 : decode cX9_isSquare 3 = .ok (.iload_n 1, 1) := by decide +kernel
theorem dX9_isSquare_4 : decode cX9_isSquare 4 = .ok (.imul, 1) := by decide +kernel
theorem dX9_isSquare_5 : decode cX9_isSquare 5 = .ok (.iload_n 0, 1) := by decide +kernel
theorem dX9_isSquare_6 : decode cX9_isSquare 6 = .ok (.if_icmp .ge 9, 3) := by decide +kernel
theorem dX9_isSquare_9 : decode cX9_isSquare 9 = .ok (.iinc 1 1, 3) := by decide +kernel
theorem dX9_isSquare_12 : decode cX9_isSquare 12 = .ok (.goto (-10), 3) := by decide +kernel
theorem dX9_isSquare_15 : decode cX9_isSquare 15 = .ok (.iload_n 1, 1) := by decide +kernel
theorem dX9_isSquare_16 : decode cX9_isSquare 16 = .ok (.iload_n 1, 1) := by decide +kernel
theorem dX9_isSquare_17 : decode cX9_isSquare 17 = .ok (.imul, 1) := by decide +kernel
theorem dX9_isSquare_18 : decode cX9_isSquare 18 = .ok (.iload_n 0, 1) := by decide +kernel
theorem dX9_isSquare_19 : decode cX9_isSquare 19 = .ok (.if_icmp .ne 7, 3) := by decide +kernel
theorem dX9_isSquare_22 : decode cX9_isSquare 22 = .ok (.iconst 1, 1) := by decide +kernel
theorem dX9_isSquare_23 : decode cX9_isSquare 23 = .ok (.goto 4, 3) := by decide +kernel
theorem dX9_isSquare_26 : decode cX9_isSquare 26 = .ok (.iconst 0, 1) := by decide +kernel
theorem dX9_isSquare_27 : decode cX9_isSquare 27 = .ok (.ireturn, 1) := by decide +kernel
theorem dX9_isTimes_0 : decode cX9_isTimes 0 = .ok (.iload_n 1, 1) := by decide +kernel
theorem dX9_isTimes_1 : decode cX9_isTimes 1 = .ok (.ifCond .ne 15, 3) := by decide +kernel
theorem dX9_isTimes_4 : decode cX9_isTimes 4 = .ok (.iload_n 0, 1) := by decide +kernel
theorem dX9_isTimes_5 : decode cX9_isTimes 5 = .ok (.ifCond .ne 7, 3) := by decide +kernel
theorem dX9_isTimes_8 : decode cX9_isTimes 8 = .ok (.iconst 1, 1) := by decide +kernel
theorem dX9_isTimes_9 : decode cX9_isTimes 9 = .ok (.goto 18, 3) := by decide +kernel
theorem dX9_isTimes_12 : decode cX9_isTimes 12 = .ok (.iconst 0, 1) := by decide +kernel
theorem dX9_isTimes_13 : decode cX9_isTimes 13 = .ok (.goto 14, 3) := by decide +kernel
theorem dX9_isTimes_16 : decode cX9_isTimes 16 = .ok (.iload_n 0, 1) := by decide +kernel
theorem dX9_isTimes_17 : decode cX9_isTimes 17 = .ok (.iload_n 1, 1) := by decide +kernel
theorem dX9_isTimes_18 : decode cX9_isTimes 18 = .ok (.irem, 1) := by decide +kernel
theorem dX9_isTimes_19 : decode cX9_isTimes 19 = .ok (.ifCond .ne 7, 3) := by decide +kernel
theorem dX9_isTimes_22 : decode cX9_isTimes 22 = .ok (.iconst 1, 1) := by decide +kernel
theorem dX9_isTimes_23 : decode cX9_isTimes 23 = .ok (.goto 4, 3) := by decide +kernel
theorem dX9_isTimes_26 : decode cX9_isTimes 26 = .ok (.iconst 0, 1) := by decide +kernel
theorem dX9_isTimes_27 : decode cX9_isTimes 27 = .ok (.ireturn, 1) := by decide +kernel
set_option maxRecDepth 20000 in
theorem ggX9_sumOf_X9_valueAt : GoodIn wsX9_sumOf wsX9_valueAt := goodIn_r _ [5, 6, 7, 8, 9, 10, 11, 12, 13, 14, 15, 16, 17, 18, 19, 20, 21, 22, 23, 24, 25, 26] (by decide +kernel) (by decide +kernel)
set_option maxRecDepth 20000 in
theorem gX9_sumOf_X9_valueAt : GoodIn wsX9_sumOf (wsV RX9 118 RX9 yX9_valueAt wsX9_valueAt) := goodIn_app (goodIn_of _ (by decide +kernel)) ggX9_sumOf_X9_valueAt
theorem dX9_sumOf_0 : decode cX9_sumOf 0 = .ok (.iconst 0, 1) := by decide +kernel
theorem dX9_sumOf_1 : decode cX9_sumOf 1 = .ok (.istore_n 3, 1) := by decide +kernel
theorem dX9_sumOf_2 : decode cX9_sumOf 2 = .ok (.iload_n 1, 1) := by decide +kernel
theorem dX9_sumOf_3 : decode cX9_sumOf 3 = .ok (.istore 4, 2) := by decide +kernel
theorem dX9_sumOf_5 : decode cX9_sumOf 5 = .ok (.iload 4, 2) := by decide +kernel
theorem dX9_sumOf_7 : decode cX9_sumOf 7 = .ok (.iload_n 2, 1) := by decide +kernel
theorem dX9_sumOf_8 : decode cX9_sumOf 8 = .ok (.if_icmp .ge 18, 3) := by decide +kernel
theorem dX9_sumOf_11 : decode cX9_sumOf 11 = .ok (.iload_n 3, 1) := by decide +kernel
theorem dX9_sumOf_12 : decode cX9_sumOf 12 = .ok (.aload_n 0, 1) := by decide +kernel
theorem dX9_sumOf_13 : decode cX9_sumOf 13 = .ok (.iload 4, 2) := by decide +kernel
theorem dX9_sumOf_15 : decode cX9_sumOf 15 = .ok (.invokevirtual 118, 3) := by decide +kernel
theorem dX9_sumOf_18 : decode cX9_sumOf 18 = .ok (.iadd, 1) := by decide +kernel
theorem dX9_sumOf_19 : decode cX9_sumOf 19 = .ok (.istore_n 3, 1) := by decide +kernel
theorem dX9_sumOf_20 : decode cX9_sumOf 20 = .ok (.iinc 4 1, 3) := by decide +kernel
theorem dX9_sumOf_23 : decode cX9_sumOf 23 = .ok (.goto (-18), 3) := by decide +kernel
theorem dX9_sumOf_26 : decode cX9_sumOf 26 = .ok (.iload_n 3, 1) := by decide +kernel
theorem dX9_sumOf_27 : decode cX9_sumOf 27 = .ok (.ireturn, 1) := by decide +kernel
set_option maxRecDepth 20000 in
theorem ggX9_isTaught_X9_valueAt : GoodIn wsX9_isTaught wsX9_valueAt := goodIn_r _ [6, 7, 8, 22, 23, 24, 25, 26, 27, 28, 29, 30, 31, 32, 33, 34, 35, 36, 37, 38, 39, 40] (by decide +kernel) (by decide +kernel)
set_option maxRecDepth 20000 in
theorem gX9_isTaught_X9_valueAt : GoodIn wsX9_isTaught (wsV RX9 118 RX9 yX9_valueAt wsX9_valueAt) := goodIn_app (goodIn_of _ (by decide +kernel)) ggX9_isTaught_X9_valueAt
set_option maxRecDepth 20000 in
theorem ggX9_isTaught_X9_isPrime : GoodIn wsX9_isTaught wsX9_isPrime := goodIn_r _ [11] (by decide +kernel) (by decide +kernel)
set_option maxRecDepth 20000 in
theorem gX9_isTaught_X9_isPrime : GoodIn wsX9_isTaught (va_wsS RX9 121 yX9_isPrime wsX9_isPrime) := goodIn_app (goodIn_of _ (by decide +kernel)) ggX9_isTaught_X9_isPrime
set_option maxRecDepth 20000 in
theorem ggX9_isTaught_X9_sumOf : GoodIn wsX9_isTaught wsX9_sumOf := goodIn_r _ [15, 2, 3, 4, 5, 6, 7, 8, 22, 23, 24, 25, 26, 27, 28, 29, 30, 31, 32, 33, 34, 35, 36, 37, 38, 39, 40] (by decide +kernel) (by decide +kernel)
set_option maxRecDepth 20000 in
theorem gX9_isTaught_X9_sumOf : GoodIn wsX9_isTaught (wsV RX9 124 RX9 yX9_sumOf wsX9_sumOf) := goodIn_app (goodIn_of _ (by decide +kernel)) ggX9_isTaught_X9_sumOf
set_option maxRecDepth 20000 in
theorem ggX9_isTaught_X9_isSquare : GoodIn wsX9_isTaught wsX9_isSquare := goodIn_r _ [18] (by decide +kernel) (by decide +kernel)
set_option maxRecDepth 20000 in
theorem gX9_isTaught_X9_isSquare : GoodIn wsX9_isTaught (va_wsS RX9 128 yX9_isSquare wsX9_isSquare) := goodIn_app (goodIn_of _ (by decide +kernel)) ggX9_isTaught_X9_isSquare
set_option maxRecDepth 20000 in
theorem ggX9_isTaught_X9_isTimes : GoodIn wsX9_isTaught wsX9_isTimes := goodIn_r _ [21] (by decide +kernel) (by decide +kernel)
set_option maxRecDepth 20000 in
theorem gX9_isTaught_X9_isTimes : GoodIn wsX9_isTaught (va_wsS RX9 131 yX9_isTimes wsX9_isTimes) := goodIn_app (goodIn_of _ (by decide +kernel)) ggX9_isTaught_X9_isTimes
theorem dX9_isTaught_0 : decode cX9_isTaught 0 = .ok (.iload_n 1, 1) := by decide +kernel
theorem dX9_isTaught_1 : decode cX9_isTaught 1 = .ok (.iconst 2, 1) := by decide +kernel
theorem dX9_isTaught_2 : decode cX9_isTaught 2 = .ok (.if_icmp .ne 12, 3) := by decide +kernel
theorem dX9_isTaught_5 : decode cX9_isTaught 5 = .ok (.aload_n 0, 1) := by decide +kernel
theorem dX9_isTaught_6 : decode cX9_isTaught 6 = .ok (.iconst 0, 1) := by decide +kernel
theorem dX9_isTaught_7 : decode cX9_isTaught 7 = .ok (.invokevirtual 118, 3) := by decide +kernel
theorem dX9_isTaught_10 : decode cX9_isTaught 10 = .ok (.invokestatic 121, 3) := by decide +kernel
theorem dX9_isTaught_13 : decode cX9_isTaught 13 = .ok (.ireturn, 1) := by decide +kernel
theorem dX9_isTaught_14 : decode cX9_isTaught 14 = .ok (.iload_n 1, 1) := by decide +kernel
theorem dX9_isTaught_15 : decode cX9_isTaught 15 = .ok (.iconst 3, 1) := by decide +kernel
theorem dX9_isTaught_16 : decode cX9_isTaught 16 = .ok (.if_icmp .ne 28, 3) := by decide +kernel
theorem dX9_isTaught_19 : decode cX9_isTaught 19 = .ok (.aload_n 0, 1) := by decide +kernel
theorem dX9_isTaught_20 : decode cX9_isTaught 20 = .ok (.iconst 0, 1) := by decide +kernel
theorem dX9_isTaught_21 : decode cX9_isTaught 21 = .ok (.aload_n 0, 1) := by decide +kernel
theorem dX9_isTaught_22 : decode cX9_isTaught 22 = .ok (.getfield 81, 3) := by decide +kernel
theorem dX9_isTaught_25 : decode cX9_isTaught 25 = .ok (.iconst 3, 1) := by decide +kernel
theorem dX9_isTaught_26 : decode cX9_isTaught 26 = .ok (.if_icmp .ge 10, 3) := by decide +kernel
theorem dX9_isTaught_29 : decode cX9_isTaught 29 = .ok (.aload_n 0, 1) := by decide +kernel
theorem dX9_isTaught_30 : decode cX9_isTaught 30 = .ok (.getfield 81, 3) := by decide +kernel
theorem dX9_isTaught_33 : decode cX9_isTaught 33 = .ok (.goto 4, 3) := by decide +kernel
theorem dX9_isTaught_36 : decode cX9_isTaught 36 = .ok (.iconst 3, 1) := by decide +kernel
theorem dX9_isTaught_37 : decode cX9_isTaught 37 = .ok (.invokevirtual 124, 3) := by decide +kernel
theorem dX9_isTaught_40 : decode cX9_isTaught 40 = .ok (.invokestatic 128, 3) := by decide +kernel
theorem dX9_isTaught_43 : decode cX9_isTaught 43 = .ok (.ireturn, 1) := by decide +kernel
theorem dX9_isTaught_44 : decode cX9_isTaught 44 = .ok (.iload_n 1, 1) := by decide +kernel
theorem dX9_isTaught_45 : decode cX9_isTaught 45 = .ok (.bipush 6, 2) := by decide +kernel
theorem dX9_isTaught_47 : decode cX9_isTaught 47 = .ok (.if_icmp .ne 37, 3) := by decide +kernel
theorem dX9_isTaught_50 : decode cX9_isTaught 50 = .ok (.aload_n 0, 1) := by decide +kernel
theorem dX9_isTaught_51 : decode cX9_isTaught 51 = .ok (.iconst 0, 1) := by decide +kernel
theorem dX9_isTaught_52 : decode cX9_isTaught 52 = .ok (.aload_n 0, 1) := by decide +kernel
theorem dX9_isTaught_53 : decode cX9_isTaught 53 = .ok (.getfield 81, 3) := by decide +kernel
theorem dX9_isTaught_56 : decode cX9_isTaught 56 = .ok (.iconst 2, 1) := by decide +kernel
theorem dX9_isTaught_57 : decode cX9_isTaught 57 = .ok (.idiv, 1) := by decide +kernel
theorem dX9_isTaught_58 : decode cX9_isTaught 58 = .ok (.invokevirtual 124, 3) := by decide +kernel
theorem dX9_isTaught_61 : decode cX9_isTaught 61 = .ok (.aload_n 0, 1) := by decide +kernel
theorem dX9_isTaught_62 : decode cX9_isTaught 62 = .ok (.aload_n 0, 1) := by decide +kernel
theorem dX9_isTaught_63 : decode cX9_isTaught 63 = .ok (.getfield 81, 3) := by decide +kernel
theorem dX9_isTaught_66 : decode cX9_isTaught 66 = .ok (.iconst 2, 1) := by decide +kernel
theorem dX9_isTaught_67 : decode cX9_isTaught 67 = .ok (.idiv, 1) := by decide +kernel
theorem dX9_isTaught_68 : decode cX9_isTaught 68 = .ok (.aload_n 0, 1) := by decide +kernel
theorem dX9_isTaught_69 : decode cX9_isTaught 69 = .ok (.getfield 81, 3) := by decide +kernel
theorem dX9_isTaught_72 : decode cX9_isTaught 72 = .ok (.invokevirtual 124, 3) := by decide +kernel
theorem dX9_isTaught_75 : decode cX9_isTaught 75 = .ok (.if_icmp .ne 7, 3) := by decide +kernel
theorem dX9_isTaught_78 : decode cX9_isTaught 78 = .ok (.iconst 1, 1) := by decide +kernel
theorem dX9_isTaught_79 : decode cX9_isTaught 79 = .ok (.goto 4, 3) := by decide +kernel
theorem dX9_isTaught_82 : decode cX9_isTaught 82 = .ok (.iconst 0, 1) := by decide +kernel
theorem dX9_isTaught_83 : decode cX9_isTaught 83 = .ok (.ireturn, 1) := by decide +kernel
theorem dX9_isTaught_84 : decode cX9_isTaught 84 = .ok (.iconst 1, 1) := by decide +kernel
theorem dX9_isTaught_85 : decode cX9_isTaught 85 = .ok (.istore_n 2, 1) := by decide +kernel
theorem dX9_isTaught_86 : decode cX9_isTaught 86 = .ok (.iconst 1, 1) := by decide +kernel
theorem dX9_isTaught_87 : decode cX9_isTaught 87 = .ok (.istore_n 3, 1) := by decide +kernel
theorem dX9_isTaught_88 : decode cX9_isTaught 88 = .ok (.iload_n 3, 1) := by decide +kernel
theorem dX9_isTaught_89 : decode cX9_isTaught 89 = .ok (.aload_n 0, 1) := by decide +kernel
theorem dX9_isTaught_90 : decode cX9_isTaught 90 = .ok (.getfield 81, 3) := by decide +kernel
theorem dX9_isTaught_93 : decode cX9_isTaught 93 = .ok (.if_icmp .ge 134, 3) := by decide +kernel
theorem dX9_isTaught_96 : decode cX9_isTaught 96 = .ok (.aload_n 0, 1) := by decide +kernel
theorem dX9_isTaught_97 : decode cX9_isTaught 97 = .ok (.iload_n 3, 1) := by decide +kernel
theorem dX9_isTaught_98 : decode cX9_isTaught 98 = .ok (.iconst 1, 1) := by decide +kernel
theorem dX9_isTaught_99 : decode cX9_isTaught 99 = .ok (.isub, 1) := by decide +kernel
theorem dX9_isTaught_100 : decode cX9_isTaught 100 = .ok (.invokevirtual 118, 3) := by decide +kernel
theorem dX9_isTaught_103 : decode cX9_isTaught 103 = .ok (.istore 4, 2) := by decide +kernel
theorem dX9_isTaught_105 : decode cX9_isTaught 105 = .ok (.aload_n 0, 1) := by decide +kernel
theorem dX9_isTaught_106 : decode cX9_isTaught 106 = .ok (.iload_n 3, 1) := by decide +kernel
theorem dX9_isTaught_107 : decode cX9_isTaught 107 = .ok (.invokevirtual 118, 3) := by decide +kernel
theorem dX9_isTaught_110 : decode cX9_isTaught 110 = .ok (.istore 5, 2) := by decide +kernel
theorem dX9_isTaught_112 : decode cX9_isTaught 112 = .ok (.iload_n 1, 1) := by decide +kernel
theorem dX9_isTaught_113 : decode cX9_isTaught 113 = .ok (.ifCond .ne 18, 3) := by decide +kernel
theorem dX9_isTaught_116 : decode cX9_isTaught 116 = .ok (.iload 4, 2) := by decide +kernel
theorem dX9_isTaught_118 : decode cX9_isTaught 118 = .ok (.iload 5, 2) := by decide +kernel
theorem dX9_isTaught_120 : decode cX9_isTaught 120 = .ok (.if_icmp .ge 7, 3) := by decide +kernel
theorem dX9_isTaught_123 : decode cX9_isTaught 123 = .ok (.iconst 1, 1) := by decide +kernel
theorem dX9_isTaught_124 : decode cX9_isTaught 124 = .ok (.goto 80, 3) := by decide +kernel
theorem dX9_isTaught_127 : decode cX9_isTaught 127 = .ok (.iconst 0, 1) := by decide +kernel
theorem dX9_isTaught_128 : decode cX9_isTaught 128 = .ok (.goto 76, 3) := by decide +kernel
theorem dX9_isTaught_131 : decode cX9_isTaught 131 = .ok (.iload_n 1, 1) := by decide +kernel
theorem dX9_isTaught_132 : decode cX9_isTaught 132 = .ok (.iconst 1, 1) := by decide +kernel
theorem dX9_isTaught_133 : decode cX9_isTaught 133 = .ok (.if_icmp .ne 22, 3) := by decide +kernel
theorem dX9_isTaught_136 : decode cX9_isTaught 136 = .ok (.iload 4, 2) := by decide +kernel
theorem dX9_isTaught_138 : decode cX9_isTaught 138 = .ok (.iconst 2, 1) := by decide +kernel
theorem dX9_isTaught_139 : decode cX9_isTaught 139 = .ok (.irem, 1) := by decide +kernel
theorem dX9_isTaught_140 : decode cX9_isTaught 140 = .ok (.iload 5, 2) := by decide +kernel
theorem dX9_isTaught_142 : decode cX9_isTaught 142 = .ok (.iconst 2, 1) := by decide +kernel
theorem dX9_isTaught_143 : decode cX9_isTaught 143 = .ok (.irem, 1) := by decide +kernel
theorem dX9_isTaught_144 : decode cX9_isTaught 144 = .ok (.if_icmp .gt 7, 3) := by decide +kernel
theorem dX9_isTaught_147 : decode cX9_isTaught 147 = .ok (.iconst 1, 1) := by decide +kernel
theorem dX9_isTaught_148 : decode cX9_isTaught 148 = .ok (.goto 56, 3) := by decide +kernel
theorem dX9_isTaught_151 : decode cX9_isTaught 151 = .ok (.iconst 0, 1) := by decide +kernel
theorem dX9_isTaught_152 : decode cX9_isTaught 152 = .ok (.goto 52, 3) := by decide +kernel
theorem dX9_isTaught_155 : decode cX9_isTaught 155 = .ok (.iload_n 1, 1) := by decide +kernel
theorem dX9_isTaught_156 : decode cX9_isTaught 156 = .ok (.iconst 4, 1) := by decide +kernel
theorem dX9_isTaught_157 : decode cX9_isTaught 157 = .ok (.if_icmp .ne 22, 3) := by decide +kernel
theorem dX9_isTaught_160 : decode cX9_isTaught 160 = .ok (.iload 4, 2) := by decide +kernel
theorem dX9_isTaught_162 : decode cX9_isTaught 162 = .ok (.iconst 2, 1) := by decide +kernel
theorem dX9_isTaught_163 : decode cX9_isTaught 163 = .ok (.irem, 1) := by decide +kernel
theorem dX9_isTaught_164 : decode cX9_isTaught 164 = .ok (.iload 5, 2) := by decide +kernel
theorem dX9_isTaught_166 : decode cX9_isTaught 166 = .ok (.iconst 2, 1) := by decide +kernel
theorem dX9_isTaught_167 : decode cX9_isTaught 167 = .ok (.irem, 1) := by decide +kernel
theorem dX9_isTaught_168 : decode cX9_isTaught 168 = .ok (.if_icmp .eq 7, 3) := by decide +kernel
theorem dX9_isTaught_171 : decode cX9_isTaught 171 = .ok (.iconst 1, 1) := by decide +kernel
theorem dX9_isTaught_172 : decode cX9_isTaught 172 = .ok (.goto 32, 3) := by decide +kernel
theorem dX9_isTaught_175 : decode cX9_isTaught 175 = .ok (.iconst 0, 1) := by decide +kernel
theorem dX9_isTaught_176 : decode cX9_isTaught 176 = .ok (.goto 28, 3) := by decide +kernel
theorem dX9_isTaught_179 : decode cX9_isTaught 179 = .ok (.iload 4, 2) := by decide +kernel
theorem dX9_isTaught_181 : decode cX9_isTaught 181 = .ok (.iload 5, 2) := by decide +kernel
theorem dX9_isTaught_183 : decode cX9_isTaught 183 = .ok (.invokestatic 131, 3) := by decide +kernel
theorem dX9_isTaught_186 : decode cX9_isTaught 186 = .ok (.ifCond .ne 13, 3) := by decide +kernel
theorem dX9_isTaught_189 : decode cX9_isTaught 189 = .ok (.iload 5, 2) := by decide +kernel
theorem dX9_isTaught_191 : decode cX9_isTaught 191 = .ok (.iload 4, 2) := by decide +kernel
theorem dX9_isTaught_193 : decode cX9_isTaught 193 = .ok (.invokestatic 131, 3) := by decide +kernel
theorem dX9_isTaught_196 : decode cX9_isTaught 196 = .ok (.ifCond .eq 7, 3) := by decide +kernel
theorem dX9_isTaught_199 : decode cX9_isTaught 199 = .ok (.iconst 1, 1) := by decide +kernel
theorem dX9_isTaught_200 : decode cX9_isTaught 200 = .ok (.goto 4, 3) := by decide +kernel
theorem dX9_isTaught_203 : decode cX9_isTaught 203 = .ok (.iconst 0, 1) := by decide +kernel
theorem dX9_isTaught_204 : decode cX9_isTaught 204 = .ok (.istore 6, 2) := by decide +kernel
theorem dX9_isTaught_206 : decode cX9_isTaught 206 = .ok (.iload_n 2, 1) := by decide +kernel
theorem dX9_isTaught_207 : decode cX9_isTaught 207 = .ok (.ifCond .eq 12, 3) := by decide +kernel
theorem dX9_isTaught_210 : decode cX9_isTaught 210 = .ok (.iload 6, 2) := by decide +kernel
theorem dX9_isTaught_212 : decode cX9_isTaught 212 = .ok (.ifCond .eq 7, 3) := by decide +kernel
theorem dX9_isTaught_215 : decode cX9_isTaught 215 = .ok (.iconst 1, 1) := by decide +kernel
theorem dX9_isTaught_216 : decode cX9_isTaught 216 = .ok (.goto 4, 3) := by decide +kernel
theorem dX9_isTaught_219 : decode cX9_isTaught 219 = .ok (.iconst 0, 1) := by decide +kernel
theorem dX9_isTaught_220 : decode cX9_isTaught 220 = .ok (.istore_n 2, 1) := by decide +kernel
theorem dX9_isTaught_221 : decode cX9_isTaught 221 = .ok (.iinc 3 1, 3) := by decide +kernel
theorem dX9_isTaught_224 : decode cX9_isTaught 224 = .ok (.goto (-136), 3) := by decide +kernel
theorem dX9_isTaught_227 : decode cX9_isTaught 227 = .ok (.iload_n 2, 1) := by decide +kernel
theorem dX9_isTaught_228 : decode cX9_isTaught 228 = .ok (.ireturn, 1) := by decide +kernel
set_option maxRecDepth 20000 in
theorem ggX9_taught_X9_in : GoodIn wsX9_taught wsX9_in := goodIn_r _ [4] (by decide +kernel) (by decide +kernel)
set_option maxRecDepth 20000 in
theorem gX9_taught_X9_in : GoodIn wsX9_taught (va_wsS RX9 63 yX9_in wsX9_in) := goodIn_app (goodIn_of _ (by decide +kernel)) ggX9_taught_X9_in
set_option maxRecDepth 20000 in
theorem ggX9_taught_X9_barOfDay : GoodIn wsX9_taught wsX9_barOfDay := goodIn_r _ [8, 9, 10, 11, 3, 12, 13, 14, 15, 16, 17, 1, 2, 4, 18, 19, 20, 21, 22, 23, 24, 25, 26, 27, 28, 29, 30, 31, 32, 33, 34, 35, 36, 37, 38, 39, 40, 41, 42, 43, 44, 45, 46, 47, 48, 49, 50, 51, 52, 53, 54, 77, 78, 79, 80, 81, 82, 83, 84, 85, 86, 87, 88, 89, 90, 91, 92, 93, 94, 95] (by decide +kernel) (by decide +kernel)
set_option maxRecDepth 20000 in
theorem gX9_taught_X9_barOfDay : GoodIn wsX9_taught (wsV RX9 115 RX9 yX9_barOfDay wsX9_barOfDay) := goodIn_app (goodIn_of _ (by decide +kernel)) ggX9_taught_X9_barOfDay
set_option maxRecDepth 20000 in
theorem ggX9_taught_X9_asNow : GoodIn wsX9_taught wsX9_asNow := goodIn_r _ [30, 31, 32, 33, 34, 77, 78, 79, 80, 81, 82, 83, 84, 85, 86, 87, 88, 89, 90, 91, 92, 93, 94, 95] (by decide +kernel) (by decide +kernel)
set_option maxRecDepth 20000 in
theorem gX9_taught_X9_asNow : GoodIn wsX9_taught (wsV RX9 98 RX9 yX9_asNow wsX9_asNow) := goodIn_app (goodIn_of _ (by decide +kernel)) ggX9_taught_X9_asNow
set_option maxRecDepth 20000 in
theorem ggX9_taught_X9_isTaught : GoodIn wsX9_taught wsX9_isTaught := goodIn_r _ [58, 32, 59, 60, 61, 3, 62, 63, 33, 64, 65, 66, 67, 68, 69, 70, 71, 72, 73, 74, 75, 76, 77, 78, 79, 80, 81, 82, 83, 84, 85, 86, 87, 88, 89, 90, 91, 92, 93, 94, 95] (by decide +kernel) (by decide +kernel)
set_option maxRecDepth 20000 in
theorem gX9_taught_X9_isTaught : GoodIn wsX9_taught (wsV RX9 134 RX9 yX9_isTaught wsX9_isTaught) := goodIn_app (goodIn_of _ (by decide +kernel)) ggX9_taught_X9_isTaught
theorem dX9_taught_0 : decode cX9_taught 0 = .ok (.iload_n 1, 1) := by decide +kernel
theorem dX9_taught_1 : decode cX9_taught 1 = .ok (.iconst 0, 1) := by decide +kernel
theorem dX9_taught_2 : decode cX9_taught 2 = .ok (.iconst 1, 1) := by decide +kernel
theorem dX9_taught_3 : decode cX9_taught 3 = .ok (.invokestatic 63, 3) := by decide +kernel
theorem dX9_taught_6 : decode cX9_taught 6 = .ok (.ifCond .ne 6, 3) := by decide +kernel
theorem dX9_taught_9 : decode cX9_taught 9 = .ok (.bipush (-2), 2) := by decide +kernel
theorem dX9_taught_11 : decode cX9_taught 11 = .ok (.ireturn, 1) := by decide +kernel
theorem dX9_taught_12 : decode cX9_taught 12 = .ok (.iload_n 1, 1) := by decide +kernel
theorem dX9_taught_13 : decode cX9_taught 13 = .ok (.iconst 1, 1) := by decide +kernel
theorem dX9_taught_14 : decode cX9_taught 14 = .ok (.if_icmp .ne 10, 3) := by decide +kernel
theorem dX9_taught_17 : decode cX9_taught 17 = .ok (.aload_n 0, 1) := by decide +kernel
theorem dX9_taught_18 : decode cX9_taught 18 = .ok (.invokevirtual 115, 3) := by decide +kernel
theorem dX9_taught_21 : decode cX9_taught 21 = .ok (.goto 4, 3) := by decide +kernel
theorem dX9_taught_24 : decode cX9_taught 24 = .ok (.iconst 0, 1) := by decide +kernel
theorem dX9_taught_25 : decode cX9_taught 25 = .ok (.istore_n 2, 1) := by decide +kernel
theorem dX9_taught_26 : decode cX9_taught 26 = .ok (.iload_n 2, 1) := by decide +kernel
theorem dX9_taught_27 : decode cX9_taught 27 = .ok (.ifCond .ge 5, 3) := by decide +kernel
theorem dX9_taught_30 : decode cX9_taught 30 = .ok (.iload_n 2, 1) := by decide +kernel
theorem dX9_taught_31 : decode cX9_taught 31 = .ok (.ireturn, 1) := by decide +kernel
theorem dX9_taught_32 : decode cX9_taught 32 = .ok (.iload_n 1, 1) := by decide +kernel
theorem dX9_taught_33 : decode cX9_taught 33 = .ok (.ifCond .ne 7, 3) := by decide +kernel
theorem dX9_taught_36 : decode cX9_taught 36 = .ok (.aload_n 0, 1) := by decide +kernel
theorem dX9_taught_37 : decode cX9_taught 37 = .ok (.invokevirtual 98, 3) := by decide +kernel
theorem dX9_taught_40 : decode cX9_taught 40 = .ok (.iconst 0, 1) := by decide +kernel
theorem dX9_taught_41 : decode cX9_taught 41 = .ok (.istore_n 3, 1) := by decide +kernel
theorem dX9_taught_42 : decode cX9_taught 42 = .ok (.iconst 0, 1) := by decide +kernel
theorem dX9_taught_43 : decode cX9_taught 43 = .ok (.istore 4, 2) := by decide +kernel
theorem dX9_taught_45 : decode cX9_taught 45 = .ok (.iload 4, 2) := by decide +kernel
theorem dX9_taught_47 : decode cX9_taught 47 = .ok (.bipush 7, 2) := by decide +kernel
theorem dX9_taught_49 : decode cX9_taught 49 = .ok (.if_icmp .ge 29, 3) := by decide +kernel
theorem dX9_taught_52 : decode cX9_taught 52 = .ok (.iload_n 3, 1) := by decide +kernel
theorem dX9_taught_53 : decode cX9_taught 53 = .ok (.aload_n 0, 1) := by decide +kernel
theorem dX9_taught_54 : decode cX9_taught 54 = .ok (.iload 4, 2) := by decide +kernel
theorem dX9_taught_56 : decode cX9_taught 56 = .ok (.invokevirtual 134, 3) := by decide +kernel
theorem dX9_taught_59 : decode cX9_taught 59 = .ok (.ifCond .eq 10, 3) := by decide +kernel
theorem dX9_taught_62 : decode cX9_taught 62 = .ok (.iconst 1, 1) := by decide +kernel
theorem dX9_taught_63 : decode cX9_taught 63 = .ok (.iload 4, 2) := by decide +kernel
theorem dX9_taught_65 : decode cX9_taught 65 = .ok (.ishl, 1) := by decide +kernel
theorem dX9_taught_66 : decode cX9_taught 66 = .ok (.goto 4, 3) := by decide +kernel
theorem dX9_taught_69 : decode cX9_taught 69 = .ok (.iconst 0, 1) := by decide +kernel
theorem dX9_taught_70 : decode cX9_taught 70 = .ok (.ior, 1) := by decide +kernel
theorem dX9_taught_71 : decode cX9_taught 71 = .ok (.istore_n 3, 1) := by decide +kernel
theorem dX9_taught_72 : decode cX9_taught 72 = .ok (.iinc 4 1, 3) := by decide +kernel
theorem dX9_taught_75 : decode cX9_taught 75 = .ok (.goto (-30), 3) := by decide +kernel
theorem dX9_taught_78 : decode cX9_taught 78 = .ok (.iload_n 3, 1) := by decide +kernel
theorem dX9_taught_79 : decode cX9_taught 79 = .ok (.ireturn, 1) := by decide +kernel
set_option maxRecDepth 20000 in
theorem ggX9_read_X9_in : GoodIn wsX9_read wsX9_in := goodIn_r _ [5] (by decide +kernel) (by decide +kernel)
set_option maxRecDepth 20000 in
theorem gX9_read_X9_in : GoodIn wsX9_read (va_wsS RX9 63 yX9_in wsX9_in) := goodIn_app (goodIn_of _ (by decide +kernel)) ggX9_read_X9_in
set_option maxRecDepth 20000 in
theorem ggX9_read_X9_asNow : GoodIn wsX9_read wsX9_asNow := goodIn_r _ [9, 10, 1, 11, 12, 22, 23, 24, 25, 26, 27, 28, 29, 30, 31, 32, 33, 34, 35, 36, 37, 38, 39, 40] (by decide +kernel) (by decide +kernel)
set_option maxRecDepth 20000 in
theorem gX9_read_X9_asNow : GoodIn wsX9_read (wsV RX9 98 RX9 yX9_asNow wsX9_asNow) := goodIn_app (goodIn_of _ (by decide +kernel)) ggX9_read_X9_asNow
set_option maxRecDepth 20000 in
theorem ggX9_read_X9_sumOf : GoodIn wsX9_read wsX9_sumOf := goodIn_r _ [16, 17, 18, 19, 4, 20, 21, 11, 22, 23, 24, 25, 26, 27, 28, 29, 30, 31, 32, 33, 34, 35, 36, 37, 38, 39, 40] (by decide +kernel) (by decide +kernel)
set_option maxRecDepth 20000 in
theorem gX9_read_X9_sumOf : GoodIn wsX9_read (wsV RX9 124 RX9 yX9_sumOf wsX9_sumOf) := goodIn_app (goodIn_of _ (by decide +kernel)) ggX9_read_X9_sumOf
theorem dX9_read_0 : decode cX9_read 0 = .ok (.iload_n 1, 1) := by decide +kernel
theorem dX9_read_1 : decode cX9_read 1 = .ok (.iconst 0, 1) := by decide +kernel
theorem dX9_read_2 : decode cX9_read 2 = .ok (.sipush 693, 3) := by decide +kernel
theorem dX9_read_5 : decode cX9_read 5 = .ok (.invokestatic 63, 3) := by decide +kernel
theorem dX9_read_8 : decode cX9_read 8 = .ok (.ifCond .eq 12, 3) := by decide +kernel
theorem dX9_read_11 : decode cX9_read 11 = .ok (.iload_n 2, 1) := by decide +kernel
theorem dX9_read_12 : decode cX9_read 12 = .ok (.iconst 0, 1) := by decide +kernel
theorem dX9_read_13 : decode cX9_read 13 = .ok (.iconst 2, 1) := by decide +kernel
theorem dX9_read_14 : decode cX9_read 14 = .ok (.invokestatic 63, 3) := by decide +kernel
theorem dX9_read_17 : decode cX9_read 17 = .ok (.ifCond .ne 6, 3) := by decide +kernel
theorem dX9_read_20 : decode cX9_read 20 = .ok (.bipush (-2), 2) := by decide +kernel
theorem dX9_read_22 : decode cX9_read 22 = .ok (.ireturn, 1) := by decide +kernel
theorem dX9_read_23 : decode cX9_read 23 = .ok (.aload_n 0, 1) := by decide +kernel
theorem dX9_read_24 : decode cX9_read 24 = .ok (.invokevirtual 98, 3) := by decide +kernel
theorem dX9_read_27 : decode cX9_read 27 = .ok (.iconst 0, 1) := by decide +kernel
theorem dX9_read_28 : decode cX9_read 28 = .ok (.istore_n 3, 1) := by decide +kernel
theorem dX9_read_29 : decode cX9_read 29 = .ok (.bipush (-6), 2) := by decide +kernel
theorem dX9_read_31 : decode cX9_read 31 = .ok (.istore 4, 2) := by decide +kernel
theorem dX9_read_33 : decode cX9_read 33 = .ok (.bipush (-6), 2) := by decide +kernel
theorem dX9_read_35 : decode cX9_read 35 = .ok (.istore 5, 2) := by decide +kernel
theorem dX9_read_37 : decode cX9_read 37 = .ok (.iconst 0, 1) := by decide +kernel
theorem dX9_read_38 : decode cX9_read 38 = .ok (.istore 6, 2) := by decide +kernel
theorem dX9_read_40 : decode cX9_read 40 = .ok (.iload 6, 2) := by decide +kernel
theorem dX9_read_42 : decode cX9_read 42 = .ok (.aload_n 0, 1) := by decide +kernel
theorem dX9_read_43 : decode cX9_read 43 = .ok (.getfield 81, 3) := by decide +kernel
theorem dX9_read_46 : decode cX9_read 46 = .ok (.if_icmp .ge 84, 3) := by decide +kernel
theorem dX9_read_49 : decode cX9_read 49 = .ok (.iload 6, 2) := by decide +kernel
theorem dX9_read_51 : decode cX9_read 51 = .ok (.iconst 1, 1) := by decide +kernel
theorem dX9_read_52 : decode cX9_read 52 = .ok (.iadd, 1) := by decide +kernel
theorem dX9_read_53 : decode cX9_read 53 = .ok (.istore 7, 2) := by decide +kernel
theorem dX9_read_55 : decode cX9_read 55 = .ok (.iload 7, 2) := by decide +kernel
theorem dX9_read_57 : decode cX9_read 57 = .ok (.aload_n 0, 1) := by decide +kernel
theorem dX9_read_58 : decode cX9_read 58 = .ok (.getfield 81, 3) := by decide +kernel
theorem dX9_read_61 : decode cX9_read 61 = .ok (.if_icmp .gt 63, 3) := by decide +kernel
theorem dX9_read_64 : decode cX9_read 64 = .ok (.aload_n 0, 1) := by decide +kernel
theorem dX9_read_65 : decode cX9_read 65 = .ok (.iload 6, 2) := by decide +kernel
theorem dX9_read_67 : decode cX9_read 67 = .ok (.iload 7, 2) := by decide +kernel
theorem dX9_read_69 : decode cX9_read 69 = .ok (.invokevirtual 124, 3) := by decide +kernel
theorem dX9_read_72 : decode cX9_read 72 = .ok (.iload_n 1, 1) := by decide +kernel
theorem dX9_read_73 : decode cX9_read 73 = .ok (.if_icmp .ne 45, 3) := by decide +kernel
theorem dX9_read_76 : decode cX9_read 76 = .ok (.iload_n 3, 1) := by decide +kernel
theorem dX9_read_77 : decode cX9_read 77 = .ok (.ifCond .ne 8, 3) := by decide +kernel
theorem dX9_read_80 : decode cX9_read 80 = .ok (.iload 6, 2) := by decide +kernel
theorem dX9_read_82 : decode cX9_read 82 = .ok (.goto 5, 3) := by decide +kernel
theorem dX9_read_85 : decode cX9_read 85 = .ok (.iload 4, 2) := by decide +kernel
theorem dX9_read_87 : decode cX9_read 87 = .ok (.istore 4, 2) := by decide +kernel
theorem dX9_read_89 : decode cX9_read 89 = .ok (.iload_n 3, 1) := by decide +kernel
theorem dX9_read_90 : decode cX9_read 90 = .ok (.ifCond .eq 13, 3) := by decide +kernel
theorem dX9_read_93 : decode cX9_read 93 = .ok (.iload 7, 2) := by decide +kernel
theorem dX9_read_95 : decode cX9_read 95 = .ok (.iload 6, 2) := by decide +kernel
theorem dX9_read_97 : decode cX9_read 97 = .ok (.isub, 1) := by decide +kernel
theorem dX9_read_98 : decode cX9_read 98 = .ok (.iload 5, 2) := by decide +kernel
theorem dX9_read_100 : decode cX9_read 100 = .ok (.if_icmp .ge 11, 3) := by decide +kernel
theorem dX9_read_103 : decode cX9_read 103 = .ok (.iload 7, 2) := by decide +kernel
theorem dX9_read_105 : decode cX9_read 105 = .ok (.iload 6, 2) := by decide +kernel
theorem dX9_read_107 : decode cX9_read 107 = .ok (.isub, 1) := by decide +kernel
theorem dX9_read_108 : decode cX9_read 108 = .ok (.goto 5, 3) := by decide +kernel
theorem dX9_read_111 : decode cX9_read 111 = .ok (.iload 5, 2) := by decide +kernel
theorem dX9_read_113 : decode cX9_read 113 = .ok (.istore 5, 2) := by decide +kernel
theorem dX9_read_115 : decode cX9_read 115 = .ok (.iinc 3 1, 3) := by decide +kernel
theorem dX9_read_118 : decode cX9_read 118 = .ok (.iinc 7 1, 3) := by decide +kernel
theorem dX9_read_121 : decode cX9_read 121 = .ok (.goto (-66), 3) := by decide +kernel
theorem dX9_read_124 : decode cX9_read 124 = .ok (.iinc 6 1, 3) := by decide +kernel
theorem dX9_read_127 : decode cX9_read 127 = .ok (.goto (-87), 3) := by decide +kernel
theorem dX9_read_130 : decode cX9_read 130 = .ok (.iload_n 2, 1) := by decide +kernel
theorem dX9_read_131 : decode cX9_read 131 = .ok (.ifCond .ne 7, 3) := by decide +kernel
theorem dX9_read_134 : decode cX9_read 134 = .ok (.iload_n 3, 1) := by decide +kernel
theorem dX9_read_135 : decode cX9_read 135 = .ok (.goto 15, 3) := by decide +kernel
theorem dX9_read_138 : decode cX9_read 138 = .ok (.iload_n 2, 1) := by decide +kernel
theorem dX9_read_139 : decode cX9_read 139 = .ok (.iconst 1, 1) := by decide +kernel
theorem dX9_read_140 : decode cX9_read 140 = .ok (.if_icmp .ne 8, 3) := by decide +kernel
theorem dX9_read_143 : decode cX9_read 143 = .ok (.iload 4, 2) := by decide +kernel
theorem dX9_read_145 : decode cX9_read 145 = .ok (.goto 5, 3) := by decide +kernel
theorem dX9_read_148 : decode cX9_read 148 = .ok (.iload 5, 2) := by decide +kernel
theorem dX9_read_150 : decode cX9_read 150 = .ok (.ireturn, 1) := by decide +kernel
set_option maxRecDepth 20000 in
theorem ggX9_longest_X9_asNow : GoodIn wsX9_longest wsX9_asNow := goodIn_r _ [6, 7, 1, 8, 9, 15, 16, 17, 18, 19, 20, 21, 22, 23, 24, 25, 26, 27, 28, 29, 30, 31, 32, 33] (by decide +kernel) (by decide +kernel)
set_option maxRecDepth 20000 in
theorem gX9_longest_X9_asNow : GoodIn wsX9_longest (wsV RX9 98 RX9 yX9_asNow wsX9_asNow) := goodIn_app (goodIn_of _ (by decide +kernel)) ggX9_longest_X9_asNow
set_option maxRecDepth 20000 in
theorem ggX9_longest_X9_valueAt : GoodIn wsX9_longest wsX9_valueAt := goodIn_r _ [13, 14, 8, 15, 16, 17, 18, 19, 20, 21, 22, 23, 24, 25, 26, 27, 28, 29, 30, 31, 32, 33] (by decide +kernel) (by decide +kernel)
set_option maxRecDepth 20000 in
theorem gX9_longest_X9_valueAt : GoodIn wsX9_longest (wsV RX9 118 RX9 yX9_valueAt wsX9_valueAt) := goodIn_app (goodIn_of _ (by decide +kernel)) ggX9_longest_X9_valueAt
theorem dX9_longest_0 : decode cX9_longest 0 = .ok (.aload_n 0, 1) := by decide +kernel
theorem dX9_longest_1 : decode cX9_longest 1 = .ok (.invokevirtual 98, 3) := by decide +kernel
theorem dX9_longest_4 : decode cX9_longest 4 = .ok (.iconst 1, 1) := by decide +kernel
theorem dX9_longest_5 : decode cX9_longest 5 = .ok (.istore_n 1, 1) := by decide +kernel
theorem dX9_longest_6 : decode cX9_longest 6 = .ok (.iconst 1, 1) := by decide +kernel
theorem dX9_longest_7 : decode cX9_longest 7 = .ok (.istore_n 2, 1) := by decide +kernel
theorem dX9_longest_8 : decode cX9_longest 8 = .ok (.iconst 1, 1) := by decide +kernel
theorem dX9_longest_9 : decode cX9_longest 9 = .ok (.istore_n 3, 1) := by decide +kernel
theorem dX9_longest_10 : decode cX9_longest 10 = .ok (.iload_n 3, 1) := by decide +kernel
theorem dX9_longest_11 : decode cX9_longest 11 = .ok (.aload_n 0, 1) := by decide +kernel
theorem dX9_longest_12 : decode cX9_longest 12 = .ok (.getfield 81, 3) := by decide +kernel
theorem dX9_longest_15 : decode cX9_longest 15 = .ok (.if_icmp .ge 43, 3) := by decide +kernel
theorem dX9_longest_18 : decode cX9_longest 18 = .ok (.aload_n 0, 1) := by decide +kernel
theorem dX9_longest_19 : decode cX9_longest 19 = .ok (.iload_n 3, 1) := by decide +kernel
theorem dX9_longest_20 : decode cX9_longest 20 = .ok (.invokevirtual 118, 3) := by decide +kernel
theorem dX9_longest_23 : decode cX9_longest 23 = .ok (.aload_n 0, 1) := by decide +kernel
theorem dX9_longest_24 : decode cX9_longest 24 = .ok (.iload_n 3, 1) := by decide +kernel
theorem dX9_longest_25 : decode cX9_longest 25 = .ok (.iconst 1, 1) := by decide +kernel
theorem dX9_longest_26 : decode cX9_longest 26 = .ok (.isub, 1) := by decide +kernel
theorem dX9_longest_27 : decode cX9_longest 27 = .ok (.invokevirtual 118, 3) := by decide +kernel
theorem dX9_longest_30 : decode cX9_longest 30 = .ok (.if_icmp .le 9, 3) := by decide +kernel
theorem dX9_longest_33 : decode cX9_longest 33 = .ok (.iload_n 2, 1) := by decide +kernel
theorem dX9_longest_34 : decode cX9_longest 34 = .ok (.iconst 1, 1) := by decide +kernel
theorem dX9_longest_35 : decode cX9_longest 35 = .ok (.iadd, 1) := by decide +kernel
theorem dX9_longest_36 : decode cX9_longest 36 = .ok (.goto 4, 3) := by decide +kernel
theorem dX9_longest_39 : decode cX9_longest 39 = .ok (.iconst 1, 1) := by decide +kernel
theorem dX9_longest_40 : decode cX9_longest 40 = .ok (.istore_n 2, 1) := by decide +kernel
theorem dX9_longest_41 : decode cX9_longest 41 = .ok (.iload_n 2, 1) := by decide +kernel
theorem dX9_longest_42 : decode cX9_longest 42 = .ok (.iload_n 1, 1) := by decide +kernel
theorem dX9_longest_43 : decode cX9_longest 43 = .ok (.if_icmp .le 7, 3) := by decide +kernel
theorem dX9_longest_46 : decode cX9_longest 46 = .ok (.iload_n 2, 1) := by decide +kernel
theorem dX9_longest_47 : decode cX9_longest 47 = .ok (.goto 4, 3) := by decide +kernel
theorem dX9_longest_50 : decode cX9_longest 50 = .ok (.iload_n 1, 1) := by decide +kernel
theorem dX9_longest_51 : decode cX9_longest 51 = .ok (.istore_n 1, 1) := by decide +kernel
theorem dX9_longest_52 : decode cX9_longest 52 = .ok (.iinc 3 1, 3) := by decide +kernel
theorem dX9_longest_55 : decode cX9_longest 55 = .ok (.goto (-45), 3) := by decide +kernel
theorem dX9_longest_58 : decode cX9_longest 58 = .ok (.iload_n 1, 1) := by decide +kernel
theorem dX9_longest_59 : decode cX9_longest 59 = .ok (.ireturn, 1) := by decide +kernel
theorem dX9_rank_0 : decode cX9_rank 0 = .ok (.iconst 0, 1) := by decide +kernel
theorem dX9_rank_1 : decode cX9_rank 1 = .ok (.istore_n 1, 1) := by decide +kernel
theorem dX9_rank_2 : decode cX9_rank 2 = .ok (.iconst 0, 1) := by decide +kernel
theorem dX9_rank_3 : decode cX9_rank 3 = .ok (.istore_n 2, 1) := by decide +kernel
theorem dX9_rank_4 : decode cX9_rank 4 = .ok (.iload_n 2, 1) := by decide +kernel
theorem dX9_rank_5 : decode cX9_rank 5 = .ok (.aload_n 0, 1) := by decide +kernel
theorem dX9_rank_6 : decode cX9_rank 6 = .ok (.getfield 81, 3) := by decide +kernel
theorem dX9_rank_9 : decode cX9_rank 9 = .ok (.if_icmp .ge 66, 3) := by decide +kernel
theorem dX9_rank_12 : decode cX9_rank 12 = .ok (.iconst 0, 1) := by decide +kernel
theorem dX9_rank_13 : decode cX9_rank 13 = .ok (.istore_n 3, 1) := by decide +kernel
theorem dX9_rank_14 : decode cX9_rank 14 = .ok (.iload_n 2, 1) := by decide +kernel
theorem dX9_rank_15 : decode cX9_rank 15 = .ok (.iconst 1, 1) := by decide +kernel
theorem dX9_rank_16 : decode cX9_rank 16 = .ok (.iadd, 1) := by decide +kernel
theorem dX9_rank_17 : decode cX9_rank 17 = .ok (.istore 4, 2) := by decide +kernel
theorem dX9_rank_19 : decode cX9_rank 19 = .ok (.iload 4, 2) := by decide +kernel
theorem dX9_rank_21 : decode cX9_rank 21 = .ok (.aload_n 0, 1) := by decide +kernel
theorem dX9_rank_22 : decode cX9_rank 22 = .ok (.getfield 81, 3) := by decide +kernel
theorem dX9_rank_25 : decode cX9_rank 25 = .ok (.if_icmp .ge 33, 3) := by decide +kernel
theorem dX9_rank_28 : decode cX9_rank 28 = .ok (.iload_n 3, 1) := by decide +kernel
theorem dX9_rank_29 : decode cX9_rank 29 = .ok (.aload_n 0, 1) := by decide +kernel
theorem dX9_rank_30 : decode cX9_rank 30 = .ok (.getfield 29, 3) := by decide +kernel
theorem dX9_rank_33 : decode cX9_rank 33 = .ok (.iload 4, 2) := by decide +kernel
theorem dX9_rank_35 : decode cX9_rank 35 = .ok (.iaload, 1) := by decide +kernel
theorem dX9_rank_36 : decode cX9_rank 36 = .ok (.aload_n 0, 1) := by decide +kernel
theorem dX9_rank_37 : decode cX9_rank 37 = .ok (.getfield 29, 3) := by decide +kernel
theorem dX9_rank_40 : decode cX9_rank 40 = .ok (.iload_n 2, 1) := by decide +kernel
theorem dX9_rank_41 : decode cX9_rank 41 = .ok (.iaload, 1) := by decide +kernel
theorem dX9_rank_42 : decode cX9_rank 42 = .ok (.if_icmp .ge 7, 3) := by decide +kernel
theorem dX9_rank_45 : decode cX9_rank 45 = .ok (.iconst 1, 1) := by decide +kernel
theorem dX9_rank_46 : decode cX9_rank 46 = .ok (.goto 4, 3) := by decide +kernel
theorem dX9_rank_49 : decode cX9_rank 49 = .ok (.iconst 0, 1) := by decide +kernel
theorem dX9_rank_50 : decode cX9_rank 50 = .ok (.iadd, 1) := by decide +kernel
theorem dX9_rank_51 : decode cX9_rank 51 = .ok (.istore_n 3, 1) := by decide +kernel
theorem dX9_rank_52 : decode cX9_rank 52 = .ok (.iinc 4 1, 3) := by decide +kernel
theorem dX9_rank_55 : decode cX9_rank 55 = .ok (.goto (-36), 3) := by decide +kernel
theorem dX9_rank_58 : decode cX9_rank 58 = .ok (.iload_n 1, 1) := by decide +kernel
theorem dX9_rank_59 : decode cX9_rank 59 = .ok (.aload_n 0, 1) := by decide +kernel
theorem dX9_rank_60 : decode cX9_rank 60 = .ok (.getfield 81, 3) := by decide +kernel
theorem dX9_rank_63 : decode cX9_rank 63 = .ok (.iload_n 2, 1) := by decide +kernel
theorem dX9_rank_64 : decode cX9_rank 64 = .ok (.isub, 1) := by decide +kernel
theorem dX9_rank_65 : decode cX9_rank 65 = .ok (.imul, 1) := by decide +kernel
theorem dX9_rank_66 : decode cX9_rank 66 = .ok (.iload_n 3, 1) := by decide +kernel
theorem dX9_rank_67 : decode cX9_rank 67 = .ok (.iadd, 1) := by decide +kernel
theorem dX9_rank_68 : decode cX9_rank 68 = .ok (.istore_n 1, 1) := by decide +kernel
theorem dX9_rank_69 : decode cX9_rank 69 = .ok (.iinc 2 1, 3) := by decide +kernel
theorem dX9_rank_72 : decode cX9_rank 72 = .ok (.goto (-68), 3) := by decide +kernel
theorem dX9_rank_75 : decode cX9_rank 75 = .ok (.iload_n 1, 1) := by decide +kernel
theorem dX9_rank_76 : decode cX9_rank 76 = .ok (.ireturn, 1) := by decide +kernel
set_option maxRecDepth 20000 in
theorem ggX9_layRow_X9_asNow : GoodIn wsX9_layRow wsX9_asNow := goodIn_r _ [8, 9, 1, 3, 10, 15, 16, 17, 18, 19, 20, 21, 22, 23, 24, 25, 26, 27, 28, 29, 30, 31, 32, 33] (by decide +kernel) (by decide +kernel)
set_option maxRecDepth 20000 in
theorem gX9_layRow_X9_asNow : GoodIn wsX9_layRow (wsV RX9 98 RX9 yX9_asNow wsX9_asNow) := goodIn_app (goodIn_of _ (by decide +kernel)) ggX9_layRow_X9_asNow
set_option maxRecDepth 20000 in
theorem ggX9_layRow_X9_change : GoodIn wsX9_layRow wsX9_change := goodIn_r _ [14, 3, 15, 16, 17, 18, 19, 20, 21, 22, 23, 24, 25, 26, 27, 28, 29, 30, 31, 32, 33] (by decide +kernel) (by decide +kernel)
set_option maxRecDepth 20000 in
theorem gX9_layRow_X9_change : GoodIn wsX9_layRow (wsV RX9 84 RX9 yX9_change wsX9_change) := goodIn_app (goodIn_of _ (by decide +kernel)) ggX9_layRow_X9_change
theorem dX9_layRow_0 : decode cX9_layRow 0 = .ok (.aload_n 0, 1) := by decide +kernel
theorem dX9_layRow_1 : decode cX9_layRow 1 = .ok (.invokevirtual 98, 3) := by decide +kernel
theorem dX9_layRow_4 : decode cX9_layRow 4 = .ok (.iload_n 1, 1) := by decide +kernel
theorem dX9_layRow_5 : decode cX9_layRow 5 = .ok (.istore_n 2, 1) := by decide +kernel
theorem dX9_layRow_6 : decode cX9_layRow 6 = .ok (.aload_n 0, 1) := by decide +kernel
theorem dX9_layRow_7 : decode cX9_layRow 7 = .ok (.getfield 81, 3) := by decide +kernel
theorem dX9_layRow_10 : decode cX9_layRow 10 = .ok (.iconst 1, 1) := by decide +kernel
theorem dX9_layRow_11 : decode cX9_layRow 11 = .ok (.isub, 1) := by decide +kernel
theorem dX9_layRow_12 : decode cX9_layRow 12 = .ok (.istore_n 3, 1) := by decide +kernel
theorem dX9_layRow_13 : decode cX9_layRow 13 = .ok (.iload_n 3, 1) := by decide +kernel
theorem dX9_layRow_14 : decode cX9_layRow 14 = .ok (.ifCond .lt 32, 3) := by decide +kernel
theorem dX9_layRow_17 : decode cX9_layRow 17 = .ok (.aload_n 0, 1) := by decide +kernel
theorem dX9_layRow_18 : decode cX9_layRow 18 = .ok (.getfield 32, 3) := by decide +kernel
theorem dX9_layRow_21 : decode cX9_layRow 21 = .ok (.iload_n 3, 1) := by decide +kernel
theorem dX9_layRow_22 : decode cX9_layRow 22 = .ok (.iload_n 2, 1) := by decide +kernel
theorem dX9_layRow_23 : decode cX9_layRow 23 = .ok (.aload_n 0, 1) := by decide +kernel
theorem dX9_layRow_24 : decode cX9_layRow 24 = .ok (.getfield 81, 3) := by decide +kernel
theorem dX9_layRow_27 : decode cX9_layRow 27 = .ok (.iload_n 3, 1) := by decide +kernel
theorem dX9_layRow_28 : decode cX9_layRow 28 = .ok (.isub, 1) := by decide +kernel
theorem dX9_layRow_29 : decode cX9_layRow 29 = .ok (.irem, 1) := by decide +kernel
theorem dX9_layRow_30 : decode cX9_layRow 30 = .ok (.iastore, 1) := by decide +kernel
theorem dX9_layRow_31 : decode cX9_layRow 31 = .ok (.iload_n 2, 1) := by decide +kernel
theorem dX9_layRow_32 : decode cX9_layRow 32 = .ok (.aload_n 0, 1) := by decide +kernel
theorem dX9_layRow_33 : decode cX9_layRow 33 = .ok (.getfield 81, 3) := by decide +kernel
theorem dX9_layRow_36 : decode cX9_layRow 36 = .ok (.iload_n 3, 1) := by decide +kernel
theorem dX9_layRow_37 : decode cX9_layRow 37 = .ok (.isub, 1) := by decide +kernel
theorem dX9_layRow_38 : decode cX9_layRow 38 = .ok (.idiv, 1) := by decide +kernel
theorem dX9_layRow_39 : decode cX9_layRow 39 = .ok (.istore_n 2, 1) := by decide +kernel
theorem dX9_layRow_40 : decode cX9_layRow 40 = .ok (.iinc 3 (-1), 3) := by decide +kernel
theorem dX9_layRow_43 : decode cX9_layRow 43 = .ok (.goto (-30), 3) := by decide +kernel
theorem dX9_layRow_46 : decode cX9_layRow 46 = .ok (.iconst 1, 1) := by decide +kernel
theorem dX9_layRow_47 : decode cX9_layRow 47 = .ok (.istore_n 3, 1) := by decide +kernel
theorem dX9_layRow_48 : decode cX9_layRow 48 = .ok (.iload_n 3, 1) := by decide +kernel
theorem dX9_layRow_49 : decode cX9_layRow 49 = .ok (.aload_n 0, 1) := by decide +kernel
theorem dX9_layRow_50 : decode cX9_layRow 50 = .ok (.getfield 81, 3) := by decide +kernel
theorem dX9_layRow_53 : decode cX9_layRow 53 = .ok (.if_icmp .ge 52, 3) := by decide +kernel
theorem dX9_layRow_56 : decode cX9_layRow 56 = .ok (.iload_n 3, 1) := by decide +kernel
theorem dX9_layRow_57 : decode cX9_layRow 57 = .ok (.istore 4, 2) := by decide +kernel
theorem dX9_layRow_59 : decode cX9_layRow 59 = .ok (.iload 4, 2) := by decide +kernel
theorem dX9_layRow_61 : decode cX9_layRow 61 = .ok (.ifCond .le 38, 3) := by decide +kernel
theorem dX9_layRow_64 : decode cX9_layRow 64 = .ok (.aload_n 0, 1) := by decide +kernel
theorem dX9_layRow_65 : decode cX9_layRow 65 = .ok (.getfield 29, 3) := by decide +kernel
theorem dX9_layRow_68 : decode cX9_layRow 68 = .ok (.iload 4, 2) := by decide +kernel
theorem dX9_layRow_70 : decode cX9_layRow 70 = .ok (.iaload, 1) := by decide +kernel
theorem dX9_layRow_71 : decode cX9_layRow 71 = .ok (.aload_n 0, 1) := by decide +kernel
theorem dX9_layRow_72 : decode cX9_layRow 72 = .ok (.getfield 29, 3) := by decide +kernel
theorem dX9_layRow_75 : decode cX9_layRow 75 = .ok (.iload 4, 2) := by decide +kernel
theorem dX9_layRow_77 : decode cX9_layRow 77 = .ok (.iconst 1, 1) := by decide +kernel
theorem dX9_layRow_78 : decode cX9_layRow 78 = .ok (.isub, 1) := by decide +kernel
theorem dX9_layRow_79 : decode cX9_layRow 79 = .ok (.iaload, 1) := by decide +kernel
theorem dX9_layRow_80 : decode cX9_layRow 80 = .ok (.if_icmp .ge 19, 3) := by decide +kernel
theorem dX9_layRow_83 : decode cX9_layRow 83 = .ok (.aload_n 0, 1) := by decide +kernel
theorem dX9_layRow_84 : decode cX9_layRow 84 = .ok (.iload 4, 2) := by decide +kernel
theorem dX9_layRow_86 : decode cX9_layRow 86 = .ok (.iload 4, 2) := by decide +kernel
theorem dX9_layRow_88 : decode cX9_layRow 88 = .ok (.iconst 1, 1) := by decide +kernel
theorem dX9_layRow_89 : decode cX9_layRow 89 = .ok (.isub, 1) := by decide +kernel
theorem dX9_layRow_90 : decode cX9_layRow 90 = .ok (.invokevirtual 84, 3) := by decide +kernel
theorem dX9_layRow_93 : decode cX9_layRow 93 = .ok (.iinc 4 (-1), 3) := by decide +kernel
theorem dX9_layRow_96 : decode cX9_layRow 96 = .ok (.goto (-37), 3) := by decide +kernel
theorem dX9_layRow_99 : decode cX9_layRow 99 = .ok (.iinc 3 1, 3) := by decide +kernel
theorem dX9_layRow_102 : decode cX9_layRow 102 = .ok (.goto (-54), 3) := by decide +kernel
theorem dX9_layRow_105 : decode cX9_layRow 105 = .ok (.iconst 0, 1) := by decide +kernel
theorem dX9_layRow_106 : decode cX9_layRow 106 = .ok (.istore_n 3, 1) := by decide +kernel
theorem dX9_layRow_107 : decode cX9_layRow 107 = .ok (.iload_n 3, 1) := by decide +kernel
theorem dX9_layRow_108 : decode cX9_layRow 108 = .ok (.aload_n 0, 1) := by decide +kernel
theorem dX9_layRow_109 : decode cX9_layRow 109 = .ok (.getfield 81, 3) := by decide +kernel
theorem dX9_layRow_112 : decode cX9_layRow 112 = .ok (.if_icmp .ge 41, 3) := by decide +kernel
theorem dX9_layRow_115 : decode cX9_layRow 115 = .ok (.iload_n 3, 1) := by decide +kernel
theorem dX9_layRow_116 : decode cX9_layRow 116 = .ok (.aload_n 0, 1) := by decide +kernel
theorem dX9_layRow_117 : decode cX9_layRow 117 = .ok (.getfield 32, 3) := by decide +kernel
theorem dX9_layRow_120 : decode cX9_layRow 120 = .ok (.iload_n 3, 1) := by decide +kernel
theorem dX9_layRow_121 : decode cX9_layRow 121 = .ok (.iaload, 1) := by decide +kernel
theorem dX9_layRow_122 : decode cX9_layRow 122 = .ok (.iadd, 1) := by decide +kernel
theorem dX9_layRow_123 : decode cX9_layRow 123 = .ok (.istore 4, 2) := by decide +kernel
theorem dX9_layRow_125 : decode cX9_layRow 125 = .ok (.iload 4, 2) := by decide +kernel
theorem dX9_layRow_127 : decode cX9_layRow 127 = .ok (.iload_n 3, 1) := by decide +kernel
theorem dX9_layRow_128 : decode cX9_layRow 128 = .ok (.if_icmp .le 19, 3) := by decide +kernel
theorem dX9_layRow_131 : decode cX9_layRow 131 = .ok (.aload_n 0, 1) := by decide +kernel
theorem dX9_layRow_132 : decode cX9_layRow 132 = .ok (.iload 4, 2) := by decide +kernel
theorem dX9_layRow_134 : decode cX9_layRow 134 = .ok (.iload 4, 2) := by decide +kernel
theorem dX9_layRow_136 : decode cX9_layRow 136 = .ok (.iconst 1, 1) := by decide +kernel
theorem dX9_layRow_137 : decode cX9_layRow 137 = .ok (.isub, 1) := by decide +kernel
theorem dX9_layRow_138 : decode cX9_layRow 138 = .ok (.invokevirtual 84, 3) := by decide +kernel
theorem dX9_layRow_141 : decode cX9_layRow 141 = .ok (.iinc 4 (-1), 3) := by decide +kernel
theorem dX9_layRow_144 : decode cX9_layRow 144 = .ok (.goto (-19), 3) := by decide +kernel
theorem dX9_layRow_147 : decode cX9_layRow 147 = .ok (.iinc 3 1, 3) := by decide +kernel
theorem dX9_layRow_150 : decode cX9_layRow 150 = .ok (.goto (-43), 3) := by decide +kernel
theorem dX9_layRow_153 : decode cX9_layRow 153 = .ok (.return_, 1) := by decide +kernel
theorem dX9_kinds_0 : decode cX9_kinds 0 = .ok (.iconst 3, 1) := by decide +kernel
theorem dX9_kinds_1 : decode cX9_kinds 1 = .ok (.aload_n 0, 1) := by decide +kernel
theorem dX9_kinds_2 : decode cX9_kinds 2 = .ok (.getfield 13, 3) := by decide +kernel
theorem dX9_kinds_5 : decode cX9_kinds 5 = .ok (.imul, 1) := by decide +kernel
theorem dX9_kinds_6 : decode cX9_kinds 6 = .ok (.ireturn, 1) := by decide +kernel
set_option maxRecDepth 20000 in
theorem ggX9_goEvent_X9_bread : GoodIn wsX9_goEvent wsX9_bread := goodIn_r _ [6, 7, 8, 9, 5, 10, 11, 21, 22, 23, 24, 25, 26, 27, 28, 29, 30, 31, 32, 33, 34, 35, 36, 37, 38, 39] (by decide +kernel) (by decide +kernel)
set_option maxRecDepth 20000 in
theorem gX9_goEvent_X9_bread : GoodIn wsX9_goEvent (wsV RX9 91 RX9 yX9_bread wsX9_bread) := goodIn_app (goodIn_of _ (by decide +kernel)) ggX9_goEvent_X9_bread
set_option maxRecDepth 20000 in
theorem ggX9_goEvent_X9_pike : GoodIn wsX9_goEvent wsX9_pike := goodIn_r _ [15, 16, 7, 8, 9, 5, 10, 11, 21, 22, 23, 24, 25, 26, 27, 28, 29, 30, 31, 32, 33, 34, 35, 36, 37, 38, 39] (by decide +kernel) (by decide +kernel)
set_option maxRecDepth 20000 in
theorem gX9_goEvent_X9_pike : GoodIn wsX9_goEvent (wsV RX9 95 RX9 yX9_pike wsX9_pike) := goodIn_app (goodIn_of _ (by decide +kernel)) ggX9_goEvent_X9_pike
set_option maxRecDepth 20000 in
theorem ggX9_goEvent_X9_rain : GoodIn wsX9_goEvent wsX9_rain := goodIn_r _ [20, 16, 7, 8, 9, 5, 10, 11, 21, 22, 23, 24, 25, 26, 27, 28, 29, 30, 31, 32, 33, 34, 35, 36, 37, 38, 39] (by decide +kernel) (by decide +kernel)
set_option maxRecDepth 20000 in
theorem gX9_goEvent_X9_rain : GoodIn wsX9_goEvent (wsV RX9 88 RX9 yX9_rain wsX9_rain) := goodIn_app (goodIn_of _ (by decide +kernel)) ggX9_goEvent_X9_rain
set_option maxRecDepth 20000 in
theorem ggX9_goEvent_X9_change : GoodIn wsX9_goEvent wsX9_change := goodIn_r _ [10, 11, 21, 22, 23, 24, 25, 26, 27, 28, 29, 30, 31, 32, 33, 34, 35, 36, 37, 38, 39] (by decide +kernel) (by decide +kernel)
set_option maxRecDepth 20000 in
theorem gX9_goEvent_X9_change : GoodIn wsX9_goEvent (wsV RX9 84 RX9 yX9_change wsX9_change) := goodIn_app (goodIn_of _ (by decide +kernel)) ggX9_goEvent_X9_change
theorem dX9_goEvent_0 : decode cX9_goEvent 0 = .ok (.iload_n 1, 1) := by decide +kernel
theorem dX9_goEvent_1 : decode cX9_goEvent 1 = .ok (.aload_n 0, 1) := by decide +kernel
theorem dX9_goEvent_2 : decode cX9_goEvent 2 = .ok (.getfield 13, 3) := by decide +kernel
theorem dX9_goEvent_5 : decode cX9_goEvent 5 = .ok (.if_icmp .ge 11, 3) := by decide +kernel
theorem dX9_goEvent_8 : decode cX9_goEvent 8 = .ok (.aload_n 0, 1) := by decide +kernel
theorem dX9_goEvent_9 : decode cX9_goEvent 9 = .ok (.iload_n 1, 1) := by decide +kernel
theorem dX9_goEvent_10 : decode cX9_goEvent 10 = .ok (.invokevirtual 91, 3) := by decide +kernel
theorem dX9_goEvent_13 : decode cX9_goEvent 13 = .ok (.goto 65, 3) := by decide +kernel
theorem dX9_goEvent_16 : decode cX9_goEvent 16 = .ok (.iload_n 1, 1) := by decide +kernel
theorem dX9_goEvent_17 : decode cX9_goEvent 17 = .ok (.iconst 2, 1) := by decide +kernel
theorem dX9_goEvent_18 : decode cX9_goEvent 18 = .ok (.aload_n 0, 1) := by decide +kernel
theorem dX9_goEvent_19 : decode cX9_goEvent 19 = .ok (.getfield 13, 3) := by decide +kernel
theorem dX9_goEvent_22 : decode cX9_goEvent 22 = .ok (.imul, 1) := by decide +kernel
theorem dX9_goEvent_23 : decode cX9_goEvent 23 = .ok (.if_icmp .ge 16, 3) := by decide +kernel
theorem dX9_goEvent_26 : decode cX9_goEvent 26 = .ok (.aload_n 0, 1) := by decide +kernel
theorem dX9_goEvent_27 : decode cX9_goEvent 27 = .ok (.iload_n 1, 1) := by decide +kernel
theorem dX9_goEvent_28 : decode cX9_goEvent 28 = .ok (.aload_n 0, 1) := by decide +kernel
theorem dX9_goEvent_29 : decode cX9_goEvent 29 = .ok (.getfield 13, 3) := by decide +kernel
theorem dX9_goEvent_32 : decode cX9_goEvent 32 = .ok (.isub, 1) := by decide +kernel
theorem dX9_goEvent_33 : decode cX9_goEvent 33 = .ok (.invokevirtual 95, 3) := by decide +kernel
theorem dX9_goEvent_36 : decode cX9_goEvent 36 = .ok (.goto 42, 3) := by decide +kernel
theorem dX9_goEvent_39 : decode cX9_goEvent 39 = .ok (.iload_n 1, 1) := by decide +kernel
theorem dX9_goEvent_40 : decode cX9_goEvent 40 = .ok (.iconst 2, 1) := by decide +kernel
theorem dX9_goEvent_41 : decode cX9_goEvent 41 = .ok (.aload_n 0, 1) := by decide +kernel
theorem dX9_goEvent_42 : decode cX9_goEvent 42 = .ok (.getfield 13, 3) := by decide +kernel
theorem dX9_goEvent_45 : decode cX9_goEvent 45 = .ok (.imul, 1) := by decide +kernel
theorem dX9_goEvent_46 : decode cX9_goEvent 46 = .ok (.if_icmp .ne 10, 3) := by decide +kernel
theorem dX9_goEvent_49 : decode cX9_goEvent 49 = .ok (.aload_n 0, 1) := by decide +kernel
theorem dX9_goEvent_50 : decode cX9_goEvent 50 = .ok (.invokevirtual 88, 3) := by decide +kernel
theorem dX9_goEvent_53 : decode cX9_goEvent 53 = .ok (.goto 25, 3) := by decide +kernel
theorem dX9_goEvent_56 : decode cX9_goEvent 56 = .ok (.aload_n 0, 1) := by decide +kernel
theorem dX9_goEvent_57 : decode cX9_goEvent 57 = .ok (.iload_n 1, 1) := by decide +kernel
theorem dX9_goEvent_58 : decode cX9_goEvent 58 = .ok (.iconst 2, 1) := by decide +kernel
theorem dX9_goEvent_59 : decode cX9_goEvent 59 = .ok (.aload_n 0, 1) := by decide +kernel
theorem dX9_goEvent_60 : decode cX9_goEvent 60 = .ok (.getfield 13, 3) := by decide +kernel
theorem dX9_goEvent_63 : decode cX9_goEvent 63 = .ok (.imul, 1) := by decide +kernel
theorem dX9_goEvent_64 : decode cX9_goEvent 64 = .ok (.isub, 1) := by decide +kernel
theorem dX9_goEvent_65 : decode cX9_goEvent 65 = .ok (.iconst 1, 1) := by decide +kernel
theorem dX9_goEvent_66 : decode cX9_goEvent 66 = .ok (.isub, 1) := by decide +kernel
theorem dX9_goEvent_67 : decode cX9_goEvent 67 = .ok (.iload_n 1, 1) := by decide +kernel
theorem dX9_goEvent_68 : decode cX9_goEvent 68 = .ok (.iconst 2, 1) := by decide +kernel
theorem dX9_goEvent_69 : decode cX9_goEvent 69 = .ok (.aload_n 0, 1) := by decide +kernel
theorem dX9_goEvent_70 : decode cX9_goEvent 70 = .ok (.getfield 13, 3) := by decide +kernel
theorem dX9_goEvent_73 : decode cX9_goEvent 73 = .ok (.imul, 1) := by decide +kernel
theorem dX9_goEvent_74 : decode cX9_goEvent 74 = .ok (.isub, 1) := by decide +kernel
theorem dX9_goEvent_75 : decode cX9_goEvent 75 = .ok (.invokevirtual 84, 3) := by decide +kernel
theorem dX9_goEvent_78 : decode cX9_goEvent 78 = .ok (.return_, 1) := by decide +kernel
set_option maxRecDepth 20000 in
theorem ggX9_layPlan_X9_asNow : GoodIn wsX9_layPlan wsX9_asNow := goodIn_r _ [9, 10, 11, 12, 13, 69, 70, 71, 72, 73, 74, 75, 76, 77, 78, 79, 80, 81, 82, 83, 84, 85, 86, 87] (by decide +kernel) (by decide +kernel)
set_option maxRecDepth 20000 in
theorem gX9_layPlan_X9_asNow : GoodIn wsX9_layPlan (wsV RX9 98 RX9 yX9_asNow wsX9_asNow) := goodIn_app (goodIn_of _ (by decide +kernel)) ggX9_layPlan_X9_asNow
set_option maxRecDepth 20000 in
theorem ggX9_layPlan_X9_rank : GoodIn wsX9_layPlan wsX9_rank := goodIn_r _ [17, 11, 12, 69, 70, 71, 72, 73, 74, 75, 76, 77, 78, 79, 80, 81, 82, 83, 84, 85, 86, 87] (by decide +kernel) (by decide +kernel)
set_option maxRecDepth 20000 in
theorem gX9_layPlan_X9_rank : GoodIn wsX9_layPlan (wsV RX9 137 RX9 yX9_rank wsX9_rank) := goodIn_app (goodIn_of _ (by decide +kernel)) ggX9_layPlan_X9_rank
set_option maxRecDepth 20000 in
theorem ggX9_layPlan_X9_layRow : GoodIn wsX9_layPlan wsX9_layRow := goodIn_r _ [21, 11, 22, 12, 5, 6, 7, 8, 9, 10, 13, 23, 24, 25, 26, 69, 70, 71, 72, 73, 74, 75, 76, 77, 78, 79, 80, 81, 82, 83, 84, 85, 86, 87] (by decide +kernel) (by decide +kernel)
set_option maxRecDepth 20000 in
theorem gX9_layPlan_X9_layRow : GoodIn wsX9_layPlan (wsV RX9 140 RX9 yX9_layRow wsX9_layRow) := goodIn_app (goodIn_of _ (by decide +kernel)) ggX9_layPlan_X9_layRow
set_option maxRecDepth 20000 in
theorem ggX9_layPlan_X9_isTaught : GoodIn wsX9_layPlan wsX9_isTaught := goodIn_r _ [30, 11, 31, 32, 33, 8, 34, 35, 12, 36, 37, 38, 39, 40, 41, 42, 43, 44, 45, 46, 47, 48, 69, 70, 71, 72, 73, 74, 75, 76, 77, 78, 79, 80, 81, 82, 83, 84, 85, 86, 87] (by decide +kernel) (by decide +kernel)
set_option maxRecDepth 20000 in
theorem gX9_layPlan_X9_isTaught : GoodIn wsX9_layPlan (wsV RX9 134 RX9 yX9_isTaught wsX9_isTaught) := goodIn_app (goodIn_of _ (by decide +kernel)) ggX9_layPlan_X9_isTaught
set_option maxRecDepth 20000 in
theorem ggX9_layPlan_X9_kinds : GoodIn wsX9_layPlan wsX9_kinds := goodIn_r _ [52, 10, 69, 70, 71, 72, 73, 74, 75, 76, 77, 78, 79, 80, 81, 82, 83, 84, 85, 86, 87] (by decide +kernel) (by decide +kernel)
set_option maxRecDepth 20000 in
theorem gX9_layPlan_X9_kinds : GoodIn wsX9_layPlan (wsV RX9 143 RX9 yX9_kinds wsX9_kinds) := goodIn_app (goodIn_of _ (by decide +kernel)) ggX9_layPlan_X9_kinds
set_option maxRecDepth 20000 in
theorem ggX9_layPlan_X9_goEvent : GoodIn wsX9_layPlan wsX9_goEvent := goodIn_r _ [56, 10, 57, 58, 59, 8, 60, 23, 24, 25, 26, 12, 61, 62, 63, 64, 11, 65, 66, 67, 68, 69, 70, 71, 72, 73, 74, 75, 76, 77, 78, 79, 80, 81, 82, 83, 84, 85, 86, 87] (by decide +kernel) (by decide +kernel)
set_option maxRecDepth 20000 in
theorem gX9_layPlan_X9_goEvent : GoodIn wsX9_layPlan (wsV RX9 146 RX9 yX9_goEvent wsX9_goEvent) := goodIn_app (goodIn_of _ (by decide +kernel)) ggX9_layPlan_X9_goEvent
